/-! sorting: what the class's steps come to -/
def leF (fall x y : Int32) : Prop := if fall = 0 then x.toInt ≤ y.toInt else y.toInt ≤ x.toInt
theorem leF_tr {fall x y z : Int32} (h1 : leF fall x y) (h2 : leF fall y z) : leF fall x z := by
  unfold leF at *
  by_cases c : fall = 0
  · rw [if_pos c] at *; omega
  · rw [if_neg c] at *; omega
theorem goF_t {fall x y : Int32} (h : goF fall x y = true) : leF fall x y := by
  unfold goF at h; unfold leF
  by_cases c : fall = 0
  · rw [if_pos c] at *
    have := of_decide_eq_true h
    rw [i32_lt] at this; omega
  · rw [if_neg c] at *
    have := of_decide_eq_true h
    rw [i32_lt] at this; omega
theorem goF_f {fall x y : Int32} (h : ¬ goF fall x y = true) : leF fall y x := by
  unfold goF at h; unfold leF
  by_cases c : fall = 0
  · rw [if_pos c] at *
    have h : ¬ x < y := fun z => h (decide_eq_true z)
    rw [i32_lt] at h; omega
  · rw [if_neg c] at *
    have h : ¬ y < x := fun z => h (decide_eq_true z)
    rw [i32_lt] at h; omega
theorem ex_p (S : tS) (r b p : Nat) : S_v (S_exch S r (b + (p + 1)) (b + p)) r b p = S_v S r b (p + 1) ∧ S_v (S_exch S r (b + (p + 1)) (b + p)) r b (p + 1) = S_v S r b p ∧ ∀ t, t ≠ p → t ≠ p + 1 → S_v (S_exch S r (b + (p + 1)) (b + p)) r b t = S_v S r b t := by
  refine ⟨?_, ?_, fun t h1 h2 => ?_⟩
  · show (S_exch S r (b + (p + 1)) (b + p)).2.1 r (b + p) = _
    rw [S_exch_v, if_pos ⟨rfl, rfl⟩]
  · show (S_exch S r (b + (p + 1)) (b + p)).2.1 r (b + (p + 1)) = _
    rw [S_exch_v, if_neg (by omega), if_pos ⟨rfl, rfl⟩]
  · show (S_exch S r (b + (p + 1)) (b + p)).2.1 r (b + t) = _
    rw [S_exch_v, if_neg (by omega), if_neg (by omega)]
theorem skF_sorted (r b : Nat) (fall : Int32) (e : Nat) : ∀ p S, p ≤ e → (∀ i j, i < j → j ≤ e → i ≠ p → j ≠ p → leF fall (S_v S r b i) (S_v S r b j)) → (∀ j, p < j → j ≤ e → leF fall (S_v S r b p) (S_v S r b j)) → ∀ i j, i < j → j ≤ e → leF fall (S_v (skF r b fall p S) r b i) (S_v (skF r b fall p S) r b j)
  | 0, S, _, h1, h2, i, j, hij, hj => by
    show leF fall (S_v S r b i) (S_v S r b j)
    by_cases c : i = 0
    · subst c; exact h2 j hij hj
    · exact h1 i j hij hj c (by omega)
  | p + 1, S, hp, h1, h2, i, j, hij, hj => by
    show leF fall (S_v (if goF fall (S.2.1 r (b + (p + 1))) (S.2.1 r (b + p)) then skF r b fall p (S_exch S r (b + (p + 1)) (b + p)) else S) r b i) (S_v (if goF fall (S.2.1 r (b + (p + 1))) (S.2.1 r (b + p)) then skF r b fall p (S_exch S r (b + (p + 1)) (b + p)) else S) r b j)
    by_cases c : goF fall (S.2.1 r (b + (p + 1))) (S.2.1 r (b + p)) = true
    · rw [if_pos c]
      have hle : leF fall (S_v S r b (p + 1)) (S_v S r b p) := goF_t c
      obtain ⟨x1, x2, x3⟩ := ex_p S r b p
      refine skF_sorted r b fall e p _ (by omega) (fun i j hij hj hi hjp => ?_) (fun j hpj hj => ?_) i j hij hj
      · by_cases c1 : i = p + 1
        · rw [c1, x2, x3 j hjp (by omega)]
          exact h1 p j (by omega) hj (by omega) (by omega)
        · by_cases c2 : j = p + 1
          · rw [c2, x2, x3 i hi c1]
            exact h1 i p (by omega) (by omega) c1 (by omega)
          · rw [x3 i hi c1, x3 j hjp c2]
            exact h1 i j hij hj c1 c2
      · rw [x1]
        by_cases c2 : j = p + 1
        · rw [c2, x2]; exact hle
        · rw [x3 j (by omega) c2]
          exact h2 j (by omega) hj
    · rw [if_neg c]
      have hle : leF fall (S_v S r b p) (S_v S r b (p + 1)) := goF_f c
      by_cases c1 : i = p + 1
      · rw [c1]; exact h2 j (by omega) hj
      · by_cases c2 : j = p + 1
        · rw [c2]
          by_cases c3 : i = p
          · rw [c3]; exact hle
          · exact leF_tr (h1 i p (by omega) (by omega) c1 (by omega)) hle
        · exact h1 i j hij hj c1 c2
theorem soF_sorted (r b : Nat) (fall : Int32) (S : tS) : ∀ k i j, i < j → j ≤ k → leF fall (S_v (soF r b fall S k) r b i) (S_v (soF r b fall S k) r b j)
  | 0, i, j, h1, h2 => absurd h1 (by omega)
  | k + 1, i, j, h1, h2 => by
    refine skF_sorted r b fall (k + 1) (k + 1) (soF r b fall S k) (Nat.le_refl _) (fun i j hij hj _ hj2 => ?_) (fun j hj hj2 => absurd hj (by omega)) i j h1 h2
    exact soF_sorted r b fall S k i j hij (by omega)
theorem cn_swap {f g : Nat → Int32} {x : Int32} {p : Nat} (h1 : g p = f (p + 1)) (h2 : g (p + 1) = f p) (h3 : ∀ t, t ≠ p → t ≠ p + 1 → g t = f t) : ∀ n, p + 1 < n → cnF g x n = cnF f x n
  | 0, h => absurd h (by omega)
  | n + 1, h => by
    by_cases c : n = p + 1
    · subst c
      have e := cnF_cg (f := g) (g := f) (x := x) p (fun t ht => h3 t (by omega) (by omega))
      show cnF g x p + (if g p = x then 1 else 0) + (if g (p + 1) = x then 1 else 0) = cnF f x p + (if f p = x then 1 else 0) + (if f (p + 1) = x then 1 else 0)
      rw [h1, h2, e, Nat.add_right_comm]
    · show cnF g x n + (if g n = x then 1 else 0) = cnF f x n + (if f n = x then 1 else 0)
      rw [cn_swap h1 h2 h3 n (by omega), h3 n (by omega) c]
theorem skF_cn (r b : Nat) (fall x : Int32) (n : Nat) : ∀ p S, p < n → cnF (S_v (skF r b fall p S) r b) x n = cnF (S_v S r b) x n
  | 0, _, _ => rfl
  | p + 1, S, h => by
    show cnF (S_v (if goF fall (S.2.1 r (b + (p + 1))) (S.2.1 r (b + p)) then skF r b fall p (S_exch S r (b + (p + 1)) (b + p)) else S) r b) x n = _
    by_cases c : goF fall (S.2.1 r (b + (p + 1))) (S.2.1 r (b + p)) = true
    · rw [if_pos c, skF_cn r b fall x n p _ (by omega)]
      obtain ⟨x1, x2, x3⟩ := ex_p S r b p
      exact cn_swap x1 x2 x3 n h
    · rw [if_neg c]
theorem soF_cn (r b : Nat) (fall x : Int32) (S : tS) (n : Nat) : ∀ k, k < n ∨ k = 0 → cnF (S_v (soF r b fall S k) r b) x n = cnF (S_v S r b) x n
  | 0, _ => rfl
  | k + 1, h => by
    show cnF (S_v (skF r b fall (k + 1) (soF r b fall S k)) r b) x n = _
    rw [skF_cn r b fall x n (k + 1) _ (by omega), soF_cn r b fall x S n k (by omega)]
theorem skF_1 (r b : Nat) (fall : Int32) : ∀ p S, (skF r b fall p S).1 = S.1 ∧ (skF r b fall p S).2.2 = S.2.2 ∧ ∀ r' i, r' ≠ r → (skF r b fall p S).2.1 r' i = S.2.1 r' i
  | 0, _ => ⟨rfl, rfl, fun _ _ _ => rfl⟩
  | p + 1, S => by
    show (if goF fall (S.2.1 r (b + (p + 1))) (S.2.1 r (b + p)) then skF r b fall p (S_exch S r (b + (p + 1)) (b + p)) else S).1 = S.1 ∧ (if goF fall (S.2.1 r (b + (p + 1))) (S.2.1 r (b + p)) then skF r b fall p (S_exch S r (b + (p + 1)) (b + p)) else S).2.2 = S.2.2 ∧ ∀ r' i, r' ≠ r → (if goF fall (S.2.1 r (b + (p + 1))) (S.2.1 r (b + p)) then skF r b fall p (S_exch S r (b + (p + 1)) (b + p)) else S).2.1 r' i = S.2.1 r' i
    split
    · obtain ⟨h1, h2, h3⟩ := skF_1 r b fall p (S_exch S r (b + (p + 1)) (b + p))
      refine ⟨h1, h2, fun r' i hr => ?_⟩
      rw [h3 r' i hr, S_exch_v, if_neg (fun z => hr z.1), if_neg (fun z => hr z.1)]
    · exact ⟨rfl, rfl, fun _ _ _ => rfl⟩
theorem soF_1 (r b : Nat) (fall : Int32) (S : tS) : ∀ k, (soF r b fall S k).1 = S.1 ∧ (soF r b fall S k).2.2 = S.2.2 ∧ ∀ r' i, r' ≠ r → (soF r b fall S k).2.1 r' i = S.2.1 r' i
  | 0 => ⟨rfl, rfl, fun _ _ _ => rfl⟩
  | k + 1 => by
    obtain ⟨h1, h2, h3⟩ := skF_1 r b fall (k + 1) (soF r b fall S k)
    obtain ⟨g1, g2, g3⟩ := soF_1 r b fall S k
    exact ⟨h1.trans g1, h2.trans g2, fun r' i hr => (h3 r' i hr).trans (g3 r' i hr)⟩
theorem skF_ok {r b : Nat} (fall : Int32) (hr : r < 3) : ∀ p S, b + p < 12 → S_ok S → S_ok (skF r b fall p S)
  | 0, _, _, h => h
  | p + 1, S, hp, h => by
    show S_ok (if goF fall (S.2.1 r (b + (p + 1))) (S.2.1 r (b + p)) then skF r b fall p (S_exch S r (b + (p + 1)) (b + p)) else S)
    split
    · exact skF_ok fall hr p _ (by omega) (S_exch_ok h hr (by omega) (by omega))
    · exact h
theorem soF_ok {r b : Nat} (fall : Int32) {S : tS} (hr : r < 3) (h : S_ok S) : ∀ k, b + k < 12 ∨ k = 0 → S_ok (soF r b fall S k)
  | 0, _ => h
  | k + 1, hk => skF_ok fall hr (k + 1) _ (by omega) (soF_ok fall hr h k (by omega))
/-! counting up to a value -/
def ltF (f : Nat → Int32) (X : Int) : Nat → Nat
  | 0 => 0
  | k + 1 => ltF f X k + (if (f k).toInt < X then 1 else 0)
theorem ltF_le (f : Nat → Int32) (X : Int) : ∀ k, ltF f X k ≤ k
  | 0 => Nat.le_refl _
  | k + 1 => by
    have := ltF_le f X k
    show ltF f X k + (if (f k).toInt < X then 1 else 0) ≤ k + 1
    split <;> omega
theorem ltF_all {f : Nat → Int32} {X : Int} : ∀ k, (∀ t, t < k → (f t).toInt < X) → ltF f X k = k
  | 0, _ => rfl
  | k + 1, h => by
    show ltF f X k + (if (f k).toInt < X then 1 else 0) = k + 1
    rw [if_pos (h k (by omega)), ltF_all k (fun t ht => h t (by omega))]
theorem ltF_none {f : Nat → Int32} {X : Int} : ∀ k, (∀ t, t < k → ¬ (f t).toInt < X) → ltF f X k = 0
  | 0, _ => rfl
  | k + 1, h => by
    show ltF f X k + (if (f k).toInt < X then 1 else 0) = 0
    rw [if_neg (h k (by omega)), ltF_none k (fun t ht => h t (by omega))]
theorem ltF_at {f : Nat → Int32} {X : Int} : ∀ n, (∀ i j, i < j → j < n → (f i).toInt ≤ (f j).toInt) → ∀ t, t < n → (t < ltF f X n ↔ (f t).toInt < X)
  | 0, _, t, h => absurd h (by omega)
  | n + 1, hs, t, ht => by
    show t < ltF f X n + (if (f n).toInt < X then 1 else 0) ↔ _
    have ih := ltF_at (f := f) (X := X) n (fun i j hij hj => hs i j hij (by omega))
    by_cases c : (f n).toInt < X
    · have hall : ∀ t, t < n → (f t).toInt < X := fun t ht => by have := hs t n ht (by omega); omega
      rw [if_pos c, ltF_all n hall]
      refine ⟨fun _ => ?_, fun _ => ht⟩
      by_cases e : t = n
      · rw [e]; exact c
      · exact hall t (by omega)
    · rw [if_neg c, Nat.add_zero]
      by_cases e : t = n
      · subst e
        have := ltF_le f X t
        exact ⟨fun z => absurd z (by omega), fun z => absurd z c⟩
      · exact ih t (by omega)
theorem ltF_succ {f : Nat → Int32} {X : Int} {x : Int32} (hx : x.toInt = X) : ∀ k, ltF f (X + 1) k = ltF f X k + cnF f x k
  | 0 => rfl
  | k + 1 => by
    have ih := ltF_succ (f := f) hx k
    show ltF f (X + 1) k + (if (f k).toInt < X + 1 then 1 else 0) = ltF f X k + (if (f k).toInt < X then 1 else 0) + (cnF f x k + (if f k = x then 1 else 0))
    rw [ih]
    by_cases c : f k = x
    · rw [if_pos c, if_pos (by rw [c]; omega), if_neg (by rw [c]; omega)]; omega
    · have c2 : (f k).toInt ≠ X := fun z => c (Int32.toInt_inj.mp (z.trans hx.symm))
      rw [if_neg c]
      by_cases d : (f k).toInt < X
      · rw [if_pos d, if_pos (by omega)]; omega
      · rw [if_neg d, if_neg (by omega)]; omega
theorem cn_front (f : Nat → Int32) (x : Int32) : ∀ n, cnF f x (n + 1) = (if f 0 = x then 1 else 0) + cnF (fun t => f (t + 1)) x n
  | 0 => by
    show 0 + (if f 0 = x then 1 else 0) = (if f 0 = x then 1 else 0) + 0
    rw [Nat.zero_add, Nat.add_zero]
  | n + 1 => by
    show cnF f x (n + 1) + (if f (n + 1) = x then 1 else 0) = (if f 0 = x then 1 else 0) + (cnF (fun t => f (t + 1)) x n + (if f (n + 1) = x then 1 else 0))
    rw [cn_front f x n, Nat.add_assoc]
theorem cn_rev (f : Nat → Int32) (x : Int32) : ∀ n, cnF (fun t => f (n - 1 - t)) x n = cnF f x n
  | 0 => rfl
  | n + 1 => by
    rw [cn_front]
    show (if f (n + 1 - 1 - 0) = x then 1 else 0) + cnF (fun t => f (n + 1 - 1 - (t + 1))) x n = cnF f x n + (if f n = x then 1 else 0)
    have e := cnF_cg (f := fun t => f (n + 1 - 1 - (t + 1))) (g := fun t => f (n - 1 - t)) (x := x) n (fun t ht => by
      show f (n + 1 - 1 - (t + 1)) = f (n - 1 - t)
      rw [show n + 1 - 1 - (t + 1) = n - 1 - t by omega])
    rw [e, cn_rev f x n, show n + 1 - 1 - 0 = n by omega, Nat.add_comm]
