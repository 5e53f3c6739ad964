/-! turning a piece round, sorting -/
def tuF (r b : Nat) : Nat → Nat → Nat → tS → tS
  | 0, _, _, S => S
  | k + 1, i, e, S => if i + 1 < e then tuF r b k (i + 1) (e - 1) (S_exch S r (b + i) (b + (e - 1))) else S
def goF (fall x y : Int32) : Bool := if fall = 0 then decide (x < y) else decide (y < x)
def skF (r b : Nat) (fall : Int32) : Nat → tS → tS
  | 0, S => S
  | p + 1, S => if goF fall (S.2.1 r (b + (p + 1))) (S.2.1 r (b + p)) then skF r b fall p (S_exch S r (b + (p + 1)) (b + p)) else S
def soF (r b : Nat) (fall : Int32) (S : tS) : Nat → tS
  | 0 => S
  | k + 1 => skF r b fall (k + 1) (soF r b fall S k)
theorem nI_m1 (k : Nat) : nI k + (-1 : Int32) = nI k - 1 := by rw [Int32.sub_eq_add_neg]
theorem c_compare {K : tK} {G : tG} {x y : Int32} {pk : Int32 → tG → Prop} (h : ∀ z : Int32, (z < 0 ↔ x < y) → (0 < z ↔ y < x) → pk z G) : w_J6_compare_7cf53 K pk x y G := by
  refine ⟨fun c => ⟨fun c2 => h 1 ⟨fun q => absurd q (by decide), fun q => ?_⟩ ⟨fun _ => ?_, fun _ => by decide⟩, fun c2 => h 0 ⟨fun q => absurd q (by decide), fun q => ?_⟩ ⟨fun q => absurd q (by decide), fun q => ?_⟩⟩, fun c => h (-1) ⟨fun _ => ?_, fun _ => by decide⟩ ⟨fun q => absurd q (by decide), fun q => ?_⟩⟩
  · rw [i32_lt] at q; rw [i32_le] at c; omega
  · rw [i32_lt]; rw [i32_le] at c
    have : x.toInt ≠ y.toInt := fun e => c2 (Int32.toInt_inj.mp e)
    omega
  · subst c2; rw [i32_lt] at q; omega
  · subst c2; rw [i32_lt] at q; omega
  · rw [i32_lt]; rw [i32_le] at c; omega
  · rw [i32_lt] at q; rw [i32_le] at c; omega
section CLE
variable {K : tK} {G : tG} {L : tL} {S : tS} {post : Int32 → tG → Prop} {postX : String → tG → Prop}
theorem c_turn {pv : tG → Prop} {o r b n : Nat} (hr : r < 3) (hn : b + n ≤ 12) : ∀ (k i e : Nat) (S : tS) (G : tG), e ≤ n → i ≤ 12 → e ≤ i + k → TwR G L S → G o = some (oRL (nI r) (L.2.2.2 r) b n) → (∀ G', fr (clsW L) G G' → TwR G' L (tuF r b k i e S) → G' o = some (oRL (nI r) (L.2.2.2 r) b n) → pv G') → w_X1_turn_7 K pv (k + 1) (some o) (nI e - 1) (nI i) G := by
  intro k
  induction k with
  | zero =>
    intro i e S G he hi hk h ho hp
    show w_X1_turn_7_b K pv (w_X1_turn_7 K pv 0) (some o) (nI e - 1) (nI i) G
    refine ⟨fun _ => hp G (fr_rf _ _) h ho, fun c => absurd ?_ c⟩
    cases e with
    | zero =>
      rw [i32_le, nI_toInt (by omega)]
      have : (nI 0 - 1 : Int32).toInt = -1 := by decide
      omega
    | succ e =>
      rw [nI_pred]
      exact nI_le (by omega) (by omega)
  | succ k ih =>
    intro i e S G he hi hk h ho hp
    show w_X1_turn_7_b K pv (w_X1_turn_7 K pv (k + 1)) (some o) (nI e - 1) (nI i) G
    cases e with
    | zero =>
      refine ⟨fun _ => hp G (fr_rf _ _) (by simp only [tuF]; exact h) ho, fun c => absurd ?_ c⟩
      rw [i32_le, nI_toInt (by omega)]
      have : (nI 0 - 1 : Int32).toInt = -1 := by decide
      omega
    | succ e =>
      rw [nI_pred]
      refine ⟨fun c => ?_, fun c => ?_⟩
      · rw [nI_leI (by omega) (by omega)] at c
        have hq : ¬ i + 1 < e + 1 := by omega
        simp only [tuF, if_neg hq] at hp
        exact hp G (fr_rf _ _) h ho
      · rw [nI_leI (by omega) (by omega)] at c
        have hq : i + 1 < e + 1 := by omega
        simp only [tuF, if_pos hq] at hp
        refine rcv_i ho (c_exchange h ho hr hn rfl rfl (by omega) (by omega) (fun G' q1 q2 q3 => ?_))
        rw [nI_m1, nI_1]
        exact ih (i + 1) e _ G' (by omega) (by omega) (by omega) q2 q3 (fun G2 p1 p2 p3 => hp G2 (fr_tr q1 p1) p2 p3)
theorem c_reverse {v : Int32} (h : TwR G L S) (hp : tRes L G post postX (sp_li S (S_at S v) fun r b n => (0, nI n, tuF r b n 0 n S))) : w_X1_reverse K post postX (some L.1) v G := by
  refine c_rcv h (c_listAt h (fun c => ?_) (fun o r b n c1 c2 c3 c4 => ?_))
  · rw [c] at hp; exact (hp G (fr_rf _ _) h).2.1 rfl
  · rw [c1] at hp
    exact gfI_i c2 rfl ⟨n + 1, c_turn c3 c4 n 0 n S G (by omega) (by omega) (by omega) h c2 (fun G' q1 q2 q3 => gfI_i q3 rfl ((hp G' q1 q2).1 rfl))⟩
theorem c_sink {pv : tG → Prop} {o r b n : Nat} {fall : Int32} (hr : r < 3) (hn : b + n ≤ 12) : ∀ (p : Nat) (S : tS) (G : tG), p < n → TwR G L S → G o = some (oRL (nI r) (L.2.2.2 r) b n) → (∀ G', fr (clsW L) G G' → TwR G' L (skF r b fall p S) → G' o = some (oRL (nI r) (L.2.2.2 r) b n) → pv G') → w_X1_sink_2 K pv (p + 1) (some o) fall (nI p) G := by
  intro p
  induction p with
  | zero =>
    intro S G he h ho hp
    show w_X1_sink_2_b K pv (w_X1_sink_2 K pv 0) (some o) fall (nI 0) G
    exact ⟨fun _ => hp G (fr_rf _ _) h ho, fun c => absurd (by decide) c⟩
  | succ p ih =>
    intro S G he h ho hp
    show w_X1_sink_2_b K pv (w_X1_sink_2 K pv (p + 1)) (some o) fall (nI (p + 1)) G
    have hv := h.2.2.2.1 r hr
    refine ⟨fun c => absurd c (nI_nle (by omega) (by omega)), fun _ => rcv_i ho (l_read ho hv rfl (by omega) (by omega) (rcv_i ho (l_read ho hv (nI_pred p) (by omega) (by omega) (c_compare (fun z z1 z2 => ?_)))))⟩
    have go : goF fall (S.2.1 r (b + (p + 1))) (S.2.1 r (b + p)) = true → w_X1_sink_41 K pv (w_X1_sink_2 K pv (p + 1)) (some o) fall (nI (p + 1)) G := by
      intro hg
      simp only [skF, if_pos hg] at hp
      refine rcv_i ho (c_exchange h ho hr hn rfl (nI_pred p) (by omega) (by omega) (fun G' q1 q2 q3 => ?_))
      rw [nI_m1, nI_pred]
      exact ih _ G' (by omega) q2 q3 (fun G2 p1 p2 p3 => hp G2 (fr_tr q1 p1) p2 p3)
    have stop : ¬ goF fall (S.2.1 r (b + (p + 1))) (S.2.1 r (b + p)) = true → w_X1_sink_40 K pv G := by
      intro hg
      simp only [skF, if_neg hg] at hp
      exact hp G (fr_rf _ _) h ho
    refine ⟨fun cf => ⟨fun c => go ?_, fun c => stop ?_⟩, fun cf => ⟨fun c => go ?_, fun c => stop ?_⟩⟩
    · unfold goF; rw [if_pos cf]; exact decide_eq_true (z1.mp c)
    · unfold goF; rw [if_pos cf]; intro q; exact c (z1.mpr (of_decide_eq_true q))
    · unfold goF; rw [if_neg cf]; exact decide_eq_true (z2.mp c)
    · unfold goF; rw [if_neg cf]; intro q; exact c (z2.mpr (of_decide_eq_true q))
theorem c_sort {v fall : Int32} (h : TwR G L S) (hp : tRes L G post postX (sp_li S (S_tw S v) fun r b n => (0, nI n, soF r b fall S (n - 1)))) : w_X1_sort K post postX (some L.1) v fall G := by
  refine c_rcv h (c_twinAt h (fun c => ?_) (fun o r n e1 c1 c2 c3 c4 => ?_))
  · rw [c] at hp; exact (hp G (fr_rf _ _) h).2.1 rfl
  · have e2 : S_tw S v = some (r, 0, n) := by
      rw [e1]; unfold S_tw
      rw [nI_toInt (by omega), if_pos (by omega)]; exact c1
    rw [e2] at hp
    have main : ∀ k i G1, i + k = n - 1 → fr (clsW L) G G1 → TwR G1 L (soF r 0 fall S i) → G1 o = some (oRL (nI r) (L.2.2.2 r) 0 n) → w_X1_sort_9 K post postX (k + 1) fall (some o) (nI (i + 1)) G1 := by
      intro k
      induction k with
      | zero =>
        intro i G1 hi hf h1 ho1
        show w_X1_sort_9_b K post postX (w_X1_sort_9 K post postX 0) fall (some o) (nI (i + 1)) G1
        have e : i = n - 1 := by omega
        subst e
        exact gfI_i ho1 rfl ⟨fun _ => gfI_i ho1 rfl ((hp G1 hf h1).1 rfl), fun c => absurd (nI_le (by omega) (by omega)) c⟩
      | succ k ih =>
        intro i G1 hi hf h1 ho1
        show w_X1_sort_9_b K post postX (w_X1_sort_9 K post postX (k + 1)) fall (some o) (nI (i + 1)) G1
        refine gfI_i ho1 rfl ⟨fun c => absurd c (nI_ge (by omega) (by omega)), fun _ => ⟨i + 1 + 1, c_sink c3 (by omega) (i + 1) _ G1 (by omega) h1 ho1 (fun G' q1 q2 q3 => ?_)⟩⟩
        rw [nI_1]
        exact ih (i + 1) G' (by omega) (fr_tr hf q1) q2 q3
    exact ⟨n - 1 + 1, main (n - 1) 0 G (by omega) (fr_rf _ _) h c2⟩
end CLE
