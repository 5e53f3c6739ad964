/-! isSound: pieces -/
theorem nI_subN {a b : Nat} (h : b ≤ a) : nI a - nI b = nI (a - b) := by
  have e : nI a = nI (a - b) + nI b := by rw [nI_add]; congr 1; omega
  rw [e, Int32.add_sub_cancel]
section SND
variable {K : tK} {G : tG} {o v b n N : Nat} {r : Int32} {f : Nat → Int32}
theorem c_sameBoth {pk : Int32 → tG → Prop} (ho : G o = some (oRL r v b n)) (hv : G v = some (eI N f)) (hN : N < 2 ^ 31) (hb : b + n ≤ N) (h : pk 1 G) : w_X1_isSameBothWays K pk (some o) G := by
  have main : ∀ k i, i + k = n → w_X1_isSameBothWays_2 K pk (k + 1) (some o) (nI i) G := by
    intro k
    induction k with
    | zero =>
      intro i hi
      show w_X1_isSameBothWays_2_b K pk (w_X1_isSameBothWays_2 K pk 0) (some o) (nI i) G
      exact gfI_i ho rfl ⟨fun _ => ⟨by decide, h⟩, fun c => absurd (nI_le (by omega) (by omega)) c⟩
    | succ k ih =>
      intro i hi
      show w_X1_isSameBothWays_2_b K pk (w_X1_isSameBothWays_2 K pk (k + 1)) (some o) (nI i) G
      have e1 : (0 : Int32) + nI i = nI i := Int32.zero_add _
      have e2 : nI n - 1 - (nI n - 1 - nI i) = nI i := by
        have q : nI n - 1 = nI (n - 1) := by
          have q2 : n = n - 1 + 1 := by omega
          rw [q2, nI_pred]; congr 1
        rw [q, nI_subN (by omega), nI_subN (by omega)]
        congr 1; omega
      refine gfI_i ho rfl ⟨fun c => absurd c (nI_ge (by omega) (by omega)), fun _ => ⟨fun _ => gfI_i ho rfl (gfI_i ho rfl ⟨fun z => absurd z (by decide), fun _ => ?_⟩), fun z => absurd rfl z⟩⟩
      refine rcv_i ho (l_read ho hv e1 (by omega) hN (rcv_i ho (l_read ho hv e2 (by omega) hN ⟨fun _ => ?_, fun c => absurd rfl c⟩)))
      rw [nI_1]
      exact ih (i + 1) (by omega)
  exact ⟨n + 1, main n 0 (by omega)⟩
/-- codeOf between any two places -/
theorem c_codeFrom {pk : Int32 → tG → Prop} {a m : Nat} (ho : G o = some (oRL r v b n)) (hv : G v = some (eI N f)) (hN : N < 2 ^ 31) (hb : b + (a + m) ≤ N) (h : pk (coF (fun i => f (b + (a + i))) m) G) : w_X1_codeOf K pk (some o) (nI a) (nI (a + m)) G := by
  have main : ∀ k i, i + k = m → w_X1_codeOf_5 K pk (k + 1) (some o) (nI (a + m)) (coF (fun i => f (b + (a + i))) i) (nI (a + i)) G := by
    intro k
    induction k with
    | zero =>
      intro i hi
      show w_X1_codeOf_5_b K pk (w_X1_codeOf_5 K pk 0) (some o) (nI (a + m)) (coF (fun i => f (b + (a + i))) i) (nI (a + i)) G
      have e : i = m := by omega
      subst e
      exact ⟨fun _ => h, fun c => absurd (nI_le (by omega) (by omega)) c⟩
    | succ k ih =>
      intro i hi
      show w_X1_codeOf_5_b K pk (w_X1_codeOf_5 K pk (k + 1)) (some o) (nI (a + m)) (coF (fun i => f (b + (a + i))) i) (nI (a + i)) G
      refine ⟨fun c => absurd c (nI_ge (by omega) (by omega)), fun _ => rcv_i ho (l_read ho hv rfl (by omega) hN (c_numberOf ?_))⟩
      rw [nI_1]
      exact ih (i + 1) (by omega)
  exact ⟨m + 1, main m 0 (by omega)⟩
end SND
