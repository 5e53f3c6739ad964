section SNO
variable {K : tK} {G : tG} {o o2 v b n n0 N : Nat} {r : Int32} {f : Nat → Int32}
/-- a list lies in its row -/
theorem c_isInRow {pk : Int32 → tG → Prop} (ho : G o = some (oRL r v b n)) (ho2 : G o2 = some (oRL r v 0 n0)) (hv : G v = some (eI N f)) (hN : N < 2 ^ 31) (hb : b + n ≤ n0) (hn0 : n0 ≤ N) (h : pk 1 G) : w_X1_isInRow K pk (some o) (some o2) G := by
  have main : ∀ k i, i + k = n → w_X1_isInRow_20 K pk (k + 1) (some o) (some o2) (nI i) G := by
    intro k
    induction k with
    | zero =>
      intro i hi
      show w_X1_isInRow_20_b K pk (w_X1_isInRow_20 K pk 0) (some o) (some o2) (nI i) G
      refine gfI_i ho rfl ⟨fun _ => gfI_i ho rfl ?_, fun c => absurd (nI_le (by omega) (by omega)) c⟩
      refine c_codeOf ho hv hN (by omega) (gfI_i ho rfl (gfI_i ho rfl (gfI_i ho rfl ?_)))
      rw [nI_add]
      refine c_codeFrom ho2 hv hN (by omega) ⟨fun c => absurd ?_ c, fun _ => ⟨by decide, h⟩⟩
      simp only [Nat.zero_add]
    | succ k ih =>
      intro i hi
      show w_X1_isInRow_20_b K pk (w_X1_isInRow_20 K pk (k + 1)) (some o) (some o2) (nI i) G
      refine gfI_i ho rfl ⟨fun c => absurd c (nI_ge (by omega) (by omega)), fun _ => ?_⟩
      refine rcv_i ho (l_read ho hv rfl (by omega) hN (gfI_i ho rfl (rcv_i ho2 (l_read ho2 hv (nI_add b i) (by omega) hN ⟨fun _ => ?_, fun c => absurd ?_ c⟩))))
      · rw [nI_1]
        exact ih (i + 1) (by omega)
      · simp only [Nat.zero_add]
  refine gfI_i ho rfl (gfI_i ho rfl (gfI_i ho2 rfl ⟨fun _ => ⟨n + 1, main n 0 (by omega)⟩, fun c => absurd ?_ c⟩))
  rw [nI_add]
  exact nI_le hb (by omega)
end SNO
