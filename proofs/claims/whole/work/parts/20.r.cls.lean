/-! digest: pieces -/
def mxF (c v : Int64) : Int64 := c * 31 + v
def mrF (f : Nat → Int32) (c : Int64) : Nat → Int64
  | 0 => c
  | k + 1 => mxF (mrF f c k) (f k).toInt64
section CLR
variable {K : tK} {G : tG} {L : tL} {S : tS} {postX : String → tG → Prop}
theorem c_mixedWithRow {pk : Int64 → tG → Prop} {i : Nat} {c : Int64} (h : TwR G L S) (hi : i < 3) (hp : ∀ n, S.1 i = some (i, 0, n) → pk (mrF (S.2.1 i) (mxF c (nI n).toInt64) n) G) : w_X1_mixedWithRow K pk postX (some L.1) c (nI i) G := by
  refine c_rcv h (c_twinAt h (fun z => ?_) (fun o r n e1 c1 c2 c3 c4 => ?_))
  · exfalso
    unfold S_tw at z
    rw [nI_toInt (by omega), if_pos (by omega)] at z
    obtain ⟨n, e, -⟩ := h.1.1 i hi
    have z : S.1 i = none := z
    rw [z] at e; cases e
  · have e : i = r := (nI_eq (by omega) (by omega)).mp e1
    subst e
    have hp := hp n c1
    have main : ∀ k j, j + k = n → w_X1_mixedWithRow_22 K pk postX (k + 1) (some o) (mrF (S.2.1 i) (mxF c (nI n).toInt64) j) (nI j) G := by
      intro k
      induction k with
      | zero =>
        intro j hj
        show w_X1_mixedWithRow_22_b K pk postX (w_X1_mixedWithRow_22 K pk postX 0) (some o) (mrF (S.2.1 i) (mxF c (nI n).toInt64) j) (nI j) G
        have e : j = n := by omega
        subst e
        exact gfI_i c2 rfl ⟨fun _ => hp, fun z => absurd (nI_le (by omega) (by omega)) z⟩
      | succ k ih =>
        intro j hj
        show w_X1_mixedWithRow_22_b K pk postX (w_X1_mixedWithRow_22 K pk postX (k + 1)) (some o) (mrF (S.2.1 i) (mxF c (nI n).toInt64) j) (nI j) G
        refine gfI_i c2 rfl ⟨fun z => absurd z (nI_ge (by omega) (by omega)), fun _ => rcv_i c2 (l_read c2 (h.2.2.2.1 i hi) rfl (by omega) (by omega) ?_)⟩
        show w_X1_mixedWithRow_22 K pk postX (k + 1) (some o) (mxF (mrF (S.2.1 i) (mxF c (nI n).toInt64) j) (S.2.1 i (0 + j)).toInt64) (nI j + 1) G
        rw [nI_1, Nat.zero_add]
        exact ih (j + 1) (by omega)
    exact gfI_i c2 rfl ⟨n + 1, main n 0 (by omega)⟩
end CLR
