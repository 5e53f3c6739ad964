section MOC
variable {K : tK} {G : tG} {M : tM} {S : tS} {th : Int32} {post : Int32 → tG → Prop}
/-- which refusal: of the first kind, of the second, none -/
def thF (a c : Int32) : Int32 := if a = 0 then (if c = 0 then 0 else 2) else 1
theorem m_fails {a c : Int32} (h : MoR G M S th) (hp : ∀ G', fr (moW M) G G' → MoR G' M S (thF a c) → post (if thF a c = 0 then 0 else 1) G') : w_X3_fails K post (some M.1.1) a c G := by
  obtain ⟨-, ⟨sm, h2⟩, -⟩ := id h
  have hm : ∀ t, MoR (tg_up G M.1.1 (oMo M S.2.2.1 S.2.2.2 t sm)) M S t := fun t => MoR_own h S.2.2.1 S.2.2.2 t sm
  unfold thF at hp
  refine ⟨fun ca => ⟨fun cc => ?_, fun cc => ?_⟩, fun ca => ?_⟩
  · simp only [if_pos ca, if_pos cc] at hp
    exact pfV_i h2 (Nat.le_of_ble_eq_true rfl) (gfI_i (tg_s _ _ _) rfl ⟨fun _ => ⟨by decide, hp _ (fr_up _ (Or.inl rfl)) (hm 0)⟩, fun z => absurd (by decide) z⟩)
  · simp only [if_pos ca, if_neg cc] at hp
    exact pfV_i h2 (Nat.le_of_ble_eq_true rfl) (gfI_i (tg_s _ _ _) rfl ⟨fun z => absurd z (by decide), fun _ => ⟨by decide, hp _ (fr_up _ (Or.inl rfl)) (hm 2)⟩⟩)
  · simp only [if_neg ca] at hp
    exact pfV_i h2 (Nat.le_of_ble_eq_true rfl) (gfI_i (tg_s _ _ _) rfl ⟨fun z => absurd z (by decide), fun _ => ⟨by decide, hp _ (fr_up _ (Or.inl rfl)) (hm 1)⟩⟩)
theorem m_refused (h : MoR G M S th) (hp : ∀ G', fr (moW M) G G' → MoR G' M (S_ref S) th → post (-9) G') : w_X3_refused K post (some M.1.1) G := by
  obtain ⟨-, ⟨sm, h2⟩, -⟩ := id h
  exact gfI_i h2 rfl (pfV_i h2 (Nat.le_of_ble_eq_true rfl) (hp _ (fr_up _ (Or.inl rfl)) (MoR_own h S.2.2.1 (S.2.2.2 + 1) th sm)))
theorem m_refusedIf {a : Int32} (h : MoR G M S th) (h0 : a = 0 → post 0 G) (hp : a ≠ 0 → ∀ G', fr (moW M) G G' → MoR G' M (S_ref S) th → post (-9) G') : w_X3_refusedIf K post (some M.1.1) a G :=
  ⟨fun c => h0 c, fun c => m_rcv h (m_refused h (hp c))⟩
/-- what stands at a place of a list -/
theorem m_value {j i r b n : Nat} (h : MoR G M S th) (hj : j < 7) (hs : S.1 j = some (r, b, n)) (hi : i < n) (hp : post (S.2.1 r (b + i)) G) : w_X3_value K post (some M.1.1) (nI j) (nI i) G := by
  obtain ⟨hok, ⟨sm, h2⟩, ⟨mf, h3, h4⟩, ⟨fo, fb, fl, ⟨h5, h6, h7⟩, h8⟩, h9, -⟩ := h
  obtain ⟨hr, n0, e0, hn0⟩ := hok.2.1 j r b n hj hs
  have hn12 := (S_12 hok hj hs).2
  obtain ⟨f, g1, g2⟩ := h9 r hr
  rw [e0] at g1 g2
  rcases h8 j hj with ⟨c, -⟩ | ⟨r', b', n', c1, c2, c3, c4⟩
  · rw [hs] at c; cases c
  · rw [hs] at c1
    cases c1
    obtain ⟨n1, d1, d2⟩ := hok.1 r hr
    rw [e0] at d1
    cases d1
    refine gfR_i _ h2 rfl (gfR_i _ h2 rfl (alI_i h5 rfl hj (by omega) (alR_i h3 c2 hr (by omega) ?_)))
    rw [h4 r hr]
    refine gfR_i _ h2 rfl (alI_i h6 rfl hj (by omega) ?_)
    rw [c3]
    refine alI_i g1 (nI_add b i) (show b + i < n0 by omega) (show n0 < 2 ^ 31 by omega) ?_
    rw [g2 (b + i) (show b + i < n0 by omega)]
    exact hp
end MOC
