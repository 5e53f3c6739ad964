section MOD
variable {K : tK} {G : tG} {M : tM} {S : tS} {th : Int32} {post : Int32 → tG → Prop}
theorem inR_pl {w : Int32} {n : Nat} (hn : n < 2 ^ 30) : inR w 0 (nI n - 1) ↔ (0 ≤ w.toInt ∧ w.toInt < n) := by
  have e0 : (0 : Int32).toInt = 0 := rfl
  have e1 : (nI n - 1 : Int32).toInt = (n : Int) - 1 := nI_sub (b := 1) hn (by omega)
  unfold inR
  rw [i32_lt, i32_le, e1, e0]
  constructor
  · intro q; omega
  · intro q; omega
/-- is there no such place of a list? -/
theorem m_isNoPlace {v w : Int32} (h : MoR G M S th) (h1 : (S_at S v = none ∨ ∃ r b n, S_at S v = some (r, b, n) ∧ ¬ (0 ≤ w.toInt ∧ w.toInt < n)) → post 1 G) (h0 : ∀ j r b n i, j < 7 → v = nI j → S.1 j = some (r, b, n) → i < n → w = nI i → post 0 G) : w_X3_isNoPlace K post (some M.1.1) v w G := by
  obtain ⟨hok, ⟨sm, h2⟩, -, ⟨fo, fb, fl, ⟨h5, h6, h7⟩, h8⟩, -⟩ := id h
  refine m_rcv h (m_isNoList h (fun c => ⟨fun _ => ⟨by decide, h1 (Or.inl c)⟩, fun z => absurd z (by decide)⟩) (fun j r b n hj ev hs => ⟨fun z => absurd rfl z, fun _ => ?_⟩))
  subst ev
  refine gfR_i _ h2 rfl (alI_i h7 rfl hj (by omega) ?_)
  have hn12 := (S_12 hok hj hs).2
  rcases h8 j hj with ⟨c, -⟩ | ⟨r', b', n', c1, c2, c3, c4⟩
  · rw [hs] at c; cases c
  · rw [hs] at c1
    cases c1
    rw [c4]
    refine m_isIn (fun q => ⟨fun _ => ⟨by decide, ?_⟩, fun z => absurd z (by decide)⟩) (fun q => ⟨fun z => absurd rfl z, fun _ => ⟨by decide, h1 (Or.inr ⟨r, b, n, by rw [S_at_nI S hj]; exact hs, fun z => q ((inR_pl (by omega)).mpr z)⟩)⟩⟩)
    have q2 := (inR_pl (by omega)).mp q
    obtain ⟨i, hi, e⟩ := nI_of q.1
    rw [e, nI_toInt hi] at q2
    exact h0 j r b n i hj rfl hs (by omega) e
theorem m_isBeyond {v w : Int32} (h : MoR G M S th) (hn : S_at S v = none → post 0 G) (h1 : ∀ j r b n, j < 7 → v = nI j → S.1 j = some (r, b, n) → ¬ inR w 0 (nI n) → post 1 G) (h0 : ∀ j r b n, j < 7 → v = nI j → S.1 j = some (r, b, n) → inR w 0 (nI n) → post 0 G) : w_X3_isBeyond K post (some M.1.1) v w G := by
  obtain ⟨hok, ⟨sm, h2⟩, -, ⟨fo, fb, fl, ⟨h5, h6, h7⟩, h8⟩, -⟩ := id h
  refine m_rcv h (m_isNoList h (fun c => ⟨fun _ => ⟨by decide, hn c⟩, fun z => absurd z (by decide)⟩) (fun j r b n hj ev hs => ⟨fun z => absurd rfl z, fun _ => ?_⟩))
  subst ev
  refine gfR_i _ h2 rfl (alI_i h7 rfl hj (by omega) ?_)
  rcases h8 j hj with ⟨c, -⟩ | ⟨r', b', n', c1, c2, c3, c4⟩
  · rw [hs] at c; cases c
  · rw [hs] at c1
    cases c1
    rw [c4]
    exact m_isIn (fun q => ⟨fun _ => ⟨by decide, h0 j r b n hj rfl hs q⟩, fun z => absurd z (by decide)⟩) (fun q => ⟨fun z => absurd rfl z, fun _ => ⟨by decide, h1 j r b n hj rfl hs q⟩⟩)
theorem m_isNoPair {v w : Int32} (h : MoR G M S th) (h1 : (S_at S v = none ∨ S_at S w = none) → post 1 G) (h0 : ∀ j r b n j2 r2 b2 n2, j < 7 → v = nI j → S.1 j = some (r, b, n) → j2 < 7 → w = nI j2 → S.1 j2 = some (r2, b2, n2) → post 0 G) : w_X3_isNoPair K post (some M.1.1) v w G := by
  refine m_rcv h (m_isNoList h (fun c => ⟨fun _ => ⟨by decide, h1 (Or.inl c)⟩, fun z => absurd z (by decide)⟩) (fun j r b n hj ev hs => ⟨fun z => absurd rfl z, fun _ => ?_⟩))
  exact m_rcv h (m_isNoList h (fun c => ⟨fun z => absurd z (by decide), fun _ => ⟨by decide, h1 (Or.inr c)⟩⟩) (fun j2 r2 b2 n2 hj2 ev2 hs2 => ⟨fun _ => ⟨by decide, h0 j r b n j2 r2 b2 n2 hj ev hs hj2 ev2 hs2⟩, fun z => absurd rfl z⟩))
/-- is there no such place of a row? -/
theorem m_isNoRowPlace {v w : Int32} (h : MoR G M S th) (h1 : (S_tw S v = none ∨ ∃ r b n, S_tw S v = some (r, b, n) ∧ ¬ (0 ≤ w.toInt ∧ w.toInt < n)) → post 1 G) (h0 : ∀ r n i, r < 3 → v = nI r → S.1 r = some (r, 0, n) → i < n → n ≤ 12 → w = nI i → post 0 G) : w_X3_isNoRowPlace K post (some M.1.1) v w G := by
  obtain ⟨hok, ⟨sm, h2⟩, ⟨mf, h3, h4⟩, -, h9, -⟩ := id h
  have e0 : (0 : Int32).toInt = 0 := rfl
  have e2 : (2 : Int32).toInt = 2 := rfl
  refine m_isIn (fun q => ⟨fun z => absurd z (by decide), fun _ => ?_⟩) (fun q => ⟨fun _ => ⟨by decide, h1 (Or.inl ?_)⟩, fun z => absurd rfl z⟩)
  · obtain ⟨r, hr, rfl⟩ := nI_of2 (M := 2) (n := 2) rfl q.1 q.2
    obtain ⟨n, d1, d2⟩ := hok.1 r (by omega)
    obtain ⟨f, g1, g2⟩ := h9 r (by omega)
    rw [d1] at g1
    have g1 : G (M.2 r) = some (eI n f) := g1
    refine gfR_i _ h2 rfl (alR_i h3 rfl (j := r) (by omega) (by omega) ?_)
    rw [h4 r (by omega)]
    have hat : S_tw S (nI r) = some (r, 0, n) := by
      unfold S_tw; rw [nI_toInt (by omega), if_pos (by omega)]; exact d1
    refine lenA_i g1 (m_isIn (fun q => ⟨fun _ => ⟨by decide, ?_⟩, fun z => absurd z (by decide)⟩) (fun q => ⟨fun z => absurd rfl z, fun _ => ⟨by decide, h1 (Or.inr ⟨r, 0, n, hat, fun z => q ((inR_pl (by omega)).mpr z)⟩)⟩⟩))
    have q2 := (inR_pl (n := n) (by omega)).mp q
    obtain ⟨i, hi, e⟩ := nI_of q.1
    rw [e, nI_toInt hi] at q2
    exact h0 r n i (by omega) rfl d1 (by omega) d2 e
  · unfold S_tw
    rw [if_neg]
    intro z
    apply q
    exact ⟨fun w => by rw [i32_lt] at w; omega, by rw [i32_le]; omega⟩
/-- a value is written -/
theorem MoR_put {r n k : Nat} {x : Int32} {f : Nat → Int32} (h : MoR G M S th) (hr : r < 3) (hs : S.1 r = some (r, 0, n)) (hf : G (M.2 r) = some (eI n f)) (hff : ∀ i, i < n → f i = S.2.1 r i) (hx : okV x) : MoR (tg_up G (M.2 r) (eI n (upd f k x))) M (S_put S r k x) th := by
  obtain ⟨h1, ⟨sm, h2⟩, ⟨mf, h3, h4⟩, ⟨fo, fb, fl, ⟨h5, h6, h7⟩, h8⟩, h9, h10, h11, h12⟩ := h
  have d := h11 r hr
  refine ⟨S_put_ok h1 r k hx, ⟨sm, tg_keep h2 (ne_OI h2 hf)⟩, ⟨mf, tg_keep h3 (ne_of_G h3 hf (fun e => by cases e)), h4⟩, ⟨fo, fb, fl, ⟨tg_keep h5 (fun e => d.1 e.symm), tg_keep h6 (fun e => d.2.1 e.symm), tg_keep h7 (fun e => d.2.2 e.symm)⟩, h8⟩, fun r' hr' => ?_, h10, h11, h12⟩
  show ∃ f', tg_up G (M.2 r) _ (M.2 r') = some (eI (lnF (S.1 r')) f') ∧ ∀ i, i < lnF (S.1 r') → f' i = (if r' = r then upd (S.2.1 r) k x else S.2.1 r') i
  by_cases c : r' = r
  · subst c
    rw [hs, tg_s]
    refine ⟨_, rfl, fun i hi => ?_⟩
    rw [if_pos rfl]
    have hi : i < n := hi
    simp only [upd]
    by_cases c2 : i = k
    · rw [if_pos c2, if_pos c2]
    · rw [if_neg c2, if_neg c2]; exact hff i hi
  · obtain ⟨f', g1, g2⟩ := h9 r' hr'
    refine ⟨f', by rw [tg_n _ _ (fun e => c (h12 r' r hr' hr e))]; exact g1, fun i hi => ?_⟩
    rw [if_neg c]; exact g2 i hi
theorem moW_r {r : Nat} (h : r < 3) : moW M (M.2 r) := by
  rcases (show r = 0 ∨ r = 1 ∨ r = 2 by omega) with rfl | rfl | rfl
  · exact Or.inr (Or.inr (Or.inr (Or.inr (Or.inr (Or.inl rfl)))))
  · exact Or.inr (Or.inr (Or.inr (Or.inr (Or.inr (Or.inr (Or.inl rfl))))))
  · exact Or.inr (Or.inr (Or.inr (Or.inr (Or.inr (Or.inr (Or.inr rfl))))))
theorem m_write {pw : tG → Prop} {j i r b n : Nat} {x : Int32} (h : MoR G M S th) (hj : j < 7) (hs : S.1 j = some (r, b, n)) (hi : i < n) (hx : okV x) (hp : ∀ G', fr (moW M) G G' → MoR G' M (S_put S r (b + i) x) th → pw G') : w_X3_write K pw (some M.1.1) (nI j) (nI i) x G := by
  obtain ⟨hok, ⟨sm, h2⟩, ⟨mf, h3, h4⟩, ⟨fo, fb, fl, ⟨h5, h6, h7⟩, h8⟩, h9, -⟩ := id h
  obtain ⟨hr, n0, e0, hn0⟩ := hok.2.1 j r b n hj hs
  have hn12 := (S_12 hok hj hs).2
  obtain ⟨f, g1, g2⟩ := h9 r hr
  rw [e0] at g1 g2
  rcases h8 j hj with ⟨c, -⟩ | ⟨r', b', n', c1, c2, c3, c4⟩
  · rw [hs] at c; cases c
  · rw [hs] at c1
    cases c1
    obtain ⟨n1, d1, d2⟩ := hok.1 r hr
    rw [e0] at d1
    cases d1
    refine gfR_i _ h2 rfl (gfR_i _ h2 rfl (alI_i h5 rfl hj (by omega) (alR_i h3 c2 hr (by omega) ?_)))
    rw [h4 r hr]
    refine gfR_i _ h2 rfl (alI_i h6 rfl hj (by omega) ?_)
    rw [c3]
    exact asI_i g1 (nI_add b i) (show b + i < n0 by omega) (show n0 < 2 ^ 31 by omega) (hp _ (fr_up _ (moW_r hr)) (MoR_put h hr e0 g1 g2 hx))
end MOD
