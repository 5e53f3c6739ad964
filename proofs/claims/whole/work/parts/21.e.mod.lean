section MOE
variable {K : tK} {G : tG} {M : tM} {S : tS} {th : Int32} {post : Int32 → tG → Prop}
theorem mr {a : tA} (hp : mRes M G post a) {G' : tG} (f : fr (moW M) G G') (h : MoR G' M a.2.2 (nI a.1)) : post a.2.1 G' := hp G' M rfl f (fun _ z => Or.inl z) h
theorem sp_at_bad {q : Option (Nat × Nat × Nat)} {w : Int32} {F : Nat → Nat → Nat → Nat → tA} (c : q = none ∨ ∃ r b n, q = some (r, b, n) ∧ ¬ (0 ≤ w.toInt ∧ w.toInt < n)) : sp_at S q w F = (1, 0, S) := by
  rcases c with c | ⟨r, b, n, c, d⟩
  · rw [c]; rfl
  · rw [c]; exact if_neg d
theorem sp_at_ok {j r b n i : Nat} {F : Nat → Nat → Nat → Nat → tA} (hj : j < 7) (hs : S.1 j = some (r, b, n)) (hi : i < n) (hn : n ≤ 12) : sp_at S (S_at S (nI j)) (nI i) F = F r b n i := by
  rw [S_at_nI S hj, hs]
  show (if 0 ≤ (nI i).toInt ∧ (nI i).toInt < n then F r b n (nI i).toInt.toNat else (1, 0, S)) = _
  rw [if_pos (nI_inn hi (by omega)), nI_nat (by omega)]
theorem m_get {v w : Int32} (h : MoR G M S th) (hp : mRes M G post (sp_at S (S_at S v) w fun r b n i => (0, S.2.1 r (b + i), S))) : w_X3_get K post (some M.1.1) v w G := by
  refine m_rcv h (m_isNoPlace h (fun c => ?_) (fun j r b n i hj ev hs hi ew => ?_))
  · rw [sp_at_bad c] at hp
    exact m_rcv h (m_fails h (fun G1 f1 h1 => ⟨fun z => absurd z (by decide), fun _ => mr hp f1 h1⟩))
  · subst ev; subst ew
    have hn := (S_12 h.1 hj hs).2
    rw [sp_at_ok hj hs hi (by omega)] at hp
    exact m_rcv h (m_fails h (fun G1 f1 h1 => ⟨fun _ => m_rcv h1 (m_value h1 hj hs hi (mr hp f1 h1)), fun z => absurd (by decide) z⟩))
theorem m_set {v w x : Int32} (h : MoR G M S th) (hp : mRes M G post (sp_at S (S_at S v) w fun r b n i => if okV x then (0, S.2.1 r (b + i), S_put S r (b + i) x) else (2, 0, S))) : w_X3_set K post (some M.1.1) v w x G := by
  refine m_rcv h (m_isNoPlace h (fun c => ?_) (fun j r b n i hj ev hs hi ew => ?_))
  · rw [sp_at_bad c] at hp
    exact m_isNoValue (fun _ => m_rcv h (m_fails h (fun G1 f1 h1 => ⟨fun z => absurd z (by decide), fun _ => mr hp f1 h1⟩))) (fun _ => m_rcv h (m_fails h (fun G1 f1 h1 => ⟨fun z => absurd z (by decide), fun _ => mr hp f1 h1⟩)))
  · subst ev; subst ew
    have hn := (S_12 h.1 hj hs).2
    rw [sp_at_ok hj hs hi (by omega)] at hp
    refine m_isNoValue (fun hx => ?_) (fun hx => ?_)
    · rw [if_neg hx] at hp
      exact m_rcv h (m_fails h (fun G1 f1 h1 => ⟨fun z => absurd z (by decide), fun _ => mr hp f1 h1⟩))
    · rw [if_pos hx] at hp
      exact m_rcv h (m_fails h (fun G1 f1 h1 => ⟨fun _ => m_rcv h1 (m_value h1 hj hs hi (m_rcv h1 (m_write h1 hj hs hi hx (fun G2 f2 h2 => mr hp (fr_tr f1 f2) h2)))), fun z => absurd (by decide) z⟩))
theorem m_remove {v w : Int32} (h : MoR G M S th) (hp : mRes M G post (sp_at S (S_at S v) w fun _ _ _ _ => (0, -9, S_ref S))) : w_X3_remove K post (some M.1.1) v w G := by
  refine m_rcv h (m_isNoPlace h (fun c => ?_) (fun j r b n i hj ev hs hi ew => ?_))
  · rw [sp_at_bad c] at hp
    exact m_rcv h (m_fails h (fun G1 f1 h1 => ⟨fun z => absurd z (by decide), fun _ => mr hp f1 h1⟩))
  · subst ev; subst ew
    have hn := (S_12 h.1 hj hs).2
    rw [sp_at_ok hj hs hi (by omega)] at hp
    exact m_rcv h (m_fails h (fun G1 f1 h1 => ⟨fun _ => m_rcv h1 (m_refused h1 (fun G2 f2 h2 => mr hp (fr_tr f1 f2) h2)), fun z => absurd (by decide) z⟩))
theorem m_add {v x : Int32} (h : MoR G M S th) (hp : mRes M G post (sp_li S (S_at S v) fun _ _ _ => if okV x then (0, -9, S_ref S) else (2, 0, S))) : w_X3_add K post (some M.1.1) v x G := by
  refine m_rcv h (m_isNoList h (fun c => ?_) (fun j r b n hj ev hs => ?_))
  · rw [c] at hp
    exact m_isNoValue (fun _ => m_rcv h (m_fails h (fun G1 f1 h1 => ⟨fun z => absurd z (by decide), fun _ => mr (a := (1, 0, S)) hp f1 h1⟩))) (fun _ => m_rcv h (m_fails h (fun G1 f1 h1 => ⟨fun z => absurd z (by decide), fun _ => mr (a := (1, 0, S)) hp f1 h1⟩)))
  · subst ev
    rw [S_at_nI S hj, hs] at hp
    refine m_isNoValue (fun hx => ?_) (fun hx => ?_)
    · simp only [sp_li, if_neg hx] at hp
      exact m_rcv h (m_fails h (fun G1 f1 h1 => ⟨fun z => absurd z (by decide), fun _ => mr hp f1 h1⟩))
    · simp only [sp_li, if_pos hx] at hp
      exact m_rcv h (m_fails h (fun G1 f1 h1 => ⟨fun _ => m_rcv h1 (m_refused h1 (fun G2 f2 h2 => mr hp (fr_tr f1 f2) h2)), fun z => absurd (by decide) z⟩))
end MOE
