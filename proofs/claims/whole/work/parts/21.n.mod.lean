/-! the model: lay -/
theorem S_map_ok {S : tS} (h : S_ok S) (r b : Nat) {x : Int32} (hx : okV x) : ∀ k, S_ok (S_map S r b (fun _ _ => x) k)
  | 0 => h
  | k + 1 => S_put_ok (S_map_ok h r b hx k) r (b + k) hx
section MOO
variable {K : tK} {G : tG} {M : tM} {S : tS} {th : Int32} {post : Int32 → tG → Prop}
theorem MoC_some (h : MoC G M S th) {x : Nat} (hx : moW M x) : ∃ e, G x = some e := by
  obtain ⟨⟨sm, h2⟩, ⟨mf, h3, -⟩, ⟨fo, fb, fl, ⟨h5, h6, h7⟩, -⟩, h9, -⟩ := h
  rcases hx with e | e | e | e | e | e | e | e <;> subst e
  · exact ⟨_, h2⟩
  · exact ⟨_, h3⟩
  · exact ⟨_, h5⟩
  · exact ⟨_, h6⟩
  · exact ⟨_, h7⟩
  · obtain ⟨f, g, -⟩ := h9 0 (by omega); exact ⟨_, g⟩
  · obtain ⟨f, g, -⟩ := h9 1 (by omega); exact ⟨_, g⟩
  · obtain ⟨f, g, -⟩ := h9 2 (by omega); exact ⟨_, g⟩
theorem MoC_no (h : MoC G M S th) {x : Nat} (hx : G x = none) : ¬ moW M x := fun c => by
  obtain ⟨e, he⟩ := MoC_some h c
  rw [hx] at he; cases he
/-- a row's new array is laid -/
theorem MoC_lay {r n m q : Nat} {G4 : tG} {mf : Nat → Option Nat} {fo fb fl : Nat → Int32} {sm : Int64} (h : MoR G M S th) (hr : r < 3) (hs : S.1 r = some (r, 0, n)) (hq : G q = none) (e2 : G4 M.1.1 = some (oMo M S.2.2.1 S.2.2.2 th sm)) (e3 : G4 M.1.2.1 = some (eR (va_up mf r (some q)))) (hmf : ∀ t, t < 3 → mf t = some (M.2 t)) (e5 : G4 M.1.2.2.1 = some (eI 7 fo)) (e6 : G4 M.1.2.2.2.1 = some (eI 7 fb)) (e7 : G4 M.1.2.2.2.2 = some (eI 7 (upd fl r (nI m)))) (hl : moL S fo fb fl) (eq : G4 q = some (eI m fun _ => 0)) (hk : ∀ t, t < 3 → G4 (M.2 t) = G (M.2 t)) : MoC G4 (M.1, fun t => if t = r then q else M.2 t) (S_lay S r m) th := by
  have hno := MoC_no (MoR_C h) hq
  obtain ⟨-, -, -, h9, n1, h11, h12⟩ := MoR_C h
  have e22 : (S_lay S r m).2.2 = S.2.2 := (S_map_1 S r 0 _ m).2
  have e1 : ∀ j, (S_lay S r m).1 j = if j = r then some (r, 0, m) else S.1 j := fun j => by
    show (if j = r then _ else (S_map S r 0 (fun _ _ => 0) m).1 j) = _
    rw [(S_map_1 S r 0 (fun _ _ => 0) m).1]
  have ev : ∀ r' i, (S_lay S r m).2.1 r' i = if r' = r ∧ 0 ≤ i ∧ i < 0 + m then 0 else S.2.1 r' i := fun r' i => S_map_v S r 0 (fun _ _ => 0) m r' i
  refine ⟨⟨sm, ?_⟩, ⟨_, e3, fun t ht => ?_⟩, ⟨fo, fb, _, ⟨e5, e6, e7⟩, fun j hj => ?_⟩, fun t ht => ?_, n1, fun t ht => ?_, fun t t' ht ht' e => ?_⟩
  · rw [e22]; exact e2
  · show va_up mf r (some q) t = some (if t = r then q else M.2 t)
    by_cases c : t = r
    · rw [c, va_up_s, if_pos rfl]
    · rw [va_up_n _ _ c, if_neg c]; exact hmf t ht
  · rw [e1]
    by_cases c : j = r
    · subst c
      rw [if_pos rfl]
      rcases hl j hj with ⟨z, -⟩ | ⟨r', b', n', c1, c2, c3, -⟩
      · rw [hs] at z; cases z
      · rw [hs] at c1; cases c1
        exact Or.inr ⟨j, 0, m, rfl, c2, c3, upd_s⟩
    · rw [if_neg c, upd_n c]
      exact hl j hj
  · show ∃ f, G4 (if t = r then q else M.2 t) = some (eI (lnF ((S_lay S r m).1 t)) f) ∧ ∀ i, i < lnF ((S_lay S r m).1 t) → f i = (S_lay S r m).2.1 t i
    rw [e1]
    by_cases c : t = r
    · subst c
      rw [if_pos rfl, if_pos rfl]
      refine ⟨_, eq, fun i hi => ?_⟩
      have hi : i < m := hi
      rw [ev, if_pos ⟨rfl, by omega, by omega⟩]
    · rw [if_neg c, if_neg c]
      obtain ⟨f, g1, g2⟩ := h9 t ht
      refine ⟨f, by rw [hk t ht]; exact g1, fun i hi => ?_⟩
      rw [ev, if_neg (fun z => c z.1)]; exact g2 i hi
  · show (if t = r then q else M.2 t) ≠ _ ∧ (if t = r then q else M.2 t) ≠ _ ∧ (if t = r then q else M.2 t) ≠ _
    by_cases c : t = r
    · rw [if_pos c]
      exact ⟨fun z => hno (Or.inr (Or.inr (Or.inl z))), fun z => hno (Or.inr (Or.inr (Or.inr (Or.inl z)))), fun z => hno (Or.inr (Or.inr (Or.inr (Or.inr (Or.inl z)))))⟩
    · rw [if_neg c]; exact h11 t ht
  · have e : (if t = r then q else M.2 t) = (if t' = r then q else M.2 t') := e
    by_cases c : t = r
    · by_cases c' : t' = r
      · rw [c, c']
      · rw [if_pos c, if_neg c'] at e
        exact absurd (e ▸ moW_r ht') hno
    · by_cases c' : t' = r
      · rw [if_neg c, if_pos c'] at e
        exact absurd (e ▸ moW_r ht) hno
      · rw [if_neg c, if_neg c'] at e
        exact h12 t t' ht ht' e
theorem m_lay {v w : Int32} (h : MoR G M S th) (hp : mRes M G post (sp_lay S v w)) : w_X3_lay K post (some M.1.1) v w G := by
  have e2 : (2 : Int32).toInt = 2 := rfl
  have e0 : (0 : Int32).toInt = 0 := rfl
  unfold sp_lay at hp
  refine m_isIn (fun q => ⟨fun _ => ?_, fun z => absurd z (by decide)⟩) (fun q => ⟨fun z => absurd rfl z, fun _ => ?_⟩)
  · obtain ⟨r, hr, rfl⟩ := nI_of2 (M := 2) (n := 2) rfl q.1 q.2
    obtain ⟨n, d1, d2⟩ := h.1.1 r (by omega)
    rw [S_tw_nI (by omega), d1] at hp
    refine m_isIn (fun hw => ⟨fun _ => ?_, fun z => absurd z (by decide)⟩) (fun hw => ⟨fun z => absurd rfl z, fun _ => ?_⟩)
    · simp only [if_pos hw] at hp
      obtain ⟨m, hm, rfl⟩ := nI_of2 (M := 12) (n := 12) rfl hw.1 hw.2
      rw [nI_nat (by omega)] at hp
      refine m_rcv h (m_fails h (fun G1 f1 h1 => ⟨fun _ => ?_, fun z => absurd (by decide) z⟩))
      obtain ⟨⟨sm, h2⟩, ⟨mf, h3, h4⟩, ⟨fo, fb, fl, ⟨h5, h6, h7⟩, h8⟩, h9, ⟨n1, n2, n3⟩, h11, h12⟩ := MoR_C h1
      refine gfR_i _ h2 rfl ⟨m, nI_toInt (by omega), by omega, fun q hq => ⟨(fun z => (by cases z)), ?_⟩⟩
      have hno := MoC_no (MoR_C h1) hq
      have k0 : ∀ {a : Nat} {e : tE}, G1 a = some e → a ≠ q := fun he c => by rw [c, hq] at he; cases he
      refine asR_i (j := r) (tg_keep h3 (k0 h3)) rfl (by omega) (by omega) (Or.inr ⟨q, _, rfl, tg_s _ _ _, ⟨_, rfl⟩⟩) ?_
      have d13 : M.1.1 ≠ M.1.2.1 := ne_OI h2 h3
      refine gfR_i _ (tg_keep (tg_keep h2 (k0 h2)) d13) rfl ?_
      have d73 : M.1.2.2.2.2 ≠ M.1.2.1 := ne_of_G h7 h3 (fun e => by cases e)
      have d63 : M.1.2.2.2.1 ≠ M.1.2.1 := ne_of_G h6 h3 (fun e => by cases e)
      have d53 : M.1.2.2.1 ≠ M.1.2.1 := ne_of_G h5 h3 (fun e => by cases e)
      refine asI_i (j := r) (tg_keep (tg_keep h7 (k0 h7)) d73) rfl (by omega) (by omega) ?_
      have dq3 : q ≠ M.1.2.1 := fun c => hno (Or.inr (Or.inl c))
      have dq7 : q ≠ M.1.2.2.2.2 := fun c => hno (Or.inr (Or.inr (Or.inr (Or.inr (Or.inl c)))))
      have hC := MoC_lay (m := m) (G4 := tg_up (tg_up (tg_up G1 q (eI m fun _ => 0)) M.1.2.1 (eR (va_up mf r (some q)))) M.1.2.2.2.2 (eI 7 (upd fl r (nI m)))) h1 (show r < 3 by omega) d1 hq (tg_keep (tg_keep (tg_keep h2 (k0 h2)) d13) (ne_OI h2 h7)) (tg_keep (tg_s _ _ _) d73.symm) h4 (tg_keep (tg_keep (tg_keep h5 (k0 h5)) d53) n2) (tg_keep (tg_keep (tg_keep h6 (k0 h6)) d63) n3) (tg_s _ _ _) h8 (tg_keep (tg_keep (tg_s _ _ _) dq3) dq7) (fun t ht => by
        obtain ⟨f, g1, -⟩ := h9 t ht
        rw [tg_n _ _ (h11 t ht).2.2, tg_n _ _ (ne_of_G g1 h3 (fun e => by cases e)), tg_n _ _ (k0 g1)])
      refine m_dropPartsOf (M := (M.1, fun t => if t = r then q else M.2 t)) rfl (show r < 3 by omega) (fun j r' b' n' hj e => ?_) hC (fun G5 f5 h5' => ?_)
      · have e : (if j = r then some (r, 0, m) else (S_map S r 0 (fun _ _ => 0) m).1 j) = some (r', b', n') := e
        by_cases c : j = r
        · rw [if_pos c] at e; cases e; omega
        · rw [if_neg c, (S_map_1 S r 0 (fun _ _ => 0) m).1] at e
          exact (h.1.2.1 j r' b' n' hj e).1
      · have hmw : ∀ x, moW (M.1, fun t => if t = r then q else M.2 t) x → moW M x ∨ x = q := by
          have hrow : ∀ t, t < 3 → ∀ x, x = (if t = r then q else M.2 t) → moW M x ∨ x = q := fun t ht x e => by
            by_cases c : t = r
            · rw [if_pos c] at e; exact Or.inr e
            · rw [if_neg c] at e; exact Or.inl (e ▸ moW_r ht)
          rintro x (e | e | e | e | e | e | e | e)
          · exact Or.inl (Or.inl e)
          · exact Or.inl (Or.inr (Or.inl e))
          · exact Or.inl (Or.inr (Or.inr (Or.inl e)))
          · exact Or.inl (Or.inr (Or.inr (Or.inr (Or.inl e))))
          · exact Or.inl (Or.inr (Or.inr (Or.inr (Or.inr (Or.inl e)))))
          · exact hrow 0 (by omega) x e
          · exact hrow 1 (by omega) x e
          · exact hrow 2 (by omega) x e
        have hGq : G q = none := fr_none f1 hq hno
        refine hp G5 (M.1, fun t => if t = r then q else M.2 t) rfl ?_ (fun x hx => (hmw x hx).elim Or.inl (fun e => Or.inr (e ▸ hGq))) (MoC_R h5' (S_lay_ok h.1 (S_map_ok h.1 r 0 (Or.inr ⟨by decide, by decide⟩) m) (by omega) hm))
        intro x e hx hn
        have hxq : x ≠ q := fun c => by rw [c, hGq] at hx; cases hx
        have hx1 := f1 x e hx hn
        have hx4 : tg_up (tg_up (tg_up G1 q (eI m fun _ => 0)) M.1.2.1 (eR (va_up mf r (some q)))) M.1.2.2.2.2 (eI 7 (upd fl r (nI m))) x = some e := by
          rw [tg_n _ _ (fun c => hn (Or.inr (Or.inr (Or.inr (Or.inr (Or.inl c)))))), tg_n _ _ (fun c => hn (Or.inr (Or.inl c))), tg_n _ _ hxq]
          exact hx1
        exact f5 x e hx4 (fun c => (hmw x c).elim hn hxq)
    · simp only [if_neg hw] at hp
      exact m_rcv h (m_fails h (fun G1 f1 h1 => ⟨fun z => absurd z (by decide), fun _ => mr hp f1 h1⟩))
  · have hc : S_tw S v = none := by
      unfold S_tw
      rw [if_neg]
      intro z
      exact q ⟨by rw [i32_lt]; omega, by rw [i32_le]; omega⟩
    rw [hc] at hp
    have hbad : ∀ u, w_X3_lay_30 K post (some M.1.1) v w (some M.1.1) 1 u G := fun u => m_rcv h (m_fails h (fun G1 f1 h1 => ⟨fun z => absurd (show (1 : Int32) = 0 from z) (by decide), fun _ => mr (a := (1, 0, S)) hp f1 h1⟩))
    exact m_isIn (fun hw => ⟨fun _ => hbad 0, fun z => absurd z (by decide)⟩) (fun hw => ⟨fun z => absurd rfl z, fun _ => hbad 1⟩)
end MOO
