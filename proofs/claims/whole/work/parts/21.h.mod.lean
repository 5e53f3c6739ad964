/-! the model: last place, sums, rows, what is refused -/
section MOH
variable {K : tK} {G : tG} {M : tM} {S : tS} {th : Int32} {post : Int32 → tG → Prop}
theorem m_lastIndexOf {v x : Int32} (h : MoR G M S th) (hp : mRes M G post (sp_li S (S_at S v) fun r b n => if okV x then (0, lpF (S_v S r b) x n, S) else (2, 0, S))) : w_X3_lastIndexOf K post (some M.1.1) v x G := by
  refine m_rcv h (m_isNoList h (fun c => ?_) (fun j r b n hj ev hs => ?_))
  · rw [c] at hp
    exact m_isNoValue (fun _ => m_rcv h (m_fails h (fun G1 f1 h1 => ⟨fun z => absurd z (by decide), fun _ => mr (a := (1, 0, S)) hp f1 h1⟩))) (fun _ => m_rcv h (m_fails h (fun G1 f1 h1 => ⟨fun z => absurd z (by decide), fun _ => mr (a := (1, 0, S)) hp f1 h1⟩)))
  · subst ev
    rw [S_at_nI S hj, hs] at hp
    have hn12 := (S_12 h.1 hj hs).2
    refine m_isNoValue (fun hx => ?_) (fun hx => ?_)
    · simp only [sp_li, if_neg hx] at hp
      exact m_rcv h (m_fails h (fun G1 f1 h1 => ⟨fun z => absurd z (by decide), fun _ => mr hp f1 h1⟩))
    · simp only [sp_li, if_pos hx] at hp
      refine m_rcv h (m_fails h (fun G1 f1 h1 => ⟨fun _ => ?_, fun z => absurd (by decide) z⟩))
      have main : ∀ k i, i + k = n → w_X3_lastIndexOf_23 K post (k + 1) (some M.1.1) (nI j) x (lpF (S_v S r b) x i) (nI i) G1 := by
        intro k
        induction k with
        | zero =>
          intro i hi
          show w_X3_lastIndexOf_23_b K post (w_X3_lastIndexOf_23 K post 0) (some M.1.1) (nI j) x (lpF (S_v S r b) x i) (nI i) G1
          have e : i = n := by omega
          subst e
          exact m_len h1 hj hs ⟨fun _ => mr hp f1 h1, fun c => absurd (nI_le (by omega) (by omega)) c⟩
        | succ k ih =>
          intro i hi
          show w_X3_lastIndexOf_23_b K post (w_X3_lastIndexOf_23 K post (k + 1)) (some M.1.1) (nI j) x (lpF (S_v S r b) x i) (nI i) G1
          have hi2 := ih (i + 1) (by omega)
          refine m_len h1 hj hs ⟨fun c => absurd c (nI_ge (by omega) (by omega)), fun _ => m_rcv h1 (m_value h1 hj hs (by omega) ⟨fun c => ?_, fun c => ?_⟩)⟩
          · have e : lpF (S_v S r b) x (i + 1) = lpF (S_v S r b) x i := by show (if _ then _ else _) = _; rw [if_neg c]
            rw [e] at hi2
            show w_X3_lastIndexOf_23 K post (k + 1) (some M.1.1) (nI j) x (lpF (S_v S r b) x i) (nI i + 1) G1
            rw [nI_1]; exact hi2
          · have e : lpF (S_v S r b) x (i + 1) = nI i := by show (if _ then _ else _) = _; rw [if_pos c]
            rw [e] at hi2
            show w_X3_lastIndexOf_23 K post (k + 1) (some M.1.1) (nI j) x (nI i) (nI i + 1) G1
            rw [nI_1]; exact hi2
      exact ⟨n + 1, main n 0 (by omega)⟩
theorem m_codeNow {pk : Int32 → tG → Prop} {j r b n : Nat} (h : MoR G M S th) (hj : j < 7) (hs : S.1 j = some (r, b, n)) (hp : ∀ q G', G q = none → (∀ a, a ≠ q → G' a = G a) → MoR G' M S th → pk (coF (S_v S r b) n) G') : w_X3_codeNow K pk (some M.1.1) (nI j) G := by
  have hn12 := (S_12 h.1 hj hs).2
  refine m_rcv h (m_all h hj hs (fun q f G2 q0 q1 q2 q3 h2 => lenA_i q1 ?_))
  have main : ∀ k i, i + k = n → w_X3_codeNow_15 K pk (k + 1) (coF f i) (some q) (nI n) (nI i) G2 := by
    intro k
    induction k with
    | zero =>
      intro i hi
      show w_X3_codeNow_15_b K pk (w_X3_codeNow_15 K pk 0) (coF f i) (some q) (nI n) (nI i) G2
      have e : i = n := by omega
      subst e
      refine ⟨fun _ => ?_, fun c => absurd (nI_le (by omega) (by omega)) c⟩
      rw [coF_cg i q2]
      exact hp q G2 q0 q3 h2
    | succ k ih =>
      intro i hi
      show w_X3_codeNow_15_b K pk (w_X3_codeNow_15 K pk (k + 1)) (coF f i) (some q) (nI n) (nI i) G2
      have hi2 := ih (i + 1) (by omega)
      have e : coF f (i + 1) = 31 * coF f i + nuF (f i) := rfl
      rw [e] at hi2
      unfold nuF at hi2
      refine ⟨fun c => absurd c (nI_ge (by omega) (by omega)), fun _ => alI_i q1 rfl (by omega) (by omega) ⟨fun c => ?_, fun c => ?_⟩⟩
      · rw [if_neg c] at hi2
        show w_X3_codeNow_15 K pk (k + 1) (31 * coF f i + f i) (some q) (nI n) (nI i + 1) G2
        rw [nI_1]; exact hi2
      · rw [if_pos c] at hi2
        show w_X3_codeNow_15 K pk (k + 1) (31 * coF f i + 0) (some q) (nI n) (nI i + 1) G2
        rw [nI_1]; exact hi2
  exact ⟨n + 1, main n 0 (by omega)⟩
theorem m_sumNow {pk : Int32 → tG → Prop} {j r b n : Nat} (h : MoR G M S th) (hj : j < 7) (hs : S.1 j = some (r, b, n)) (hp : ∀ q G', G q = none → (∀ a, a ≠ q → G' a = G a) → MoR G' M S th → pk (suF (S_v S r b) n) G') : w_X3_sumNow K pk (some M.1.1) (nI j) G := by
  have hn12 := (S_12 h.1 hj hs).2
  refine m_rcv h (m_all h hj hs (fun q f G2 q0 q1 q2 q3 h2 => lenA_i q1 ?_))
  have main : ∀ k i, i + k = n → w_X3_sumNow_15 K pk (k + 1) (suF f i) (some q) (nI n) (nI i) G2 := by
    intro k
    induction k with
    | zero =>
      intro i hi
      show w_X3_sumNow_15_b K pk (w_X3_sumNow_15 K pk 0) (suF f i) (some q) (nI n) (nI i) G2
      have e : i = n := by omega
      subst e
      refine ⟨fun _ => ?_, fun c => absurd (nI_le (by omega) (by omega)) c⟩
      rw [suF_cg i q2]
      exact hp q G2 q0 q3 h2
    | succ k ih =>
      intro i hi
      show w_X3_sumNow_15_b K pk (w_X3_sumNow_15 K pk (k + 1)) (suF f i) (some q) (nI n) (nI i) G2
      have hi2 := ih (i + 1) (by omega)
      have e : suF f (i + 1) = suF f i + nuF (f i) := rfl
      rw [e] at hi2
      unfold nuF at hi2
      refine ⟨fun c => absurd c (nI_ge (by omega) (by omega)), fun _ => alI_i q1 rfl (by omega) (by omega) ⟨fun c => ?_, fun c => ?_⟩⟩
      · rw [if_neg c] at hi2
        show w_X3_sumNow_15 K pk (k + 1) (suF f i + f i) (some q) (nI n) (nI i + 1) G2
        rw [nI_1]; exact hi2
      · rw [if_pos c] at hi2
        show w_X3_sumNow_15 K pk (k + 1) (suF f i + 0) (some q) (nI n) (nI i + 1) G2
        rw [nI_1]; exact hi2
  exact ⟨n + 1, main n 0 (by omega)⟩
theorem m_code {v : Int32} (h : MoR G M S th) (hp : mRes M G post (sp_li S (S_at S v) fun r b n => (0, coF (S_v S r b) n, S))) : w_X3_code K post (some M.1.1) v G := by
  refine m_rcv h (m_isNoList h (fun c => ?_) (fun j r b n hj ev hs => ?_))
  · rw [c] at hp
    exact m_rcv h (m_fails h (fun G1 f1 h1 => ⟨fun z => absurd z (by decide), fun _ => mr (a := (1, 0, S)) hp f1 h1⟩))
  · subst ev
    rw [S_at_nI S hj, hs] at hp
    exact m_rcv h (m_fails h (fun G1 f1 h1 => ⟨fun _ => m_rcv h1 (m_codeNow h1 hj hs (fun q G2 q0 q3 h2 => mr hp (fr_al f1 q0 q3) h2)), fun z => absurd (by decide) z⟩))
theorem m_sum {v : Int32} (h : MoR G M S th) (hp : mRes M G post (sp_li S (S_at S v) fun r b n => (0, suF (S_v S r b) n, S))) : w_X3_sum K post (some M.1.1) v G := by
  refine m_rcv h (m_isNoList h (fun c => ?_) (fun j r b n hj ev hs => ?_))
  · rw [c] at hp
    exact m_rcv h (m_fails h (fun G1 f1 h1 => ⟨fun z => absurd z (by decide), fun _ => mr (a := (1, 0, S)) hp f1 h1⟩))
  · subst ev
    rw [S_at_nI S hj, hs] at hp
    exact m_rcv h (m_fails h (fun G1 f1 h1 => ⟨fun _ => m_rcv h1 (m_sumNow h1 hj hs (fun q G2 q0 q3 h2 => mr hp (fr_al f1 q0 q3) h2)), fun z => absurd (by decide) z⟩))
theorem S_tw_nI {r : Nat} (hr : r < 3) : S_tw S (nI r) = S.1 r := by
  unfold S_tw
  rw [nI_toInt (by omega), if_pos (by omega)]; rfl
theorem sp_tw_ok {r n i : Nat} {F : Nat → Nat → Nat → Nat → tA} (hr : r < 3) (hs : S.1 r = some (r, 0, n)) (hi : i < n) (hn : n ≤ 12) : sp_at S (S_tw S (nI r)) (nI i) F = F r 0 n i := by
  rw [S_tw_nI hr, hs]
  show (if 0 ≤ (nI i).toInt ∧ (nI i).toInt < n then F r 0 n (nI i).toInt.toNat else (1, 0, S)) = _
  rw [if_pos (nI_inn hi (by omega)), nI_nat (by omega)]
theorem m_at {v w : Int32} (h : MoR G M S th) (hp : mRes M G post (sp_at S (S_tw S v) w fun r b n i => (0, S.2.1 r (b + i), S))) : w_X3_at K post (some M.1.1) v w G := by
  refine m_rcv h (m_isNoRowPlace h (fun c => ?_) (fun r n i hr ev hs hi hn ew => ?_))
  · rw [sp_at_bad c] at hp
    exact m_rcv h (m_fails h (fun G1 f1 h1 => ⟨fun z => absurd z (by decide), fun _ => mr hp f1 h1⟩))
  · subst ev; subst ew
    rw [sp_tw_ok hr hs hi hn, Nat.zero_add] at hp
    refine m_rcv h (m_fails h (fun G1 f1 h1 => ⟨fun _ => m_rows h1 hr ?_, fun z => absurd (by decide) z⟩))
    obtain ⟨f, g1, g2, g3⟩ := m_rowA h1 hr hs
    refine alI_i g1 rfl hi (by omega) ?_
    rw [g2 i hi]
    exact mr hp f1 h1
theorem m_put {v w x : Int32} (h : MoR G M S th) (hp : mRes M G post (sp_at S (S_tw S v) w fun r b n i => if okV x then (0, S.2.1 r (b + i), S_put S r (b + i) x) else (2, 0, S))) : w_X3_put K post (some M.1.1) v w x G := by
  refine m_rcv h (m_isNoRowPlace h (fun c => ?_) (fun r n i hr ev hs hi hn ew => ?_))
  · rw [sp_at_bad c] at hp
    exact m_isNoValue (fun _ => m_rcv h (m_fails h (fun G1 f1 h1 => ⟨fun z => absurd z (by decide), fun _ => mr hp f1 h1⟩))) (fun _ => m_rcv h (m_fails h (fun G1 f1 h1 => ⟨fun z => absurd z (by decide), fun _ => mr hp f1 h1⟩)))
  · subst ev; subst ew
    rw [sp_tw_ok hr hs hi hn, Nat.zero_add] at hp
    refine m_isNoValue (fun hx => ?_) (fun hx => ?_)
    · rw [if_neg hx] at hp
      exact m_rcv h (m_fails h (fun G1 f1 h1 => ⟨fun z => absurd z (by decide), fun _ => mr hp f1 h1⟩))
    · rw [if_pos hx] at hp
      refine m_rcv h (m_fails h (fun G1 f1 h1 => ⟨fun _ => m_rows h1 hr ?_, fun z => absurd (by decide) z⟩))
      obtain ⟨f, g1, g2, g3⟩ := m_rowA h1 hr hs
      refine alI_i g1 rfl hi (by omega) (m_rows h1 hr (asI_i g1 rfl hi (by omega) ?_))
      rw [g2 i hi]
      exact mr hp (fr_tr f1 (fr_up _ (moW_r hr))) (MoR_put h1 hr hs g1 g2 hx)
theorem m_clear {v : Int32} (h : MoR G M S th) (hp : mRes M G post (sp_li S (S_at S v) fun _ _ n => if n = 0 then (0, 0, S) else (0, -9, S_ref S))) : w_X3_clear K post (some M.1.1) v G := by
  refine m_rcv h (m_isNoList h (fun c => ?_) (fun j r b n hj ev hs => ?_))
  · rw [c] at hp
    exact m_rcv h (m_fails h (fun G1 f1 h1 => ⟨fun z => absurd z (by decide), fun _ => mr (a := (1, 0, S)) hp f1 h1⟩))
  · subst ev
    rw [S_at_nI S hj, hs] at hp
    have hn12 := (S_12 h.1 hj hs).2
    refine m_rcv h (m_fails h (fun G1 f1 h1 => ⟨fun _ => m_len h1 hj hs ⟨fun c => m_rcv h1 (m_refusedIf h1 (fun _ => ?_) (fun z => absurd rfl z)), fun c => m_rcv h1 (m_refusedIf h1 (fun z => absurd z (by decide)) (fun _ G2 f2 h2 => ?_))⟩, fun z => absurd (by decide) z⟩))
    · have hn : n = 0 := Decidable.byContradiction fun e => nI_nle (by omega) (by omega) c
      simp only [sp_li, if_pos hn] at hp
      exact mr hp f1 h1
    · have hn : ¬ n = 0 := fun e => c (by rw [e]; decide)
      simp only [sp_li, if_neg hn] at hp
      exact mr hp (fr_tr f1 f2) h2
theorem m_walkChange {v w x : Int32} (h : MoR G M S th) (hp : mRes M G post (sp_at S (S_at S v) w fun _ _ _ _ => if inR x 0 2 then (0, -9, S_ref S) else (2, 0, S))) : w_X3_walkChange K post (some M.1.1) v w x G := by
  refine m_rcv h (m_isNoPlace h (fun c => ?_) (fun j r b n i hj ev hs hi ew => ?_))
  · rw [sp_at_bad c] at hp
    exact m_isIn (fun _ => ⟨fun _ => m_rcv h (m_fails h (fun G1 f1 h1 => ⟨fun z => absurd z (by decide), fun _ => mr hp f1 h1⟩)), fun z => absurd z (by decide)⟩) (fun _ => ⟨fun z => absurd rfl z, fun _ => m_rcv h (m_fails h (fun G1 f1 h1 => ⟨fun z => absurd z (by decide), fun _ => mr hp f1 h1⟩))⟩)
  · subst ev; subst ew
    have hn := (S_12 h.1 hj hs).2
    rw [sp_at_ok hj hs hi (by omega)] at hp
    refine m_isIn (fun hx => ⟨fun _ => ?_, fun z => absurd z (by decide)⟩) (fun hx => ⟨fun z => absurd rfl z, fun _ => ?_⟩)
    · rw [if_pos hx] at hp
      exact m_rcv h (m_fails h (fun G1 f1 h1 => ⟨fun _ => m_rcv h1 (m_refused h1 (fun G2 f2 h2 => mr hp (fr_tr f1 f2) h2)), fun z => absurd (by decide) z⟩))
    · rw [if_neg hx] at hp
      exact m_rcv h (m_fails h (fun G1 f1 h1 => ⟨fun z => absurd z (by decide), fun _ => mr hp f1 h1⟩))
theorem m_addAt {v w x : Int32} (h : MoR G M S th) (hp : mRes M G post (sp_li S (S_at S v) fun _ _ n => if inR w 0 (nI n) ∧ okV x then (0, -9, S_ref S) else (2, 0, S))) : w_X3_addAt K post (some M.1.1) v w x G := by
  refine m_rcv h (m_isNoList h (fun c => ?_) (fun j r b n hj ev hs => ?_))
  · rw [c] at hp
    have hbad : ∀ u, w_X3_addAt_27 K post (some M.1.1) (some M.1.1) 1 u G := fun u => m_rcv h (m_fails h (fun G1 f1 h1 => ⟨fun z => absurd (show (1 : Int32) = 0 from z) (by decide), fun _ => mr (a := (1, 0, S)) hp f1 h1⟩))
    exact m_rcv h (m_isBeyond h (fun _ => ⟨fun z => absurd rfl z, fun _ => m_isNoValue (fun _ => ⟨fun z => absurd z (by decide), fun _ => hbad 1⟩) (fun _ => ⟨fun _ => hbad 0, fun z => absurd rfl z⟩)⟩) (fun j r b n hj ev hs _ => by subst ev; rw [S_at_nI S hj, hs] at c; cases c) (fun j r b n hj ev hs _ => by subst ev; rw [S_at_nI S hj, hs] at c; cases c))
  · have ec : S_at S v = some (r, b, n) := by rw [ev, S_at_nI S hj]; exact hs
    rw [ec] at hp
    have hbad : ¬ (inR w 0 (nI n) ∧ okV x) → w_X3_addAt_27 K post (some M.1.1) (some M.1.1) 0 1 G := fun q => by
      simp only [sp_li, if_neg q] at hp
      exact m_rcv h (m_fails h (fun G1 f1 h1 => ⟨fun z => absurd z (by decide), fun _ => mr hp f1 h1⟩))
    have hgood : (inR w 0 (nI n) ∧ okV x) → w_X3_addAt_27 K post (some M.1.1) (some M.1.1) 0 0 G := fun q => by
      simp only [sp_li, if_pos q] at hp
      exact m_rcv h (m_fails h (fun G1 f1 h1 => ⟨fun _ => m_rcv h1 (m_refused h1 (fun G2 f2 h2 => mr hp (fr_tr f1 f2) h2)), fun z => absurd (by decide) z⟩))
    refine m_rcv h (m_isBeyond h (fun c => ?_) (fun j2 r2 b2 n2 hj2 ev2 hs2 q => ⟨fun _ => hbad (fun z => q ?_), fun z => absurd z (by decide)⟩) (fun j2 r2 b2 n2 hj2 ev2 hs2 q => ⟨fun z => absurd rfl z, fun _ => m_isNoValue (fun hx => ⟨fun z => absurd z (by decide), fun _ => hbad (fun z => hx z.2)⟩) (fun hx => ⟨fun _ => hgood ⟨?_, hx⟩, fun z => absurd rfl z⟩)⟩))
    · rw [ec] at c; cases c
    · have e2 : S_at S v = some (r2, b2, n2) := by rw [ev2, S_at_nI S hj2]; exact hs2
      rw [ec] at e2; cases e2; exact z.1
    · have e2 : S_at S v = some (r2, b2, n2) := by rw [ev2, S_at_nI S hj2]; exact hs2
      rw [ec] at e2; cases e2; exact q
theorem m_swap {v w x : Int32} (h : MoR G M S th) (hp : mRes M G post (sp_at S (S_at S v) w fun r b n i => if 0 ≤ x.toInt ∧ x.toInt < n then (0, if S.2.1 r (b + i) = S.2.1 r (b + x.toInt.toNat) then 0 else 1, S_exch S r (b + i) (b + x.toInt.toNat)) else (1, 0, S))) : w_X3_swap K post (some M.1.1) v w x G := by
  refine m_rcv h (m_isNoPlace h (fun c => ⟨fun _ => ?_, fun z => absurd z (by decide)⟩) (fun j r b n i hj ev hs hi ew => ⟨fun z => absurd rfl z, fun _ => ?_⟩))
  · rw [sp_at_bad c] at hp
    exact m_rcv h (m_fails h (fun G1 f1 h1 => ⟨fun z => absurd z (by decide), fun _ => mr hp f1 h1⟩))
  · subst ev; subst ew
    have hn := (S_12 h.1 hj hs).2
    rw [sp_at_ok hj hs hi (by omega)] at hp
    refine m_rcv h (m_isNoPlace h (fun c => ⟨fun z => absurd z (by decide), fun _ => ?_⟩) (fun j2 r2 b2 n2 k hj2 ev hs2 hk ew => ⟨fun _ => ?_, fun z => absurd rfl z⟩))
    · have hc : ¬ (0 ≤ x.toInt ∧ x.toInt < n) := by
        rcases c with c | ⟨r2, b2, n2, c, d⟩
        · rw [S_at_nI S hj, hs] at c; cases c
        · rw [S_at_nI S hj, hs] at c; cases c; exact d
      rw [if_neg hc] at hp
      exact m_rcv h (m_fails h (fun G1 f1 h1 => ⟨fun z => absurd z (by decide), fun _ => mr hp f1 h1⟩))
    · have e : j = j2 := (nI_eq (by omega) (by omega)).mp ev
      subst e
      rw [hs] at hs2
      cases hs2
      subst ew
      rw [if_pos (nI_inn hk (by omega)), nI_nat (by omega)] at hp
      obtain ⟨hr, -⟩ := S_12 h.1 hj hs
      refine m_rcv h (m_fails h (fun G1 f1 h1 => ⟨fun _ => m_rcv h1 (m_value h1 hj hs hi (m_rcv h1 (m_value h1 hj hs hk ?_))), fun z => absurd (by decide) z⟩))
      refine m_rcv h1 (m_write h1 hj hs hi (h1.1.2.2 r _ hr (by omega)) (fun G2 f2 h2 => m_rcv h2 (m_write (S := S_put S r (b + i) (S.2.1 r (b + k))) h2 hj hs hk (h1.1.2.2 r _ hr (by omega)) (fun G3 f3 h3 => ⟨fun c => ?_, fun c => ?_⟩))))
      · rw [if_pos c] at hp
        exact m_one (fun _ => mr hp (fr_tr f1 (fr_tr f2 f3)) h3) (fun z => absurd rfl z)
      · rw [if_neg c] at hp
        exact m_one (fun z => absurd z (by decide)) (fun _ => mr hp (fr_tr f1 (fr_tr f2 f3)) h3)
theorem m_fill {v x : Int32} (h : MoR G M S th) (hp : mRes M G post (sp_li S (S_at S v) fun r b n => if okV x then (0, nI n, S_map S r b (fun _ _ => x) n) else (2, 0, S))) : w_X3_fill K post (some M.1.1) v x G := by
  refine m_rcv h (m_isNoList h (fun c => ?_) (fun j r b n hj ev hs => ?_))
  · rw [c] at hp
    exact m_isNoValue (fun _ => m_rcv h (m_fails h (fun G1 f1 h1 => ⟨fun z => absurd z (by decide), fun _ => mr (a := (1, 0, S)) hp f1 h1⟩))) (fun _ => m_rcv h (m_fails h (fun G1 f1 h1 => ⟨fun z => absurd z (by decide), fun _ => mr (a := (1, 0, S)) hp f1 h1⟩)))
  · subst ev
    rw [S_at_nI S hj, hs] at hp
    have hn12 := (S_12 h.1 hj hs).2
    refine m_isNoValue (fun hx => ?_) (fun hx => ?_)
    · simp only [sp_li, if_neg hx] at hp
      exact m_rcv h (m_fails h (fun G1 f1 h1 => ⟨fun z => absurd z (by decide), fun _ => mr hp f1 h1⟩))
    · simp only [sp_li, if_pos hx] at hp
      refine m_rcv h (m_fails h (fun G1 f1 h1 => ⟨fun _ => ?_, fun z => absurd (by decide) z⟩))
      have main : ∀ k i G2, i + k = n → fr (moW M) G G2 → MoR G2 M (S_map S r b (fun _ _ => x) i) 0 → w_X3_fill_20 K post (k + 1) (some M.1.1) (nI j) x (nI i) G2 := by
        intro k
        induction k with
        | zero =>
          intro i G2 hi f2 h2
          show w_X3_fill_20_b K post (w_X3_fill_20 K post 0) (some M.1.1) (nI j) x (nI i) G2
          have e : i = n := by omega
          subst e
          have hs2 : (S_map S r b (fun _ _ => x) i).1 j = some (r, b, i) := by rw [(S_map_1 S r b _ i).1]; exact hs
          exact m_len h2 hj hs2 ⟨fun _ => m_len h2 hj hs2 (mr hp f2 h2), fun c => absurd (nI_le (by omega) (by omega)) c⟩
        | succ k ih =>
          intro i G2 hi f2 h2
          show w_X3_fill_20_b K post (w_X3_fill_20 K post (k + 1)) (some M.1.1) (nI j) x (nI i) G2
          have hs2 : (S_map S r b (fun _ _ => x) i).1 j = some (r, b, n) := by rw [(S_map_1 S r b _ i).1]; exact hs
          refine m_len h2 hj hs2 ⟨fun c => absurd c (nI_ge (by omega) (by omega)), fun _ => m_rcv h2 (m_write h2 hj hs2 (by omega) hx (fun G3 f3 h3 => ?_))⟩
          rw [nI_1]
          exact ih (i + 1) G3 (by omega) (fr_tr f2 f3) h3
      exact ⟨n + 1, main n 0 G1 (by omega) f1 h1⟩
end MOH
