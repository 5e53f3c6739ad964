/-! the model: the whole -/
section MOK
variable {K : tK} {G : tG} {M : tM} {S : tS} {th : Int32} {post : Int32 → tG → Prop}
theorem m_kn {P : Int32 → Prop} (h : MoR G M S th) (hp : P S.2.2.1) : gfI G (some M.1.1) 5 4 P := by
  obtain ⟨-, ⟨sm, h2⟩, -⟩ := h
  exact gfI_i h2 rfl hp
theorem m_rf {P : Int32 → Prop} (h : MoR G M S th) (hp : P S.2.2.2) : gfI G (some M.1.1) 5 5 P := by
  obtain ⟨-, ⟨sm, h2⟩, -⟩ := h
  exact gfI_i h2 rfl hp
theorem m_rlen {P : Int32 → Prop} {r : Nat} (h : MoR G M S th) (hr : r < 3) (hp : P (nI (lnF (S.1 r)))) : gfR G (some M.1.1) 5 0 (fun x => alR G x (nI r) (.array .int) (fun y => lenA G y P)) := by
  refine m_rows h hr ?_
  obtain ⟨n, d1, d2⟩ := h.1.1 r hr
  obtain ⟨f, g1, g2, g3⟩ := m_rowA h hr d1
  refine lenA_i g1 ?_
  rw [d1] at hp
  exact hp
theorem m_houseNow {pk : Int32 → tG → Prop} {w : Nat} (hw : w < 4) (h : MoR G M S th) (hp : ∀ q G', G q = none → (∀ a, a ≠ q → G' a = G a) → MoR G' M S th → pk (hoF S (nI w)) G') : w_X3_houseNow K pk (some M.1.1) (nI w) G := by
  have main : ∀ k i, i + k = 4 → w_X3_houseNow_4 K pk (k + 1) (some M.1.1) (nI w) (paF S i) (nI (3 + i)) G := by
    intro k
    induction k with
    | zero =>
      intro i hi
      show w_X3_houseNow_4_b K pk (w_X3_houseNow_4 K pk 0) (some M.1.1) (nI w) (paF S i) (nI (3 + i)) G
      have e : i = 4 := by omega
      subst e
      refine ⟨fun _ => ⟨4, rfl, by omega, fun q hq => ?_⟩, fun c => absurd (by decide) c⟩
      have fr1 : ∀ {G1 : tG}, (∀ a, a ≠ q → G1 a = G a) → MoR G1 M S th := fun hk => MoR_fresh h hq hk
      have k1 : ∀ {G1 : tG} {e : tE}, (∀ a, a ≠ q → G1 a = G a) → ∀ a, a ≠ q → tg_up G1 q e a = G a := fun hk a ha => by rw [tg_n _ _ ha]; exact hk a ha
      have kA : ∀ {e : tE}, ∀ a, a ≠ q → tg_up G q e a = G a := fun a ha => tg_n _ _ ha
      refine m_kn (fr1 kA) (asI_i (j := 0) (tg_s _ _ _) rfl (by omega) (by omega) ?_)
      refine m_rf (fr1 (k1 kA)) (asI_i (j := 1) (tg_s _ _ _) rfl (by omega) (by omega) ?_)
      refine asI_i (j := 2) (tg_s _ _ _) rfl (by omega) (by omega) ?_
      refine m_rlen (r := 0) (fr1 (k1 (k1 (k1 kA)))) (by omega) ?_
      refine m_rlen (r := 1) (fr1 (k1 (k1 (k1 kA)))) (by omega) ?_
      refine m_rlen (r := 2) (fr1 (k1 (k1 (k1 kA)))) (by omega) ?_
      refine asI_i (j := 3) (tg_s _ _ _) rfl (by omega) (by omega) ?_
      refine alI_i (tg_s _ _ _) rfl hw (by omega) ?_
      have hf : ∀ G' : tG, (∀ a, a ≠ q → G' a = G a) → pk (hoF S (nI w)) G' := fun G' hk => hp q G' hq hk (fr1 hk)
      have e3 : prF S 3 = nI (lnF (S.1 0)) + nI (lnF (S.1 1)) + nI (lnF (S.1 2)) := by
        show 0 + nI (lnF (S.1 0)) + nI (lnF (S.1 1)) + nI (lnF (S.1 2)) = _
        rw [Int32.zero_add]
      rcases (show w = 0 ∨ w = 1 ∨ w = 2 ∨ w = 3 by omega) with rfl | rfl | rfl | rfl
      · exact hf _ (k1 (k1 (k1 (k1 kA))))
      · exact hf _ (k1 (k1 (k1 (k1 kA))))
      · exact hf _ (k1 (k1 (k1 (k1 kA))))
      · have e4 : hoF S (nI 3) = prF S 3 := rfl
        rw [e4, e3] at hf
        exact hf _ (k1 (k1 (k1 (k1 kA))))
    | succ k ih =>
      intro i hi
      show w_X3_houseNow_4_b K pk (w_X3_houseNow_4 K pk (k + 1)) (some M.1.1) (nI w) (paF S i) (nI (3 + i)) G
      have hi2 := ih (i + 1) (by omega)
      refine ⟨fun c => absurd (show nI 7 ≤ nI (3 + i) from c) (nI_ge (by omega) (by omega)), fun _ => ?_⟩
      cases hq : S.1 (3 + i) with
      | none =>
        have e : paF S (i + 1) = paF S i + 0 := by show _ + (if _ then _ else _) = _; rw [if_pos hq]
        rw [e] at hi2
        refine m_rowN h (by omega) hq ⟨fun _ => m_one (fun _ => ?_) (fun z => absurd rfl z), fun z => absurd rfl z⟩
        rw [nI_1]; exact hi2
      | some s =>
        obtain ⟨r, b, n⟩ := s
        have e : paF S (i + 1) = paF S i + 1 := by show _ + (if _ then _ else _) = _; rw [if_neg (by rw [hq]; exact fun z => by cases z)]
        rw [e] at hi2
        have hr := (S_12 h.1 (show 3 + i < 7 by omega) hq).1
        refine m_row h (by omega) hq ⟨fun z => ?_, fun _ => m_one (fun z => absurd z (by decide)) (fun _ => ?_)⟩
        · exact absurd (show nI r < 0 by rw [z]; decide) (nI_pos (by omega))
        · rw [nI_1]; exact hi2
  exact ⟨5, main 4 0 (by omega)⟩
theorem m_house {v : Int32} (h : MoR G M S th) (hp : mRes M G post (if inR v 0 3 then (0, hoF S v, S) else (1, 0, S))) : w_X3_house K post (some M.1.1) v G := by
  refine m_isIn (fun q => ⟨fun _ => ?_, fun z => absurd z (by decide)⟩) (fun q => ⟨fun z => absurd rfl z, fun _ => ?_⟩)
  · rw [if_pos q] at hp
    obtain ⟨w, hw, rfl⟩ := nI_of2 (M := 3) (n := 3) rfl q.1 q.2
    exact m_rcv h (m_fails h (fun G1 f1 h1 => ⟨fun _ => m_rcv h1 (m_houseNow (by omega) h1 (fun q G2 q0 q3 h2 => mr hp (fr_al f1 q0 q3) h2)), fun z => absurd (by decide) z⟩))
  · rw [if_neg q] at hp
    exact m_rcv h (m_fails h (fun G1 f1 h1 => ⟨fun z => absurd z (by decide), fun _ => mr hp f1 h1⟩))
theorem m_rowOf {v : Int32} (h : MoR G M S th) (hp : mRes M G post (if inR v 0 6 then (0, ro1 (S_at S v), S) else (1, 0, S))) : w_X3_rowOf K post (some M.1.1) v G := by
  refine m_isIn (fun q => ⟨fun _ => ?_, fun z => absurd z (by decide)⟩) (fun q => ⟨fun z => absurd rfl z, fun _ => ?_⟩)
  · rw [if_pos q] at hp
    obtain ⟨w, hw, rfl⟩ := nI_of2 (M := 6) (n := 6) rfl q.1 q.2
    rw [S_at_nI S (by omega)] at hp
    refine m_rcv h (m_fails h (fun G1 f1 h1 => ⟨fun _ => ?_, fun z => absurd (by decide) z⟩))
    cases hq : S.1 w with
    | none =>
      rw [hq] at hp
      exact m_rowN h1 (by omega) hq (mr hp f1 h1)
    | some s =>
      obtain ⟨r, b, n⟩ := s
      rw [hq] at hp
      exact m_row h1 (by omega) hq (mr hp f1 h1)
  · rw [if_neg q] at hp
    exact m_rcv h (m_fails h (fun G1 f1 h1 => ⟨fun z => absurd z (by decide), fun _ => mr hp f1 h1⟩))
theorem m_beginNow {pk : Int32 → tG → Prop} {j : Nat} (hj : j < 7) (h : MoR G M S th) (hp : pk (be1 (S.1 j)) G) : w_X3_beginNow K pk (some M.1.1) (nI j) G := by
  cases hq : S.1 j with
  | none =>
    rw [hq] at hp
    exact m_rowN h hj hq ⟨fun z => absurd rfl z, fun _ => hp⟩
  | some s =>
    obtain ⟨r, b, n⟩ := s
    rw [hq] at hp
    have hr := (S_12 h.1 hj hq).1
    refine m_row h hj hq ⟨fun _ => m_beg h hj hq hp, fun z => ?_⟩
    exact absurd (show nI r < 0 by rw [z]; decide) (nI_pos (by omega))
theorem m_begin {v : Int32} (h : MoR G M S th) (hp : mRes M G post (if inR v 0 6 then (0, be1 (S_at S v), S) else (1, 0, S))) : w_X3_begin K post (some M.1.1) v G := by
  refine m_isIn (fun q => ⟨fun _ => ?_, fun z => absurd z (by decide)⟩) (fun q => ⟨fun z => absurd rfl z, fun _ => ?_⟩)
  · rw [if_pos q] at hp
    obtain ⟨w, hw, rfl⟩ := nI_of2 (M := 6) (n := 6) rfl q.1 q.2
    rw [S_at_nI S (by omega)] at hp
    exact m_rcv h (m_fails h (fun G1 f1 h1 => ⟨fun _ => m_rcv h1 (m_beginNow (by omega) h1 (mr hp f1 h1)), fun z => absurd (by decide) z⟩))
  · rw [if_neg q] at hp
    exact m_rcv h (m_fails h (fun G1 f1 h1 => ⟨fun z => absurd z (by decide), fun _ => mr hp f1 h1⟩))
theorem m_isSound {pk : Int32 → tG → Prop} (h : MoR G M S th) (hp : ∀ G', fr (moW M) G G' → MoR G' M S 0 → pk 1 G') : w_X3_isSound K pk (some M.1.1) G := by
  obtain ⟨-, ⟨sm, h2⟩, -⟩ := id h
  exact pfV_i h2 (Nat.le_of_ble_eq_true rfl) ⟨by decide, hp _ (fr_up _ (Or.inl rfl)) (MoR_own h S.2.2.1 S.2.2.2 0 sm)⟩
/-- with the model's running sum -/
def MoS (G : tG) (M : tM) (S : tS) (th : Int32) (sm : Int64) : Prop := MoR G M S th ∧ G M.1.1 = some (oMo M S.2.2.1 S.2.2.2 th sm)
theorem m_add_ {pv : tG → Prop} {sm x : Int64} (h : MoS G M S th sm) (hp : ∀ G', fr (moW M) G G' → MoS G' M S th (mxF sm x) → pv G') : w_X3_add_ K pv (some M.1.1) x G := by
  refine gfL_i h.2 rfl (pfV_i h.2 (Nat.le_of_ble_eq_true rfl) ?_)
  exact hp _ (fr_up _ (Or.inl rfl)) ⟨MoR_own h.1 S.2.2.1 S.2.2.2 th _, tg_s _ _ _⟩
theorem MoS_R {sm : Int64} (h : MoS G M S th sm) : MoR G M S th := h.1
theorem MoS_fr {G1 : tG} {sm : Int64} (h : MoS G M S th sm) {q : Nat} (hq : G q = none) (hk : ∀ a, a ≠ q → G1 a = G a) : MoS G1 M S th sm := by
  refine ⟨MoR_fresh h.1 hq hk, ?_⟩
  rw [hk _ (fun c => by rw [← c, h.2] at hq; cases hq)]; exact h.2
end MOK
