/-! the model: digest -/
section MOL
variable {K : tK} {G : tG} {M : tM} {S : tS} {th : Int32}
theorem m_digest {pk : Int64 → tG → Prop} (h : MoR G M S th) (hp : ∀ G', fr (moW M) G G' → MoR G' M S 0 → pk (diF S) G') : w_X3_digest K pk (some M.1.1) G := by
  have m3 : ∀ k i nc ns G1, i + k = 7 → nc ≤ 4 + 2 * i → ns ≤ 16 + 24 * i → fr (moW M) G G1 → MoS G1 M S 0 (hd3 S (hd2 S (hd1 S 7778 4) 3) i) → w_X3_digest_110 K pk (k + 1) nc ns (some M.1.1) (nI i) G1 := by
    intro k
    induction k with
    | zero =>
      intro i nc ns G1 hi h1 h2 hf h3
      show w_X3_digest_110_b K pk (w_X3_digest_110 K pk 0) nc ns (some M.1.1) (nI i) G1
      have e : i = 7 := by omega
      subst e
      exact ⟨fun _ => m_rcv h3.1 (m_add_ h3 (fun G2 f2 h4 => gfL_i h4.2 rfl (hp G2 (fr_tr hf f2) h4.1))), fun c => absurd (by decide) c⟩
    | succ k ih =>
      intro i nc ns G1 hi h1 h2 hf h3
      show w_X3_digest_110_b K pk (w_X3_digest_110 K pk (k + 1)) nc ns (some M.1.1) (nI i) G1
      refine ⟨fun c => absurd (show nI 7 ≤ nI i from c) (nI_ge (by omega) (by omega)), fun _ => ?_⟩
      cases hq : S.1 i with
      | none =>
        have e : hd3 S (hd2 S (hd1 S 7778 4) 3) (i + 1) = mxF (mxF (hd3 S (hd2 S (hd1 S 7778 4) 3) i) (-1 : Int32).toInt64) (-1 : Int32).toInt64 := by
          show mlF S _ i = _
          unfold mlF; rw [hq]
        refine m_rowN h3.1 (by omega) hq (m_rcv h3.1 (m_add_ h3 (fun G2 f2 h4 => m_rcv h4.1 (m_beginNow (by omega) h4.1 (m_rcv h4.1 ?_)))))
        rw [hq]
        refine m_add_ h4 (fun G3 f3 h5 => m_rowN h5.1 (by omega) hq ⟨fun z => absurd rfl z, fun _ => ?_⟩)
        show w_X3_digest_110 K pk (k + 1) nc ns (some M.1.1) (nI i + 1) G3
        rw [nI_1]
        exact ih (i + 1) nc ns G3 (by omega) (by omega) (by omega) (fr_tr hf (fr_tr f2 f3)) (by rw [e]; exact h5)
      | some s =>
        obtain ⟨r, b, n⟩ := s
        have hr := (S_12 h.1 (show i < 7 by omega) hq).1
        have e : hd3 S (hd2 S (hd1 S 7778 4) 3) (i + 1) = mxF (mxF (mxF (mxF (mxF (hd3 S (hd2 S (hd1 S 7778 4) 3) i) (nI r).toInt64) (nI b).toInt64) (nI n).toInt64) (coF (S_v S r b) n).toInt64) (suF (S_v S r b) n).toInt64 := by
          show mlF S _ i = _
          unfold mlF; rw [hq]
        refine m_row h3.1 (by omega) hq (m_rcv h3.1 (m_add_ h3 (fun G2 f2 h4 => m_rcv h4.1 (m_beginNow (by omega) h4.1 (m_rcv h4.1 ?_)))))
        rw [hq]
        refine m_add_ h4 (fun G3 f3 h5 => m_row h5.1 (by omega) hq ⟨fun _ => ?_, fun z => ?_⟩)
        · refine m_len h5.1 (by omega) hq (m_rcv h5.1 (m_add_ h5 (fun G4 f4 h6 => ⟨⟨by omega, by omega⟩, m_rcv h6.1 (m_codeNow h6.1 (by omega) hq (fun q G5 q0 q3 h7 => m_rcv h7 (m_add_ (MoS_fr h6 q0 q3) (fun G6 f6 h8 => ⟨⟨by omega, by omega⟩, m_rcv h8.1 (m_sumNow h8.1 (by omega) hq (fun q' G7 p0 p3 h9 => m_rcv h9 (m_add_ (MoS_fr h8 p0 p3) (fun G8 f8 ha => ?_))))⟩))))⟩)))
          show w_X3_digest_110 K pk (k + 1) (nc + 1 + 1) (ns + 12 + 12) (some M.1.1) (nI i + 1) G8
          rw [nI_1]
          exact ih (i + 1) (nc + 1 + 1) (ns + 12 + 12) G8 (by omega) (by omega) (by omega) (fr_tr hf (fr_tr f2 (fr_tr f3 (fr_tr f4 (fr_tr (fr_al (fr_rf _ _) q0 q3) (fr_tr f6 (fr_tr (fr_al (fr_rf _ _) p0 p3) f8))))))) (by rw [e]; exact ha)
        · exact absurd (show nI r < 0 by rw [z]; decide) (nI_pos (by omega))
  have m2 : ∀ k i nc ns G1, i + k = 3 → nc ≤ 4 → ns ≤ 16 → fr (moW M) G G1 → MoS G1 M S 0 (hd2 S (hd1 S 7778 4) i) → w_X3_digest_45 K pk (k + 1) nc ns (some M.1.1) (some M.1.2.1) 3 (nI i) G1 := by
    intro k
    induction k with
    | zero =>
      intro i nc ns G1 hi h1 h2 hf h3
      show w_X3_digest_45_b K pk (w_X3_digest_45 K pk 0) nc ns (some M.1.1) (some M.1.2.1) 3 (nI i) G1
      have e : i = 3 := by omega
      subst e
      exact ⟨fun _ => ⟨8, m3 7 0 nc ns G1 (by omega) (by omega) (by omega) hf h3⟩, fun c => absurd (by decide) c⟩
    | succ k ih =>
      intro i nc ns G1 hi h1 h2 hf h3
      show w_X3_digest_45_b K pk (w_X3_digest_45 K pk (k + 1)) nc ns (some M.1.1) (some M.1.2.1) 3 (nI i) G1
      refine ⟨fun c => absurd (show nI 3 ≤ nI i from c) (nI_ge (by omega) (by omega)), fun _ => ?_⟩
      obtain ⟨-, -, ⟨mf, k3, k4⟩, -⟩ := id h3.1
      obtain ⟨n, d1, d2⟩ := h3.1.1.1 i (by omega)
      obtain ⟨f, g1, g2, g3⟩ := m_rowA h3.1 (show i < 3 by omega) d1
      refine alR_i k3 rfl (show i < 3 by omega) (by omega) ?_
      rw [k4 i (by omega)]
      refine lenA_i g1 (m_rcv h3.1 (m_add_ h3 (fun G2 f2 h4 => ?_)))
      obtain ⟨f', g1', g2', -⟩ := m_rowA h4.1 (show i < 3 by omega) d1
      refine lenA_i g1' ?_
      have e : hd2 S (hd1 S 7778 4) (i + 1) = mrF (S.2.1 i) (mxF (hd2 S (hd1 S 7778 4) i) (nI n).toInt64) n := by
        show mrF (S.2.1 i) (mxF (hd2 S (hd1 S 7778 4) i) (nI (lnF (S.1 i))).toInt64) (lnF (S.1 i)) = _
        rw [d1]; rfl
      have inner : ∀ k' t G3, t + k' = n → fr (moW M) G G3 → MoS G3 M S 0 (mrF (S.2.1 i) (mxF (hd2 S (hd1 S 7778 4) i) (nI n).toInt64) t) → w_X3_digest_75 K pk (w_X3_digest_45 K pk (k + 1)) (k' + 1) nc ns (some M.1.1) (some M.1.2.1) 3 (nI i) (some (M.2 i)) (nI n) (nI t) G3 := by
        intro k'
        induction k' with
        | zero =>
          intro t G3 ht f3 h5
          show w_X3_digest_75_b K pk (w_X3_digest_45 K pk (k + 1)) (w_X3_digest_75 K pk (w_X3_digest_45 K pk (k + 1)) 0) nc ns (some M.1.1) (some M.1.2.1) 3 (nI i) (some (M.2 i)) (nI n) (nI t) G3
          have et : t = n := by omega
          subst et
          refine ⟨fun _ => ?_, fun c => absurd (nI_le (by omega) (by omega)) c⟩
          rw [nI_1]
          exact ih (i + 1) nc ns G3 (by omega) h1 h2 f3 (by rw [e]; exact h5)
        | succ k' ih' =>
          intro t G3 ht f3 h5
          show w_X3_digest_75_b K pk (w_X3_digest_45 K pk (k + 1)) (w_X3_digest_75 K pk (w_X3_digest_45 K pk (k + 1)) (k' + 1)) nc ns (some M.1.1) (some M.1.2.1) 3 (nI i) (some (M.2 i)) (nI n) (nI t) G3
          refine ⟨fun c => absurd c (nI_ge (by omega) (by omega)), fun _ => ?_⟩
          obtain ⟨f'', e1, e2, -⟩ := m_rowA h5.1 (show i < 3 by omega) d1
          refine alI_i e1 rfl (by omega) (by omega) (m_rcv h5.1 (m_add_ h5 (fun G4 f4 h6 => ?_)))
          rw [nI_1]
          refine ih' (t + 1) G4 (by omega) (fr_tr f3 f4) ?_
          have e3 : f'' t = S.2.1 i t := e2 t (by omega)
          rw [e3] at h6
          exact h6
      exact ⟨n + 1, inner n 0 G2 (by omega) (fr_tr hf f2) h4⟩
  have m1 : ∀ k i nc ns G1, i + k = 4 → nc ≤ i → ns ≤ 4 * i → fr (moW M) G G1 → MoS G1 M S 0 (hd1 S 7778 i) → w_X3_digest_14 K pk (k + 1) nc ns (some M.1.1) (nI i) G1 := by
    intro k
    induction k with
    | zero =>
      intro i nc ns G1 hi h1 h2 hf h3
      show w_X3_digest_14_b K pk (w_X3_digest_14 K pk 0) nc ns (some M.1.1) (nI i) G1
      have e : i = 4 := by omega
      subst e
      obtain ⟨-, -, ⟨mf, k3, k4⟩, -⟩ := id h3.1
      refine ⟨fun _ => gfR_i _ h3.2 rfl (lenA_i k3 ⟨4, m2 3 0 nc ns G1 (by omega) (by omega) (by omega) hf h3⟩), fun c => absurd (by decide) c⟩
    | succ k ih =>
      intro i nc ns G1 hi h1 h2 hf h3
      show w_X3_digest_14_b K pk (w_X3_digest_14 K pk (k + 1)) nc ns (some M.1.1) (nI i) G1
      refine ⟨fun c => absurd (show nI 4 ≤ nI i from c) (nI_ge (by omega) (by omega)), fun _ => ⟨⟨by omega, by omega⟩, m_rcv h3.1 (m_houseNow (by omega) h3.1 (fun q G2 q0 q3 h4 => m_rcv h4 (m_add_ (MoS_fr h3 q0 q3) (fun G3 f3 h5 => ?_))))⟩⟩
      rw [nI_1]
      exact ih (i + 1) (nc + 1) (ns + 4) G3 (by omega) (by omega) (by omega) (fr_tr hf (fr_tr (fr_al (fr_rf _ _) q0 q3) f3)) h5
  obtain ⟨-, ⟨sm, h2⟩, -⟩ := id h
  refine pfV_i h2 (Nat.le_of_ble_eq_true rfl) (pfV_i (tg_s _ _ _) (Nat.le_of_ble_eq_true rfl) ⟨5, ?_⟩)
  have h3 := MoR_own (MoR_own h S.2.2.1 S.2.2.2 0 sm) S.2.2.1 S.2.2.2 0 7778
  exact m1 4 0 0 0 _ (by omega) (by omega) (by omega) (fr_tr (fr_up _ (Or.inl rfl)) (fr_up _ (Or.inl rfl))) ⟨h3, tg_s _ _ _⟩
end MOL
