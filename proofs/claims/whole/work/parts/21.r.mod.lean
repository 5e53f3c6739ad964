/-! the model: sort -/
/-- the sorted values in rising order, and where each goes -/
def rsF (S : tS) (r : Nat) (fall : Int32) (n t : Nat) : Int32 := if fall = 0 then S_v S r 0 t else S_v S r 0 (n - 1 - t)
def psF (fall : Int32) (n t : Nat) : Nat := if fall = 0 then t else n - 1 - t
theorem rs_facts {S : tS} {r n : Nat} (fall : Int32) (h : S_ok S) (hr : r < 3) (hn : n ≤ 12) : (∀ i j, i < j → j < n → (rsF (soF r 0 fall S (n - 1)) r fall n i).toInt ≤ (rsF (soF r 0 fall S (n - 1)) r fall n j).toInt) ∧ (∀ x, cnF (rsF (soF r 0 fall S (n - 1)) r fall n) x n = cnF (S_v S r 0) x n) ∧ (∀ t, t < n → okV (rsF (soF r 0 fall S (n - 1)) r fall n t)) := by
  have hs := soF_sorted r 0 fall S (n - 1)
  have hok := soF_ok (r := r) (b := 0) fall hr h (n - 1) (by omega)
  refine ⟨fun i j hij hj => ?_, fun x => ?_, fun t ht => ?_⟩
  · unfold rsF
    by_cases c : fall = 0
    · rw [if_pos c, if_pos c]
      have := hs i j hij (by omega)
      unfold leF at this
      rw [if_pos c] at this; exact this
    · rw [if_neg c, if_neg c]
      have := hs (n - 1 - j) (n - 1 - i) (by omega) (by omega)
      unfold leF at this
      rw [if_neg c] at this; exact this
  · have e := soF_cn r 0 fall x S n (n - 1) (by omega)
    rw [← e]
    by_cases c : fall = 0
    · exact cnF_cg n (fun t _ => by unfold rsF; rw [if_pos c])
    · rw [← cn_rev (S_v (soF r 0 fall S (n - 1)) r 0) x n]
      exact cnF_cg n (fun t _ => by unfold rsF; rw [if_neg c])
  · unfold rsF
    split
    · exact hok.2.2 r _ hr (by omega)
    · exact hok.2.2 r _ hr (by omega)
theorem okV_rng {x : Int32} (h : okV x) : -1000 ≤ x.toInt ∧ x.toInt ≤ 99 := by
  have e1 : (99 : Int32).toInt = 99 := rfl
  have e2 : (-99 : Int32).toInt = -99 := rfl
  have e3 : (-1000 : Int32).toInt = -1000 := rfl
  rcases h with h | ⟨h1, h2⟩
  · rw [h, e3]; omega
  · rw [i32_lt] at h1; rw [i32_le] at h2; omega
theorem v_int {i : Nat} (h : i < 2000) : (nI i - nI 1000).toInt = (i : Int) - 1000 := nI_sub (by omega) (by omega)
theorem v_succ (i : Nat) : nI i - nI 1000 + 1 = nI (i + 1) - nI 1000 := by
  rw [Int32.sub_eq_add_neg, Int32.sub_eq_add_neg, Int32.add_assoc, Int32.add_comm (-nI 1000), ← Int32.add_assoc, nI_1]
section MOR
variable {K : tK} {G : tG} {M : tM} {S : tS} {th : Int32} {post : Int32 → tG → Prop}
theorem m_sort {v fall : Int32} (h : MoR G M S th) (hp : mRes M G post (sp_li S (S_tw S v) fun r b n => (0, nI n, soF r b fall S (n - 1)))) : w_X3_sort K post (some M.1.1) v fall G := by
  have e2 : (2 : Int32).toInt = 2 := rfl
  have e0 : (0 : Int32).toInt = 0 := rfl
  refine m_isIn (fun q => ⟨fun _ => ?_, fun z => absurd z (by decide)⟩) (fun q => ⟨fun z => absurd rfl z, fun _ => ?_⟩)
  · obtain ⟨r, hr2, rfl⟩ := nI_of2 (M := 2) (n := 2) rfl q.1 q.2
    have hr : r < 3 := by omega
    obtain ⟨n, hs, hn⟩ := h.1.1 r hr
    rw [S_tw_nI hr, hs] at hp
    have hp : mRes M G post (0, nI n, soF r 0 fall S (n - 1)) := hp
    obtain ⟨hsort, hcn, hrok⟩ := rs_facts (S := S) (r := r) (n := n) fall h.1 hr hn
    generalize hc : rsF (soF r 0 fall S (n - 1)) r fall n = c at hsort hcn hrok
    refine m_rcv h (m_fails h (fun G1 f1 h1 => ⟨fun _ => m_rcv h1 (m_all h1 (show r < 7 by omega) hs (fun q f G2 q0 q1 q2 q3 h2 => ?_)), fun z => absurd (by decide) z⟩))
    have hqm := MoC_no (MoR_C h1) q0
    have hpos : ∀ t, t < n → psF fall n t < n := fun t ht => by unfold psF; split <;> omega
    have hinj : ∀ t t', t < n → t' < n → psF fall n t = psF fall n t' → t = t' := fun t t' ht ht' e => by
      unfold psF at e
      split at e <;> omega
    have hs3 : ∀ k, (pcF S r (psF fall n) c k).1 r = some (r, 0, n) := fun k => by rw [(pcF_1 S r _ c k).1]; exact hs
    have outer : ∀ (k i : Nat) (G3 : tG), i + k = 1100 → fr (moW M) G2 G3 → MoR G3 M (pcF S r (psF fall n) c (ltF c ((i : Int) - 1000) n)) 0 → w_X3_sort_38 K post (k + 1) (some M.1.1) (nI r) fall (some q) (nI (ltF c ((i : Int) - 1000) n)) (nI i - nI 1000) G3 := by
      intro k
      induction k with
      | zero =>
        intro i G3 hi f3 h3
        show w_X3_sort_38_b K post (w_X3_sort_38 K post 0) (some M.1.1) (nI r) fall (some q) (nI (ltF c ((i : Int) - 1000) n)) (nI i - nI 1000) G3
        have e : i = 1100 := by omega
        subst e
        have e3 := f3 _ _ q1 hqm
        refine ⟨fun _ => lenA_i e3 (mr hp (fr_tr (fr_al f1 q0 q3) f3) ?_), fun z => absurd (by decide) z⟩
        have hall : ltF c (((1100 : Nat) : Int) - 1000) n = n := ltF_all n (fun t ht => by have := (okV_rng (hrok t ht)).2; omega)
        rw [hall] at h3
        obtain ⟨g1, g2, g3⟩ := soF_1 r 0 fall S (n - 1)
        refine MoR_eq h3 ⟨fun j' _ => ?_, fun r' p _ hpl => ?_, (pcF_1 S r _ c n).2.trans g2.symm⟩ (soF_ok fall hr h.1 (n - 1) (by omega))
        · rw [(pcF_1 S r _ c n).1]; show _ = (soF r 0 fall S (n - 1)).1 j'; rw [g1]
        · show _ = (soF r 0 fall S (n - 1)).2.1 r' p
          by_cases d : r' = r
          · subst d
            rw [hs3 n] at hpl
            have hpl : p < n := hpl
            have hh := fun t ht => pcF_hit S r' (psF fall n) c (n := n) hinj n (Nat.le_refl _) t ht
            by_cases cf : fall = 0
            · have hh := hh p hpl
              have e1 : psF fall n p = p := by unfold psF; rw [if_pos cf]
              rw [e1] at hh
              rw [hh, ← hc]
              unfold rsF
              rw [if_pos cf]
              show (soF r' 0 fall S (n - 1)).2.1 r' (0 + p) = _
              rw [Nat.zero_add]
            · have hh := hh (n - 1 - p) (by omega)
              have e1 : psF fall n (n - 1 - p) = p := by unfold psF; rw [if_neg cf]; omega
              rw [e1] at hh
              rw [hh, ← hc]
              unfold rsF
              rw [if_neg cf]
              show (soF r' 0 fall S (n - 1)).2.1 r' (0 + (n - 1 - (n - 1 - p))) = _
              exact S_cg (by omega)
          · rw [g3 r' p d, pcF_miss _ _ _ _ n (Or.inl d)]
      | succ k ih =>
        intro i G3 hi f3 h3
        show w_X3_sort_38_b K post (w_X3_sort_38 K post (k + 1)) (some M.1.1) (nI r) fall (some q) (nI (ltF c ((i : Int) - 1000) n)) (nI i - nI 1000) G3
        have e3 := f3 _ _ q1 hqm
        have vi := v_int (i := i) (by omega)
        have hsu := ltF_succ (f := c) (X := (i : Int) - 1000) vi n
        refine ⟨fun z => ?_, fun _ => m_oftenIn e3 (by omega) ?_⟩
        · rw [i32_lt, vi] at z
          have : (99 : Int32).toInt = 99 := rfl
          omega
        · rw [cnF_cg n q2, ← hcn]
          have inner : ∀ (m d : Nat) (G4 : tG), d + m = cnF c (nI i - nI 1000) n → fr (moW M) G2 G4 → MoR G4 M (pcF S r (psF fall n) c (ltF c ((i : Int) - 1000) n + d)) 0 → w_X3_sort_53 K post (w_X3_sort_38 K post (k + 1)) (m + 1) (some M.1.1) (nI r) fall (some q) (nI (ltF c ((i : Int) - 1000) n + d)) (nI i - nI 1000) (nI m) G4 := by
            intro m
            induction m with
            | zero =>
              intro d G4 hd f4 h4
              show w_X3_sort_53_b K post (w_X3_sort_38 K post (k + 1)) (w_X3_sort_53 K post (w_X3_sort_38 K post (k + 1)) 0) (some M.1.1) (nI r) fall (some q) (nI (ltF c ((i : Int) - 1000) n + d)) (nI i - nI 1000) (nI 0) G4
              refine ⟨fun _ => ?_, fun z => absurd (by decide) z⟩
              have ed : ltF c ((i : Int) - 1000) n + d = ltF c (((i + 1 : Nat) : Int) - 1000) n := by
                rw [show (((i + 1 : Nat) : Int) - 1000) = (i : Int) - 1000 + 1 by omega, hsu]; omega
              rw [ed] at h4 ⊢
              rw [v_succ]
              exact ih (i + 1) G4 (by omega) f4 h4
            | succ m ihm =>
              intro d G4 hd f4 h4
              show w_X3_sort_53_b K post (w_X3_sort_38 K post (k + 1)) (w_X3_sort_53 K post (w_X3_sort_38 K post (k + 1)) (m + 1)) (some M.1.1) (nI r) fall (some q) (nI (ltF c ((i : Int) - 1000) n + d)) (nI i - nI 1000) (nI (m + 1)) G4
              have hle := ltF_le c ((i : Int) - 1000 + 1) n
              have e4 := f4 _ _ q1 hqm
              have hat : ltF c ((i : Int) - 1000) n + d < n := by omega
              have hcn12 := cnF_le c (nI i - nI 1000) n
              have hca : c (ltF c ((i : Int) - 1000) n + d) = nI i - nI 1000 := by
                have a1 := (ltF_at (X := (i : Int) - 1000) n hsort _ hat)
                have a2 := (ltF_at (X := (i : Int) - 1000 + 1) n hsort _ hat)
                have b1 : ¬ (c (ltF c ((i : Int) - 1000) n + d)).toInt < (i : Int) - 1000 := fun z => absurd (a1.mpr z) (by omega)
                have b2 := a2.mp (by omega)
                apply Int32.toInt_inj.mp
                rw [vi]; omega
              have step : ∀ u, u = nI (psF fall n (ltF c ((i : Int) - 1000) n + d)) → w_X3_sort_76 K post (w_X3_sort_38 K post (k + 1)) (w_X3_sort_53 K post (w_X3_sort_38 K post (k + 1)) (m + 1)) (some M.1.1) (nI r) fall (some q) (nI (ltF c ((i : Int) - 1000) n + d)) (nI i - nI 1000) (nI (m + 1)) (some M.1.1) (nI r) u G4 := fun u hu => by
                subst hu
                refine m_rcv h4 (m_write h4 (show r < 7 by omega) (hs3 _) (hpos _ hat) (by rw [← hca]; exact hrok _ hat) (fun G5 f5 h5 => ?_))
                rw [nI_1, nI_m1, nI_pred]
                refine ihm (d + 1) G5 (by omega) (fr_tr f4 f5) ?_
                rw [Nat.zero_add, ← hca] at h5
                exact h5
              refine ⟨fun z => absurd z (nI_nle (by omega) (by omega)), fun _ => ⟨fun cf => step _ ?_, fun cf => lenA_i e4 (step _ ?_)⟩⟩
              · unfold psF; rw [if_pos cf]
              · unfold psF; rw [if_neg cf]
                have eq : nI n - 1 = nI (n - 1) := by
                  have q2 : n = n - 1 + 1 := by omega
                  rw [q2, nI_pred]; congr 1
                show nI n - 1 - nI (ltF c ((i : Int) - 1000) n + d) = _
                rw [eq, nI_subN (by omega)]
          exact ⟨_, inner (cnF c (nI i - nI 1000) n) 0 G3 (by omega) f3 h3⟩
    have h0 : ltF c (((0 : Nat) : Int) - 1000) n = 0 := ltF_none n (fun t ht => by have := (okV_rng (hrok t ht)).1; omega)
    have fin := outer 1100 0 G2 (by omega) (fr_rf _ _) (by rw [h0]; exact h2)
    rw [h0] at fin
    exact ⟨_, fin⟩
  · have hc : S_tw S v = none := by
      unfold S_tw
      rw [if_neg]
      intro z
      exact q ⟨by rw [i32_lt]; omega, by rw [i32_le]; omega⟩
    rw [hc] at hp
    exact m_rcv h (m_fails h (fun G1 f1 h1 => ⟨fun z => absurd z (by decide), fun _ => mr (a := (1, 0, S)) hp f1 h1⟩))
end MOR
