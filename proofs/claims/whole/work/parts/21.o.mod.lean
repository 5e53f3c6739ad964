/-! the model: what changes values -/
theorem S_put_v (S : tS) (r k : Nat) (x : Int32) (r' i : Nat) : (S_put S r k x).2.1 r' i = if r' = r ∧ i = k then x else S.2.1 r' i := by
  show (if r' = r then upd (S.2.1 r) k x else S.2.1 r') i = _
  by_cases c : r' = r
  · subst c
    rw [if_pos rfl]
    by_cases d : i = k
    · subst d; rw [upd_s, if_pos ⟨rfl, rfl⟩]
    · rw [upd_n d, if_neg (fun z => d z.2)]
  · rw [if_neg c, if_neg (fun z => c z.1)]
theorem S_eq_of {S S' : tS} (h1 : S.1 = S'.1) (h2 : ∀ r i, S.2.1 r i = S'.2.1 r i) (h3 : S.2.2 = S'.2.2) : S_eq S S' := ⟨fun j _ => by rw [h1], fun r i _ _ => h2 r i, h3⟩
theorem roF_1 (S : tS) (r b : Nat) (old x : Int32) : ∀ k, (roF S r b old x k).1.1 = S.1 ∧ (roF S r b old x k).1.2.2 = S.2.2
  | 0 => ⟨rfl, rfl⟩
  | k + 1 => by
    have ih := roF_1 S r b old x k
    show (if _ then _ else _ : tS × Int32).1.1 = S.1 ∧ (if _ then _ else _ : tS × Int32).1.2.2 = S.2.2
    split
    · exact ih
    · exact ih
theorem roF_v (S : tS) (r b : Nat) (old x : Int32) : ∀ k, (∀ r' i, (roF S r b old x k).1.2.1 r' i = if r' = r ∧ (b ≤ i ∧ i < b + k) ∧ S.2.1 r i = old then x else S.2.1 r' i) ∧ (roF S r b old x k).2 = if cnF (S_v S r b) old k = 0 then 0 else 1
  | 0 => ⟨fun r' i => by rw [if_neg (by omega)]; rfl, rfl⟩
  | k + 1 => by
    obtain ⟨h1, h2⟩ := roF_v S r b old x k
    have e0 : (roF S r b old x k).1.2.1 r (b + k) = S.2.1 r (b + k) := by rw [h1, if_neg (by omega)]
    have ec : cnF (S_v S r b) old (k + 1) = cnF (S_v S r b) old k + (if S.2.1 r (b + k) = old then 1 else 0) := rfl
    by_cases c : S.2.1 r (b + k) = old
    · have e : roF S r b old x (k + 1) = (S_put (roF S r b old x k).1 r (b + k) x, 1) := by show (if _ then _ else _) = _; rw [if_pos (by rw [e0]; exact c)]
      rw [e]
      refine ⟨fun r' i => ?_, ?_⟩
      · show (S_put (roF S r b old x k).1 r (b + k) x).2.1 r' i = _
        rw [S_put_v]
        by_cases d : r' = r ∧ i = b + k
        · obtain ⟨d1, d2⟩ := d
          subst d1; subst d2
          rw [if_pos ⟨rfl, rfl⟩, if_pos ⟨rfl, by omega, c⟩]
        · rw [if_neg d, h1]
          by_cases d2 : r' = r ∧ (b ≤ i ∧ i < b + k) ∧ S.2.1 r i = old
          · rw [if_pos d2, if_pos ⟨d2.1, by omega, d2.2.2⟩]
          · rw [if_neg d2, if_neg]
            rintro ⟨z1, z2, z3⟩
            exact d2 ⟨z1, by have : i ≠ b + k := fun q => d ⟨z1, q⟩
                             omega, z3⟩
      · show (1 : Int32) = _
        rw [ec, if_pos c, if_neg (by omega)]
    · have e : roF S r b old x (k + 1) = roF S r b old x k := by show (if _ then _ else _) = _; rw [if_neg (by rw [e0]; exact c)]
      rw [e]
      refine ⟨fun r' i => ?_, ?_⟩
      · rw [h1]
        by_cases d2 : r' = r ∧ (b ≤ i ∧ i < b + k) ∧ S.2.1 r i = old
        · rw [if_pos d2, if_pos ⟨d2.1, by omega, d2.2.2⟩]
        · rw [if_neg d2, if_neg]
          rintro ⟨z1, z2, z3⟩
          refine d2 ⟨z1, ?_, z3⟩
          have : i ≠ b + k := fun q => c (q ▸ z3)
          omega
      · rw [ec, if_neg c, Nat.add_zero]; exact h2
theorem roF_ok {S : tS} (h : S_ok S) (r b : Nat) (old : Int32) {x : Int32} (hx : okV x) : ∀ k, S_ok (roF S r b old x k).1
  | 0 => h
  | k + 1 => by
    show S_ok (if _ then _ else _ : tS × Int32).1
    split
    · exact S_put_ok (roF_ok h r b old hx k) r (b + k) hx
    · exact roF_ok h r b old hx k
section MOP
variable {K : tK} {G : tG} {M : tM} {S : tS} {th : Int32} {post : Int32 → tG → Prop}
/-- an array's values are written behind one another -/
theorem m_writeAll {pv : tG → Prop} {j r b n q : Nat} {f : Nat → Int32} (h : MoR G M S th) (hj : j < 7) (hs : S.1 j = some (r, b, n)) (hq : G q = some (eI n f)) (hqm : ¬ moW M q) (hf : ∀ i, i < n → okV (f i)) (hp : ∀ G', fr (moW M) G G' → MoR G' M (S_map S r b (fun k _ => f k) n) th → pv G') : w_X3_writeAll K pv (some M.1.1) (nI j) (some q) G := by
  have hn12 := (S_12 h.1 hj hs).2
  have main : ∀ k i G1, i + k = n → fr (moW M) G G1 → MoR G1 M (S_map S r b (fun k _ => f k) i) th → w_X3_writeAll_2 K pv (k + 1) (some M.1.1) (nI j) (some q) (nI i) G1 := by
    intro k
    induction k with
    | zero =>
      intro i G1 hi f1 h1
      show w_X3_writeAll_2_b K pv (w_X3_writeAll_2 K pv 0) (some M.1.1) (nI j) (some q) (nI i) G1
      have e : i = n := by omega
      subst e
      exact lenA_i (f1 _ _ hq hqm) ⟨fun _ => hp G1 f1 h1, fun c => absurd (nI_le (by omega) (by omega)) c⟩
    | succ k ih =>
      intro i G1 hi f1 h1
      show w_X3_writeAll_2_b K pv (w_X3_writeAll_2 K pv (k + 1)) (some M.1.1) (nI j) (some q) (nI i) G1
      have hq1 := f1 _ _ hq hqm
      have hs1 : (S_map S r b (fun k _ => f k) i).1 j = some (r, b, n) := by rw [(S_map_1 S r b _ i).1]; exact hs
      refine lenA_i hq1 ⟨fun c => absurd c (nI_ge (by omega) (by omega)), fun _ => alI_i hq1 rfl (by omega) (by omega) (m_rcv h1 (m_write h1 hj hs1 (by omega) (hf i (by omega)) (fun G2 f2 h2 => ?_)))⟩
      rw [nI_1]
      exact ih (i + 1) G2 (by omega) (fr_tr f1 f2) h2
  exact ⟨n + 1, main n 0 G (by omega) (fr_rf _ _) h⟩
def rpF (old x y : Int32) : Int32 := if y = old then x else y
theorem rpF_ok {old x y : Int32} (hx : okV x) (hy : okV y) : okV (rpF old x y) := by
  unfold rpF; split
  · exact hx
  · exact hy
theorem m_replaceOld {v y x : Int32} (h : MoR G M S th) (hp : mRes M G post (sp_li S (S_at S v) fun r b n => if okV y ∧ okV x then (0, (roF S r b y x n).2, (roF S r b y x n).1) else (2, 0, S))) : w_X3_replaceOld K post (some M.1.1) v y x G := by
  refine m_rcv h (m_isNoList h (fun c => ?_) (fun j r b n hj ev hs => ?_))
  · rw [c] at hp
    have hbad : ∀ u, w_X3_replaceOld_25 K post (some M.1.1) v y x (some M.1.1) 1 u G := fun u => m_rcv h (m_fails h (fun G1 f1 h1 => ⟨fun z => absurd (show (1 : Int32) = 0 from z) (by decide), fun _ => mr (a := (1, 0, S)) hp f1 h1⟩))
    exact m_isNoValue (fun _ => ⟨fun _ => hbad 1, fun z => absurd z (by decide)⟩) (fun _ => ⟨fun z => absurd rfl z, fun _ => m_isNoValue (fun _ => ⟨fun z => absurd z (by decide), fun _ => hbad 1⟩) (fun _ => ⟨fun _ => hbad 0, fun z => absurd rfl z⟩)⟩)
  · subst ev
    rw [S_at_nI S hj, hs] at hp
    have hn12 := (S_12 h.1 hj hs).2
    have hr3 := (S_12 h.1 hj hs).1
    have hbad : ¬ (okV y ∧ okV x) → w_X3_replaceOld_25 K post (some M.1.1) (nI j) y x (some M.1.1) 0 1 G := fun e => by
      simp only [sp_li, if_neg e] at hp
      exact m_rcv h (m_fails h (fun G1 f1 h1 => ⟨fun z => absurd z (by decide), fun _ => mr hp f1 h1⟩))
    refine m_isNoValue (fun hy => ⟨fun _ => hbad (fun z => hy z.1), fun z => absurd z (by decide)⟩) (fun hy => ⟨fun z => absurd rfl z, fun _ => m_isNoValue (fun hx => ⟨fun z => absurd z (by decide), fun _ => hbad (fun z => hx z.2)⟩) (fun hx => ⟨fun _ => ?_, fun z => absurd rfl z⟩)⟩)
    simp only [sp_li, if_pos (And.intro hy hx)] at hp
    refine m_rcv h (m_fails h (fun G1 f1 h1 => ⟨fun _ => m_rcv h1 (m_all h1 hj hs (fun q f G2 q0 q1 q2 q3 h2 => m_oftenIn q1 (by omega) ?_)), fun z => absurd (by decide) z⟩))
    rw [cnF_cg n q2]
    have hqm := MoC_no (MoR_C h1) q0
    have main : ∀ k i G3 f', i + k = n → (∀ a, a ≠ q → G3 a = G1 a) → G3 q = some (eI n f') → (∀ t, t < i → f' t = rpF y x (S_v S r b t)) → (∀ t, i ≤ t → t < n → f' t = S_v S r b t) → w_X3_replaceOld_51 K post (k + 1) (some M.1.1) (nI j) y x (some q) (nI (cnF (S_v S r b) y n)) (nI i) G3 := by
      intro k
      induction k with
      | zero =>
        intro i G3 f' hi k3 e3 g1 g2
        show w_X3_replaceOld_51_b K post (w_X3_replaceOld_51 K post 0) (some M.1.1) (nI j) y x (some q) (nI (cnF (S_v S r b) y n)) (nI i) G3
        have e : i = n := by omega
        subst e
        have h3 := MoR_fresh h1 q0 k3
        refine lenA_i e3 ⟨fun _ => m_rcv h3 (m_writeAll h3 hj hs e3 hqm (fun t ht => ?_) (fun G4 f4 h4 => ?_)), fun c => absurd (nI_le (by omega) (by omega)) c⟩
        · rw [g1 t ht]; exact rpF_ok hx (h.1.2.2 r _ hr3 (by omega))
        · have rv := roF_v S r b y x i
          have r1 := roF_1 S r b y x i
          have h5 : MoR G4 M (roF S r b y x i).1 0 := by
            refine MoR_eq h4 (S_eq_of ((S_map_1 S r b _ i).1.trans r1.1.symm) (fun r' p => ?_) ((S_map_1 S r b _ i).2.trans r1.2.symm)) (roF_ok h.1 r b y hx i)
            rw [S_map_v, rv.1]
            by_cases c : r' = r ∧ b ≤ p ∧ p < b + i
            · rw [if_pos c, g1 (p - b) (by omega)]
              have ep : b + (p - b) = p := by omega
              show (if S.2.1 r (b + (p - b)) = y then x else S.2.1 r (b + (p - b))) = _
              rw [ep]
              by_cases d : S.2.1 r p = y
              · rw [if_pos d, if_pos ⟨c.1, c.2, d⟩]
              · rw [if_neg d, if_neg (fun z => d z.2.2), c.1]
            · rw [if_neg c, if_neg (fun z => c ⟨z.1, z.2.1⟩)]
          have hpost := mr hp (fr_tr (fr_al f1 q0 k3) f4) h5
          have hpost : post (roF S r b y x i).2 G4 := hpost
          rw [rv.2] at hpost
          have hle := cnF_le (S_v S r b) y i
          refine ⟨fun c => m_one (fun _ => ?_) (fun z => absurd rfl z), fun c => m_one (fun z => absurd z (by decide)) (fun _ => ?_)⟩
          · have hc : cnF (S_v S r b) y i = 0 := Decidable.byContradiction fun e => nI_nle (by omega) (by omega) c
            rw [if_pos hc] at hpost; exact hpost
          · have hc : ¬ cnF (S_v S r b) y i = 0 := fun e => c (by rw [e]; decide)
            rw [if_neg hc] at hpost; exact hpost
      | succ k ih =>
        intro i G3 f' hi k3 e3 g1 g2
        show w_X3_replaceOld_51_b K post (w_X3_replaceOld_51 K post (k + 1)) (some M.1.1) (nI j) y x (some q) (nI (cnF (S_v S r b) y n)) (nI i) G3
        have hst : ∀ z, rpF y x (S_v S r b i) = z → w_X3_replaceOld_81 K post (w_X3_replaceOld_51 K post (k + 1)) (some M.1.1) (nI j) y x (some q) (nI (cnF (S_v S r b) y n)) (nI i) (some q) (nI i) z G3 := fun z hz => by
          refine asI_i e3 rfl (by omega) (by omega) ?_
          rw [nI_1]
          refine ih (i + 1) _ _ (by omega) (fun a ha => by rw [tg_n _ _ ha]; exact k3 a ha) (tg_s _ _ _) (fun t ht => ?_) (fun t ht ht2 => ?_)
          · by_cases c : t = i
            · rw [c, upd_s]; exact hz.symm
            · rw [upd_n c]; exact g1 t (by omega)
          · rw [upd_n (by omega)]; exact g2 t (by omega) ht2
        have e5 : f' i = S_v S r b i := g2 i (by omega) (by omega)
        refine lenA_i e3 ⟨fun c => absurd c (nI_ge (by omega) (by omega)), fun _ => alI_i e3 rfl (by omega) (by omega) ⟨fun c => alI_i e3 rfl (by omega) (by omega) (hst _ ?_), fun c => hst _ ?_⟩⟩
        · rw [← e5]; unfold rpF; rw [if_neg c]
        · rw [← e5]; unfold rpF; rw [if_pos c]
    exact ⟨n + 1, main n 0 G2 f (by omega) q3 q1 (fun t ht => absurd ht (by omega)) (fun t _ ht => q2 t ht)⟩
theorem m_ruled {pk : Int32 → tG → Prop} {x rule w : Int32} (h : pk (ruF rule w x) G) : w_X3_ruled K pk rule x w G := by
  have h12 : w_X3_ruled_12 K pk rule w (nuF x) G := by
    unfold ruF at h
    refine ⟨fun c => ⟨fun c1 => ⟨fun c2 => ⟨fun d => ?_, fun d => ?_⟩, fun c2 => ?_⟩, fun c1 => ?_⟩, fun c => ?_⟩
    · rw [if_neg c, if_neg c1, if_neg c2, if_neg d] at h; exact h
    · rw [if_neg c, if_neg c1, if_neg c2, if_pos d] at h; exact h
    · rw [if_neg c, if_neg c1, if_pos c2] at h; exact h
    · rw [if_neg c, if_pos c1] at h; exact h
    · rw [if_pos c] at h; exact h
  refine ⟨fun c => ?_, fun c => ?_⟩
  · have e : nuF x = x := by unfold nuF; rw [if_neg c]
    rw [e] at h12; exact h12
  · have e : nuF x = 0 := by unfold nuF; rw [if_pos c]
    rw [e] at h12; exact h12
theorem wrF_1 (S : tS) (r b a : Nat) (back rule w : Int32) : ∀ k, (wrF S r b a back rule w k).1 = S.1 ∧ (wrF S r b a back rule w k).2.2 = S.2.2
  | 0 => ⟨rfl, rfl⟩
  | k + 1 => wrF_1 S r b a back rule w k
/-- a rule in the places from a on, up to e -/
theorem m_ruledAll {pk : Int32 → tG → Prop} {j r b n a e : Nat} {rule w : Int32} (h : MoR G M S th) (hj : j < 7) (hs : S.1 j = some (r, b, n)) (hae : a ≤ e) (hen : e ≤ n) (hw : inR w (-99) 99) (hp : ∀ G', fr (moW M) G G' → MoR G' M (wrF S r b a 0 rule w (e - a)) th → pk (nI (e - a)) G') : w_X3_ruledAll K pk (some M.1.1) (nI j) (nI a) (nI e) rule w G := by
  have hn12 := (S_12 h.1 hj hs).2
  have hr3 := (S_12 h.1 hj hs).1
  have main : ∀ k i G1, i + k = e - a → fr (moW M) G G1 → MoR G1 M (wrF S r b a 0 rule w i) th → w_X3_ruledAll_3 K pk (k + 1) (some M.1.1) (nI j) (nI a) (nI e) rule w (nI (a + i)) G1 := by
    intro k
    induction k with
    | zero =>
      intro i G1 hi f1 h1
      show w_X3_ruledAll_3_b K pk (w_X3_ruledAll_3 K pk 0) (some M.1.1) (nI j) (nI a) (nI e) rule w (nI (a + i)) G1
      have ei : i = e - a := by omega
      subst ei
      refine ⟨fun _ => ?_, fun c => absurd (nI_le (by omega) (by omega)) c⟩
      rw [nI_subN hae]
      exact hp G1 f1 h1
    | succ k ih =>
      intro i G1 hi f1 h1
      show w_X3_ruledAll_3_b K pk (w_X3_ruledAll_3 K pk (k + 1)) (some M.1.1) (nI j) (nI a) (nI e) rule w (nI (a + i)) G1
      have hs1 : (wrF S r b a 0 rule w i).1 j = some (r, b, n) := by rw [(wrF_1 S r b a 0 rule w i).1]; exact hs
      refine ⟨fun c => absurd c (nI_ge (by omega) (by omega)), fun _ => m_rcv h1 (m_value h1 hj hs1 (show a + i < n by omega) (m_ruled (m_rcv h1 (m_write h1 hj hs1 (show a + i < n by omega) (ruF_ok (h1.1.2.2 r _ hr3 (by omega)) hw) (fun G2 f2 h2 => ?_)))))⟩
      rw [nI_1]
      exact ih (i + 1) G2 (by omega) (fr_tr f1 f2) h2
  exact ⟨e - a + 1, main (e - a) 0 G (by omega) (fr_rf _ _) h⟩
theorem wrF_v0 (S : tS) (r b a : Nat) (rule w : Int32) : ∀ k r' i, (wrF S r b a 0 rule w k).2.1 r' i = if r' = r ∧ b + a ≤ i ∧ i < b + a + k then ruF rule w (S.2.1 r i) else S.2.1 r' i
  | 0, r', i => by rw [if_neg (by omega)]; rfl
  | k + 1, r', i => by
    have ih := wrF_v0 S r b a rule w k
    show (S_put (wrF S r b a 0 rule w k) r (b + (a + k)) (ruF rule w ((wrF S r b a 0 rule w k).2.1 r (b + (a + k))))).2.1 r' i = _
    have e0 : (wrF S r b a 0 rule w k).2.1 r (b + (a + k)) = S.2.1 r (b + (a + k)) := by rw [ih, if_neg (by omega)]
    rw [e0, S_put_v]
    by_cases d : r' = r ∧ i = b + (a + k)
    · rw [if_pos d, if_pos ⟨d.1, by omega⟩, d.2]
    · rw [if_neg d, ih]
      by_cases d2 : r' = r ∧ b + a ≤ i ∧ i < b + a + k
      · rw [if_pos d2, if_pos ⟨d2.1, by omega⟩]
      · rw [if_neg d2, if_neg]
        rintro ⟨z1, z2⟩
        have : i ≠ b + (a + k) := fun q => d ⟨z1, q⟩
        exact d2 ⟨z1, by omega⟩
theorem wrF_v1 (S : tS) (r b a : Nat) {back : Int32} (hb : ¬ back = 0) (rule w : Int32) : ∀ k r' i, k ≤ a → (wrF S r b a back rule w k).2.1 r' i = if r' = r ∧ b + (a - k) ≤ i ∧ i < b + a then ruF rule w (S.2.1 r i) else S.2.1 r' i
  | 0, r', i, _ => by rw [if_neg (by omega)]; rfl
  | k + 1, r', i, hk => by
    have ih := wrF_v1 S r b a hb rule w k
    have ep : plF a back k = a - 1 - k := by unfold plF; rw [if_neg hb]
    show (S_put (wrF S r b a back rule w k) r (b + plF a back k) (ruF rule w ((wrF S r b a back rule w k).2.1 r (b + plF a back k)))).2.1 r' i = _
    have e0 : (wrF S r b a back rule w k).2.1 r (b + (a - 1 - k)) = S.2.1 r (b + (a - 1 - k)) := by rw [ih _ _ (by omega), if_neg (by omega)]
    rw [ep, e0, S_put_v]
    by_cases d : r' = r ∧ i = b + (a - 1 - k)
    · rw [if_pos d, if_pos ⟨d.1, by omega⟩, d.2]
    · rw [if_neg d, ih r' i (by omega)]
      by_cases d2 : r' = r ∧ b + (a - k) ≤ i ∧ i < b + a
      · rw [if_pos d2, if_pos ⟨d2.1, by omega⟩]
      · rw [if_neg d2, if_neg]
        rintro ⟨z1, z2⟩
        have : i ≠ b + (a - 1 - k) := fun q => d ⟨z1, q⟩
        exact d2 ⟨z1, by omega⟩
theorem m_replaceAll {v rule w : Int32} (h : MoR G M S th) (hp : mRes M G post (sp_li S (S_at S v) fun r b n => if inR rule 0 3 ∧ inR w (-99) 99 then (0, nI (slF 0 n 0), wrF S r b 0 0 rule w (slF 0 n 0)) else (2, 0, S))) : w_X3_replaceAll K post (some M.1.1) v rule w G := by
  refine m_rcv h (m_isNoList h (fun c => ?_) (fun j r b n hj ev hs => ?_))
  · rw [c] at hp
    exact m_isNoRule (fun _ => m_rcv h (m_fails h (fun G1 f1 h1 => ⟨fun z => absurd z (by decide), fun _ => mr (a := (1, 0, S)) hp f1 h1⟩))) (fun _ _ => m_rcv h (m_fails h (fun G1 f1 h1 => ⟨fun z => absurd z (by decide), fun _ => mr (a := (1, 0, S)) hp f1 h1⟩)))
  · subst ev
    rw [S_at_nI S hj, hs] at hp
    refine m_isNoRule (fun hq => ?_) (fun q1 q2 => ?_)
    · simp only [sp_li, if_neg hq] at hp
      exact m_rcv h (m_fails h (fun G1 f1 h1 => ⟨fun z => absurd z (by decide), fun _ => mr hp f1 h1⟩))
    · simp only [sp_li, if_pos (And.intro q1 q2)] at hp
      exact m_rcv h (m_fails h (fun G1 f1 h1 => ⟨fun _ => m_len h1 hj hs (m_rcv h1 (m_ruledAll (a := 0) h1 hj hs (by omega) (by omega) q2 (fun G2 f2 h2 => mr hp (fr_tr f1 f2) h2))), fun z => absurd (by decide) z⟩))
theorem m_walkSet {v p rule w back : Int32} (h : MoR G M S th) (hp : mRes M G post (sp_li S (S_at S v) fun r b n => if inR p 0 (nI n) ∧ (inR rule 0 3 ∧ inR w (-99) 99) then (0, nI (slF p.toInt.toNat n back), wrF S r b p.toInt.toNat back rule w (slF p.toInt.toNat n back)) else (2, 0, S))) : w_X3_walkSet K post (some M.1.1) v p rule w back G := by
  refine m_rcv h (m_isNoList h (fun c => ?_) (fun j r b n hj ev hs => ?_))
  · rw [c] at hp
    have hbad : ∀ u, w_X3_walkSet_29 K post (some M.1.1) v p rule w back (some M.1.1) 1 u G := fun u => m_rcv h (m_fails h (fun G1 f1 h1 => ⟨fun z => absurd (show (1 : Int32) = 0 from z) (by decide), fun _ => mr (a := (1, 0, S)) hp f1 h1⟩))
    exact m_rcv h (m_isBeyond h (fun _ => ⟨fun z => absurd rfl z, fun _ => m_isNoRule (fun _ => ⟨fun z => absurd z (by decide), fun _ => hbad 1⟩) (fun _ _ => ⟨fun _ => hbad 0, fun z => absurd rfl z⟩)⟩) (fun j r b n hj ev hs _ => by subst ev; rw [S_at_nI S hj, hs] at c; cases c) (fun j r b n hj ev hs _ => by subst ev; rw [S_at_nI S hj, hs] at c; cases c))
  · have ec : S_at S v = some (r, b, n) := by rw [ev, S_at_nI S hj]; exact hs
    rw [ec] at hp
    have hn12 := (S_12 h.1 hj hs).2
    have hbad : ¬ (inR p 0 (nI n) ∧ (inR rule 0 3 ∧ inR w (-99) 99)) → w_X3_walkSet_29 K post (some M.1.1) v p rule w back (some M.1.1) 0 1 G := fun q => by
      simp only [sp_li, if_neg q] at hp
      exact m_rcv h (m_fails h (fun G1 f1 h1 => ⟨fun z => absurd z (by decide), fun _ => mr hp f1 h1⟩))
    have hgood : inR p 0 (nI n) → inR rule 0 3 → inR w (-99) 99 → w_X3_walkSet_29 K post (some M.1.1) v p rule w back (some M.1.1) 0 0 G := fun g1 g2 g3 => by
      simp only [sp_li, if_pos (And.intro g1 (And.intro g2 g3))] at hp
      obtain ⟨a, ha, rfl⟩ := nI_of2 (nI_toInt (n := n) (by omega)) g1.1 g1.2
      rw [nI_nat (by omega)] at hp
      subst ev
      refine m_rcv h (m_fails h (fun G1 f1 h1 => ⟨fun _ => ⟨fun cb => ⟨fun _ => m_len h1 hj hs (m_rcv h1 (m_ruledAll h1 hj hs ha (by omega) g3 (fun G2 f2 h2 => ?_))), fun z => absurd cb z⟩, fun cb => ⟨fun z => absurd z cb, fun _ => m_rcv h1 (m_ruledAll (a := 0) h1 hj hs (by omega) ha g3 (fun G2 f2 h2 => ?_))⟩⟩, fun z => absurd (by decide) z⟩))
      · subst cb
        have e : slF a n 0 = n - a := by unfold slF; rw [if_pos rfl]
        rw [e] at hp
        exact mr hp (fr_tr f1 f2) h2
      · have e : slF a n back = a := by unfold slF; rw [if_neg cb]
        rw [e] at hp
        refine mr hp (fr_tr f1 f2) ?_
        refine MoR_eq h2 (S_eq_of ((wrF_1 S r b 0 0 rule w (a - 0)).1.trans (wrF_1 S r b a back rule w a).1.symm) (fun r' i => ?_) ((wrF_1 S r b 0 0 rule w (a - 0)).2.trans (wrF_1 S r b a back rule w a).2.symm)) ?_
        · show _ = (wrF S r b a back rule w a).2.1 r' i
          rw [wrF_v0, wrF_v1 S r b a cb rule w a r' i (Nat.le_refl _)]
          by_cases d : r' = r ∧ b + 0 ≤ i ∧ i < b + 0 + (a - 0)
          · rw [if_pos d, if_pos ⟨d.1, by omega⟩]
          · rw [if_neg d, if_neg (fun z => d ⟨z.1, by omega⟩)]
        · have hr3 := (S_12 h.1 hj hs).1
          have : ∀ k, k ≤ a → S_ok (wrF S r b a back rule w k) := by
            intro k
            induction k with
            | zero => intro _; exact h.1
            | succ k ih =>
              intro hk
              have ep : plF a back k = a - 1 - k := by unfold plF; rw [if_neg cb]
              refine S_put_ok (ih (by omega)) r _ (ruF_ok ((ih (by omega)).2.2 r _ hr3 ?_) g3)
              rw [ep]; omega
          exact this a (Nat.le_refl _)
    have other : ∀ {j2 r2 b2 n2}, j2 < 7 → v = nI j2 → S.1 j2 = some (r2, b2, n2) → n2 = n := fun {j2 r2 b2 n2} hj2 ev2 hs2 => by
      have e2 : S_at S v = some (r2, b2, n2) := by rw [ev2, S_at_nI S hj2]; exact hs2
      rw [ec] at e2; cases e2; rfl
    refine m_rcv h (m_isBeyond h (fun c => ?_) (fun j2 r2 b2 n2 hj2 ev2 hs2 q => ⟨fun _ => hbad (fun z => q ?_), fun z => absurd z (by decide)⟩) (fun j2 r2 b2 n2 hj2 ev2 hs2 q => ⟨fun z => absurd rfl z, fun _ => m_isNoRule (fun hx => ⟨fun z => absurd z (by decide), fun _ => hbad (fun z => hx z.2)⟩) (fun g2 g3 => ⟨fun _ => hgood ?_ g2 g3, fun z => absurd rfl z⟩)⟩))
    · rw [ec] at c; cases c
    · rw [other hj2 ev2 hs2]; exact z.1
    · rw [other hj2 ev2 hs2] at q; exact q
end MOP
