/-! texts: the model's and the class -/
theorem groF_0 {c m : Nat} (h : m ≤ c) : groF c m = 0 := if_pos h
theorem capF_same {c m : Nat} (h : m ≤ c) : capF c m = c := if_pos h
theorem SB_rcv {G0 G : tG} {o v c k : Nat} {L : List Int32} {P : Prop} (h : SB G0 G o v c k L) (hp : P) : rcv G (some o) 1 P := by
  obtain ⟨-, ⟨fl, ho⟩, -, -⟩ := h
  exact rcv_i ho hp
theorem TwR_ext {G G' : tG} {L : tL} {S : tS} (h : TwR G L S) (he : ext G G') : TwR G' L S := TwR_fr (P := fun _ => False) h (ext_fr he _) (fun _ _ z => z) (fun _ _ z => z.elim)
theorem MoR_ext {G G' : tG} {M : tM} {S : tS} {th : Int32} (h : MoR G M S th) (he : ext G G') : MoR G' M S th := MoR_fr (P := fun _ => False) h (ext_fr he _) (fun _ _ z => z)
/-- the model's texts, as it makes them -/
def lineF (sh : Nat → List Int32) (back : Int32) : Nat → List Int32
  | 0 => []
  | i + 1 => if (lineF sh back i).length = 0 then sh i else if back = 0 then lineF sh back i ++ [32] ++ sh i else sh i ++ [32] ++ lineF sh back i
def wlF (d s : Nat → List Int32) : Nat → List Int32
  | 0 => []
  | i + 1 => wlF d s i ++ (if (wlF d s i).length = 0 then [] else [32]) ++ d i ++ [58] ++ s i
theorem STR_cg {K : tK} {G : tG} {r : Option Nat} {n : Nat} {l m : List Int32} (h : STR K G r n l) (e : l = m) : STR K G r n m := e ▸ h
theorem nz_of {n : Nat} (h : (if n = 0 then (1 : Int32) else 0) = 0) : ¬ n = 0 := fun q => by rw [if_pos q] at h; exact absurd h (by decide)
theorem z_of {n : Nat} (h : ¬ (if n = 0 then (1 : Int32) else 0) = 0) : n = 0 := Decidable.byContradiction fun q => h (if_neg q)
section STC
variable {K : tK} {G : tG} {M : tM} {S : tS} {th : Int32}
theorem a_shown {post : Option Nat → tG → Prop} {x : Int32} {mc ms : Nat} (hK : KOK K) (hx : okV x) (hmc : 6 ≤ mc) (hms : 27 ≤ ms) (hp : ∀ r G' n, ext G G' → STR K G' r n (shX K x) → n ≤ 3 → post r G') : w_X3_shown K mc ms post x G := by
  refine ⟨fun c => ?_, fun c => hp _ G 1 (ext_rf _) (STR_cg (STR_K hK.1) (show [45] = shX K x from (if_pos c).symm)) (by omega)⟩
  have hz := szF_in x
  refine ⟨⟨by omega, by omega⟩, fun o ho => ⟨1, 16, by omega, by omega, ⟨o, rfl⟩, a_init (G0 := G) ho (fun a ha => tg_n _ _ ha) (tg_s _ _ _) (Nat.le_refl _) (Nat.le_refl _) (fun G1 v1 x1 h1 => ?_)⟩⟩
  refine ⟨1, 0, by omega, by omega, SB_rcv h1 (a_appS (STR_K hK.2.1) (by omega) x1 h1 (by omega) (by omega) (Nat.le_refl _) (Nat.le_of_eq (groF_0 (by omega))) (fun G2 v2 x2 h2 => ?_))⟩
  rw [capF_same (by omega)] at h2
  refine ⟨1, 0, by omega, by omega, SB_rcv h2 (a_appI hK (hx.resolve_left c) x2 h2 (by omega) (by omega) (Nat.le_refl _) (Nat.le_of_eq (groF_0 (by omega))) (fun G3 v3 x3 h3 => ?_))⟩
  rw [capF_same (by omega)] at h3
  refine ⟨2, 4 + (0 + 0 + szF x), by omega, by omega, SB_rcv h3 (a_toString h3 (by omega) (Nat.le_refl _) (Nat.le_refl _) (fun s G4 x4 h4 => hp _ G4 _ (ext_tr x3 x4) (STR_cg h4 (show [] ++ [] ++ dgX K x = shX K x from (if_neg c).symm)) (by omega)))⟩
theorem m_line {post : Option Nat → tG → Prop} {v back : Int32} {mc ms : Nat} (hK : KOK K) (h : MoR G M S th) (hmc : 160 ≤ mc) (hms : 3200 ≤ ms) (h1 : S_at S v = none → ∀ x G', fr (moW M) G G' → MoR G' M S 1 → post x G') (h0 : ∀ j r b n, j < 7 → v = nI j → S.1 j = some (r, b, n) → ∀ x G' n', fr (moW M) G G' → MoR G' M S 0 → STR K G' x n' (lineF (fun i => shX K (S_v S r b i)) back n) → n' ≤ 200 → post x G') : w_X3_line K mc ms post (some M.1.1) v back G := by
  refine m_rcv h (m_isNoList h (fun c => ?_) (fun j r b n hj ev hs => ?_))
  · exact m_rcv h (m_fails h (fun G1 f1 g1 => ⟨fun z => absurd z (by decide), fun _ => h1 c _ G1 f1 g1⟩))
  · have hz0 := h0 j r b n hj ev hs
    subst ev
    have hn12 := (S_12 h.1 hj hs).2
    have hr3 := (S_12 h.1 hj hs).1
    refine m_rcv h (m_fails h (fun G1 f1 g1 => ⟨fun _ => ⟨⟨by omega, by omega⟩, m_rcv g1 (m_all g1 hj hs (fun q f G2 q0 q1 q2 q3 g2 => lenA_i q1 ?_))⟩, fun z => absurd (by decide) z⟩))
    have hval : ∀ t, t < n → okV (f t) := fun t ht => by rw [q2 t ht]; exact h.1.2.2 r _ hr3 (by omega)
    have main : ∀ (k i nc ns kk : Nat) (made : Option Nat) (G3 : tG), i + k = n → nc ≤ 1 + 13 * i → ns ≤ 12 + 260 * i → kk ≤ 4 * i → STR K G3 made kk (lineF (fun i => shX K (S_v S r b i)) back i) → ext G2 G3 → w_X3_line_34 K mc ms post (k + 1) nc ns back made (some q) (nI n) (nI i) G3 := by
      intro k
      induction k with
      | zero =>
        intro i nc ns kk made G3 hi hnc hns hkk hst x3
        show w_X3_line_34_b K mc ms post (w_X3_line_34 K mc ms post 0) nc ns back made (some q) (nI n) (nI i) G3
        have e : i = n := by omega
        subst e
        exact ⟨fun _ => hz0 _ G3 kk (fr_tr (fr_al f1 q0 q3) (ext_fr x3 _)) (MoR_ext g2 x3) hst (by omega), fun c => absurd (nI_le (by omega) (by omega)) c⟩
      | succ k ih =>
        intro i nc ns kk made G3 hi hnc hns hkk hst x3
        show w_X3_line_34_b K mc ms post (w_X3_line_34 K mc ms post (k + 1)) nc ns back made (some q) (nI n) (nI i) G3
        refine ⟨fun c => absurd c (nI_ge (by omega) (by omega)), fun _ => alI_i (x3 _ _ q1) rfl (by omega) (by omega) (s_rcv hst (s_isEmpty hst (by omega) ⟨fun c0 => ⟨fun cb => ?_, fun cb => ?_⟩, fun c0 => ?_⟩))⟩
        · -- behind what was made
          refine ⟨⟨by omega, by omega⟩, fun o ho => ⟨1, 16, by omega, by omega, ⟨o, rfl⟩, a_init (G0 := G3) ho (fun a ha => tg_n _ _ ha) (tg_s _ _ _) (Nat.le_refl _) (Nat.le_refl _) (fun G4 v4 x4 g4 => ?_)⟩⟩
          have c1 := cap_facts 16 (0 + kk)
          have b1 := c1.2.2.2 96 (by omega) (by omega)
          refine ⟨1, groF 16 (0 + kk), by omega, by omega, SB_rcv g4 (a_appS (STR_ext hst x4) (by omega) x4 g4 (by omega) (by omega) (Nat.le_refl _) (Nat.le_refl _) (fun G5 v5 x5 g5 => ?_))⟩
          have c2 := cap_facts (capF 16 (0 + kk)) (0 + kk + 1)
          have b2 := c2.2.2.2 96 (by omega) (by omega)
          refine ⟨1, groF (capF 16 (0 + kk)) (0 + kk + 1), by omega, by omega, SB_rcv g5 (a_appS (STR_K hK.2.2.1) (by omega) x5 g5 (by omega) (by omega) (Nat.le_refl _) (Nat.le_refl _) (fun G6 v6 x6 g6 => ?_))⟩
          refine ⟨6, 27, by omega, by omega, a_shown hK (hval i (by omega)) (Nat.le_refl _) (Nat.le_refl _) (fun rs G7 ns7 x7 st7 hn7 => ?_)⟩
          have eL : lineF (fun i => shX K (S_v S r b i)) back (i + 1) = lineF (fun i => shX K (S_v S r b i)) back i ++ [32] ++ shX K (S_v S r b i) := (if_neg (by rw [hst.1]; exact nz_of c0)).trans (if_pos cb)
          have st7 := STR_cg st7 (congrArg (shX K) (q2 i (by omega)))
          have g7 := SB_ext g6 x7
          have c3 := cap_facts (capF (capF 16 (0 + kk)) (0 + kk + 1)) (0 + kk + 1 + ns7)
          have b3 := c3.2.2.2 96 (by omega) (by omega)
          refine ⟨1, groF (capF (capF 16 (0 + kk)) (0 + kk + 1)) (0 + kk + 1 + ns7), by omega, by omega, SB_rcv g7 (a_appS st7 (by omega) (ext_tr x6 x7) g7 (by omega) (by omega) (Nat.le_refl _) (Nat.le_refl _) (fun G8 v8 x8 g8 => ?_))⟩
          refine ⟨2, 4 + (0 + kk + 1 + ns7), by omega, by omega, SB_rcv g8 (a_toString g8 (by omega) (Nat.le_refl _) (Nat.le_refl _) (fun s G9 x9 g9 => ?_))⟩
          show w_X3_line_34 K mc ms post (k + 1) _ _ back (some s) (some q) (nI n) (nI i + 1) G9
          rw [nI_1]
          exact ih (i + 1) _ _ (0 + kk + 1 + ns7) (some s) G9 (by omega) (by omega) (by omega) (by omega) (STR_cg g9 eL.symm) (ext_tr x3 (ext_tr x8 x9))
        · -- ahead of what was made
          refine ⟨⟨by omega, by omega⟩, fun o ho => ⟨1, 16, by omega, by omega, ⟨o, rfl⟩, a_init (G0 := G3) ho (fun a ha => tg_n _ _ ha) (tg_s _ _ _) (Nat.le_refl _) (Nat.le_refl _) (fun G4 v4 x4 g4 => ?_)⟩⟩
          refine ⟨6, 27, by omega, by omega, a_shown hK (hval i (by omega)) (Nat.le_refl _) (Nat.le_refl _) (fun rs G7 ns7 x7 st7 hn7 => ?_)⟩
          have eL : lineF (fun i => shX K (S_v S r b i)) back (i + 1) = shX K (S_v S r b i) ++ [32] ++ lineF (fun i => shX K (S_v S r b i)) back i := (if_neg (by rw [hst.1]; exact nz_of c0)).trans (if_neg cb)
          have st7 := STR_cg st7 (congrArg (shX K) (q2 i (by omega)))
          have g7 := SB_ext g4 x7
          have c1 := cap_facts 16 (0 + ns7)
          have b1 := c1.2.2.2 96 (by omega) (by omega)
          refine ⟨1, groF 16 (0 + ns7), by omega, by omega, SB_rcv g7 (a_appS st7 (by omega) (ext_tr x4 x7) g7 (by omega) (by omega) (Nat.le_refl _) (Nat.le_refl _) (fun G5 v5 x5 g5 => ?_))⟩
          have c2 := cap_facts (capF 16 (0 + ns7)) (0 + ns7 + 1)
          have b2 := c2.2.2.2 96 (by omega) (by omega)
          refine ⟨1, groF (capF 16 (0 + ns7)) (0 + ns7 + 1), by omega, by omega, SB_rcv g5 (a_appS (STR_K hK.2.2.1) (by omega) x5 g5 (by omega) (by omega) (Nat.le_refl _) (Nat.le_refl _) (fun G6 v6 x6 g6 => ?_))⟩
          have c3 := cap_facts (capF (capF 16 (0 + ns7)) (0 + ns7 + 1)) (0 + ns7 + 1 + kk)
          have b3 := c3.2.2.2 96 (by omega) (by omega)
          refine ⟨1, groF (capF (capF 16 (0 + ns7)) (0 + ns7 + 1)) (0 + ns7 + 1 + kk), by omega, by omega, SB_rcv g6 (a_appS (STR_ext hst x6) (by omega) x6 g6 (by omega) (by omega) (Nat.le_refl _) (Nat.le_refl _) (fun G8 v8 x8 g8 => ?_))⟩
          refine ⟨2, 4 + (0 + ns7 + 1 + kk), by omega, by omega, SB_rcv g8 (a_toString g8 (by omega) (Nat.le_refl _) (Nat.le_refl _) (fun s G9 x9 g9 => ?_))⟩
          show w_X3_line_34 K mc ms post (k + 1) _ _ back (some s) (some q) (nI n) (nI i + 1) G9
          rw [nI_1]
          exact ih (i + 1) _ _ (0 + ns7 + 1 + kk) (some s) G9 (by omega) (by omega) (by omega) (by omega) (STR_cg g9 eL.symm) (ext_tr x3 (ext_tr x8 x9))
        · refine ⟨6, 27, by omega, by omega, a_shown hK (hval i (by omega)) (Nat.le_refl _) (Nat.le_refl _) (fun rs G7 ns7 x7 st7 hn7 => ?_)⟩
          show w_X3_line_34 K mc ms post (k + 1) _ _ back rs (some q) (nI n) (nI i + 1) G7
          rw [nI_1]
          exact ih (i + 1) _ _ ns7 rs G7 (by omega) (by omega) (by omega) (by omega) (STR_cg st7 ((congrArg (shX K) (q2 i (by omega))).trans (show shX K (S_v S r b i) = lineF (fun i => shX K (S_v S r b i)) back (i + 1) from (if_pos (by rw [hst.1]; exact z_of c0)).symm))) (ext_tr x3 x7)
    exact ⟨n + 1, main n 0 _ _ 0 _ G2 (by omega) (by omega) (by omega) (by omega) (STR_K hK.2.1) (ext_rf _)⟩
theorem m_text {post : Option Nat → tG → Prop} {v : Int32} {mc ms : Nat} (hK : KOK K) (h : MoR G M S th) (hmc : 160 ≤ mc) (hms : 3200 ≤ ms) (h1 : S_at S v = none → ∀ x G', fr (moW M) G G' → MoR G' M S 1 → post x G') (h0 : ∀ j r b n, j < 7 → v = nI j → S.1 j = some (r, b, n) → ∀ x G' n', fr (moW M) G G' → MoR G' M S 0 → STR K G' x n' (lineF (fun i => shX K (S_v S r b i)) 0 n) → n' ≤ 200 → post x G') : w_X3_text K mc ms post (some M.1.1) v G :=
  ⟨mc, ms, by omega, by omega, m_rcv h (m_line hK h hmc hms h1 h0)⟩
theorem m_back {post : Option Nat → tG → Prop} {v : Int32} {mc ms : Nat} (hK : KOK K) (h : MoR G M S th) (hmc : 160 ≤ mc) (hms : 3200 ≤ ms) (h1 : S_at S v = none → ∀ x G', fr (moW M) G G' → MoR G' M S 1 → post x G') (h0 : ∀ j r b n, j < 7 → v = nI j → S.1 j = some (r, b, n) → ∀ x G' n', fr (moW M) G G' → MoR G' M S 0 → STR K G' x n' (lineF (fun i => shX K (S_v S r b i)) 1 n) → n' ≤ 200 → post x G') : w_X3_back K mc ms post (some M.1.1) v G :=
  ⟨mc, ms, by omega, by omega, m_rcv h (m_line hK h hmc hms h1 h0)⟩
theorem m_walk {post : Option Nat → tG → Prop} {v p many back : Int32} {mc ms : Nat} (hK : KOK K) (h : MoR G M S th) (hmc : 200 ≤ mc) (hms : 6100 ≤ ms) (h1 : S_at S v = none → ∀ x G', fr (moW M) G G' → MoR G' M S 1 → post x G') (h2 : ∀ j r b n, j < 7 → v = nI j → S.1 j = some (r, b, n) → ¬ (inR p 0 (nI n) ∧ inR many 0 12) → ∀ x G', fr (moW M) G G' → MoR G' M S 2 → post x G') (h0 : ∀ j r b n, j < 7 → v = nI j → S.1 j = some (r, b, n) → inR p 0 (nI n) → inR many 0 12 → ∀ x G' n', fr (moW M) G G' → MoR G' M S 0 → STR K G' x n' (wlF (fun i => dgX K (nI (plF p.toInt.toNat back i))) (fun i => shX K (S_v S r b (plF p.toInt.toNat back i))) (min many.toInt.toNat (slF p.toInt.toNat n back))) → n' ≤ 200 → post x G') : w_X3_walk K mc ms post (some M.1.1) v p many back G := by
  refine m_rcv h (m_isNoList h (fun c => ?_) (fun j r b n hj ev hs => ?_))
  · have hbad : ∀ u, w_X3_walk_30 K mc ms post 0 0 (some M.1.1) v p many back (some M.1.1) 1 u G := fun u => m_rcv h (m_fails h (fun G1 f1 g1 => ⟨fun z => absurd (show (1 : Int32) = 0 from z) (by decide), fun _ => h1 c _ G1 f1 g1⟩))
    exact m_rcv h (m_isBeyond h (fun _ => ⟨fun z => absurd rfl z, fun _ => m_isIn (fun _ => ⟨fun _ => hbad 0, fun z => absurd z (by decide)⟩) (fun _ => ⟨fun z => absurd rfl z, fun _ => hbad 1⟩)⟩) (fun j r b n hj ev hs _ => by subst ev; rw [S_at_nI S hj, hs] at c; cases c) (fun j r b n hj ev hs _ => by subst ev; rw [S_at_nI S hj, hs] at c; cases c))
  · have ec : S_at S v = some (r, b, n) := by rw [ev, S_at_nI S hj]; exact hs
    have hn12 := (S_12 h.1 hj hs).2
    have hr3 := (S_12 h.1 hj hs).1
    have other : ∀ {j2 r2 b2 n2}, j2 < 7 → v = nI j2 → S.1 j2 = some (r2, b2, n2) → n2 = n := fun {j2 r2 b2 n2} hj2 ev2 hs2 => by
      have e2 : S_at S v = some (r2, b2, n2) := by rw [ev2, S_at_nI S hj2]; exact hs2
      rw [ec] at e2; cases e2; rfl
    have hbad : ¬ (inR p 0 (nI n) ∧ inR many 0 12) → w_X3_walk_30 K mc ms post 0 0 (some M.1.1) v p many back (some M.1.1) 0 1 G := fun q => m_rcv h (m_fails h (fun G1 f1 g1 => ⟨fun z => absurd z (by decide), fun _ => h2 j r b n hj ev hs q _ G1 f1 g1⟩))
    have hgood : inR p 0 (nI n) → inR many 0 12 → w_X3_walk_30 K mc ms post 0 0 (some M.1.1) v p many back (some M.1.1) 0 0 G := fun q1 q2 => by
      have hz0 := h0 j r b n hj ev hs q1 q2
      obtain ⟨mn, hmn, emn⟩ := nI_of2 (M := 12) (n := 12) rfl q2.1 q2.2
      obtain ⟨a0, ha0, ea0⟩ := nI_of2 (nI_toInt (n := n) (by omega)) q1.1 q1.2
      subst emn
      subst ea0
      subst ev
      rw [nI_nat (i := a0) (by omega), nI_nat (i := mn) (by omega)] at hz0
      refine m_rcv h (m_fails h (fun G1 f1 g1 => ⟨fun _ => ?_, fun z => absurd (by decide) z⟩))
      have main : ∀ (k i nc ns kk : Nat) (at9 : Int32) (made : Option Nat) (G3 : tG), i + k = mn → i ≤ slF a0 n back → at9.toInt = (if back = 0 then (a0 : Int) + i else (a0 : Int) - 1 - i) → nc ≤ 15 * i → ns ≤ 500 * i → kk ≤ 8 * i → STR K G3 made kk (wlF (fun i => dgX K (nI (plF a0 back i))) (fun i => shX K (S_v S r b (plF a0 back i))) i) → ext G1 G3 → w_X3_walk_60 K mc ms post (k + 1) nc ns (some M.1.1) (nI j) (nI mn) back made at9 (nI i) G3 := by
        intro k
        induction k with
        | zero =>
          intro i nc ns kk at9 made G3 hi hsl hat9 hnc hns hkk hst x3
          show w_X3_walk_60_b K mc ms post (w_X3_walk_60 K mc ms post 0) nc ns (some M.1.1) (nI j) (nI mn) back made at9 (nI i) G3
          have e : i = mn := by omega
          subst e
          exact ⟨fun _ => hz0 _ G3 kk (fr_tr f1 (ext_fr x3 _)) (MoR_ext g1 x3) (STR_cg hst (by rw [Nat.min_eq_left hsl])) (by omega), fun c => absurd (nI_le (by omega) (by omega)) c⟩
        | succ k ih =>
          intro i nc ns kk at9 made G3 hi hsl hat9 hnc hns hkk hst x3
          show w_X3_walk_60_b K mc ms post (w_X3_walk_60 K mc ms post (k + 1)) nc ns (some M.1.1) (nI j) (nI mn) back made at9 (nI i) G3
          have g3 := MoR_ext g1 x3
          refine ⟨fun c => absurd c (nI_ge (by omega) (by omega)), fun _ => m_len g3 hj hs (m_isIn (fun hin => ⟨fun z => absurd z (by decide), fun _ => ?_⟩) (fun hout => ⟨fun _ => hz0 _ G3 kk (fr_tr f1 (ext_fr x3 _)) g3 (STR_cg hst ?_) (by omega), fun z => absurd rfl z⟩))⟩
          rotate_left
          · -- the walk's end
            have hno : ¬ (0 ≤ at9.toInt ∧ at9.toInt < n) := fun z => hout ((inR_pl (by omega)).mpr z)
            have e : slF a0 n back = i := by
              unfold slF at hsl ⊢
              by_cases cb : back = 0
              · rw [if_pos cb] at hsl hat9 ⊢
                omega
              · rw [if_neg cb] at hsl hat9 ⊢
                omega
            rw [e, Nat.min_eq_right (by omega)]
          have hpl := (inR_pl (by omega)).mp hin
          obtain ⟨a, ha, ea⟩ := nI_of hin.1
          subst ea
          rw [nI_toInt ha] at hpl hat9
          have han : a < n := by omega
          have epl : plF a0 back i = a := by
            unfold plF
            by_cases cb : back = 0
            · rw [if_pos cb] at hat9 ⊢
              omega
            · rw [if_neg cb] at hat9 ⊢
              omega
          have hsl2 : i + 1 ≤ slF a0 n back := by
            unfold slF
            by_cases cb : back = 0
            · rw [if_pos cb] at hat9 ⊢
              omega
            · rw [if_neg cb] at hat9 ⊢
              omega
          have eW : wlF (fun i => dgX K (nI (plF a0 back i))) (fun i => shX K (S_v S r b (plF a0 back i))) (i + 1) = wlF (fun i => dgX K (nI (plF a0 back i))) (fun i => shX K (S_v S r b (plF a0 back i))) i ++ (if (wlF (fun i => dgX K (nI (plF a0 back i))) (fun i => shX K (S_v S r b (plF a0 back i))) i).length = 0 then [] else [32]) ++ dgX K (nI a) ++ [58] ++ shX K (S_v S r b a) := by
            rw [← epl]; rfl
          generalize wlF (fun i => dgX K (nI (plF a0 back i))) (fun i => shX K (S_v S r b (plF a0 back i))) i = wi at hst eW
          have hat : inR (nI a) (-99) 99 := ⟨by rw [i32_lt, nI_toInt ha]; have : (-99 : Int32).toInt = -99 := rfl; omega, by rw [i32_le, nI_toInt ha]; have : (99 : Int32).toInt = 99 := rfl; omega⟩
          have hz := szF_in (nI a)
          refine ⟨⟨by omega, by omega⟩, fun o ho => ⟨1, 16, by omega, by omega, ⟨o, rfl⟩, a_init (G0 := G3) ho (fun a ha => tg_n _ _ ha) (tg_s _ _ _) (Nat.le_refl _) (Nat.le_refl _) (fun G4 v4 x4 g4 => ?_)⟩⟩
          have c1 := cap_facts 16 (0 + kk)
          have b1 := c1.2.2.2 192 (by omega) (by omega)
          refine ⟨1, groF 16 (0 + kk), by omega, by omega, SB_rcv g4 (a_appS (STR_ext hst x4) (by omega) x4 g4 (by omega) (by omega) (Nat.le_refl _) (Nat.le_refl _) (fun G5 v5 x5 g5 => ?_))⟩
          have rest : ∀ (u : Option Nat) (nu : Nat) (ul : List Int32), STR K G5 u nu ul → nu ≤ 1 → ul = (if wi.length = 0 then [] else [32]) → w_X3_walk_110 K mc ms post (w_X3_walk_60 K mc ms post (k + 1)) (nc + 1 + 1 + 1) (ns + 4 + 16 + groF 16 (0 + kk)) (some M.1.1) (nI j) (nI mn) back (nI a) (nI i) (some o) u G5 := by
            intro u nu ul hu hnu hul
            have c2 := cap_facts (capF 16 (0 + kk)) (0 + kk + nu)
            have b2 := c2.2.2.2 192 (by omega) (by omega)
            refine ⟨1, groF (capF 16 (0 + kk)) (0 + kk + nu), by omega, by omega, SB_rcv g5 (a_appS hu (by omega) x5 g5 (by omega) (by omega) (Nat.le_refl _) (Nat.le_refl _) (fun G6 v6 x6 g6 => ?_))⟩
            generalize hc6 : capF (capF 16 (0 + kk)) (0 + kk + nu) = cc6 at g6 c2 b2
            have c3 := cap_facts cc6 (0 + kk + nu + szF (nI a))
            have b3 := c3.2.2.2 192 (by omega) (by omega)
            refine ⟨1, groF cc6 (0 + kk + nu + szF (nI a)), by omega, by omega, SB_rcv g6 (a_appI hK hat x6 g6 (by omega) (by omega) (Nat.le_refl _) (Nat.le_refl _) (fun G7 v7 x7 g7 => ?_))⟩
            generalize hc7 : capF cc6 (0 + kk + nu + szF (nI a)) = cc7 at g7 c3 b3
            have c4 := cap_facts cc7 (0 + kk + nu + szF (nI a) + 1)
            have b4 := c4.2.2.2 192 (by omega) (by omega)
            refine ⟨1, groF cc7 (0 + kk + nu + szF (nI a) + 1), by omega, by omega, SB_rcv g7 (a_appS (STR_K hK.2.2.2.1) (by omega) x7 g7 (by omega) (by omega) (Nat.le_refl _) (Nat.le_refl _) (fun G8 v8 x8 g8 => ?_))⟩
            generalize hc8 : capF cc7 (0 + kk + nu + szF (nI a) + 1) = cc8 at g8 c4 b4
            have m8 := MoR_ext g3 x8
            refine m_rcv m8 (m_value m8 hj hs han ⟨6, 27, by omega, by omega, a_shown hK (h.1.2.2 r _ hr3 (by omega)) (Nat.le_refl _) (Nat.le_refl _) (fun rs G9 n9 x9 st9 hn9 => ?_)⟩)
            have g9 := SB_ext g8 x9
            have c5 := cap_facts cc8 (0 + kk + nu + szF (nI a) + 1 + n9)
            have b5 := c5.2.2.2 192 (by omega) (by omega)
            refine ⟨1, groF cc8 (0 + kk + nu + szF (nI a) + 1 + n9), by omega, by omega, SB_rcv g9 (a_appS st9 (by omega) (ext_tr x8 x9) g9 (by omega) (by omega) (Nat.le_refl _) (Nat.le_refl _) (fun Ga va xa ga => ?_))⟩
            generalize hc9 : capF cc8 (0 + kk + nu + szF (nI a) + 1 + n9) = cc9 at ga c5 b5
            refine ⟨2, 4 + (0 + kk + nu + szF (nI a) + 1 + n9), by omega, by omega, SB_rcv ga (a_toString ga (by omega) (Nat.le_refl _) (Nat.le_refl _) (fun s Gb xb gb => ?_))⟩
            have next : ∀ at9 : Int32, at9.toInt = (if back = 0 then (a0 : Int) + (i + 1 : Nat) else (a0 : Int) - 1 - (i + 1 : Nat)) → w_X3_walk_60 K mc ms post (k + 1) (nc + 1 + 1 + 1 + 1 + 1 + 1 + 6 + 1 + 2) (ns + 4 + 16 + groF 16 (0 + kk) + groF (capF 16 (0 + kk)) (0 + kk + nu) + groF cc6 (0 + kk + nu + szF (nI a)) + groF cc7 (0 + kk + nu + szF (nI a) + 1) + 27 + groF cc8 (0 + kk + nu + szF (nI a) + 1 + n9) + (4 + (0 + kk + nu + szF (nI a) + 1 + n9))) (some M.1.1) (nI j) (nI mn) back (some s) at9 (nI i + 1) Gb := fun at9 hat => by
              rw [nI_1]
              exact ih (i + 1) _ _ (0 + kk + nu + szF (nI a) + 1 + n9) at9 (some s) Gb (by omega) hsl2 hat (by omega) (by omega) (by omega) (STR_cg gb (by rw [eW, ← hul]; rfl)) (ext_tr x3 (ext_tr xa xb))
            refine ⟨fun cb => next _ ?_, fun cb => next _ ?_⟩
            · rw [if_pos cb] at hat9 ⊢
              rw [nI_1, nI_toInt (by omega)]
              omega
            · rw [if_neg cb] at hat9 ⊢
              rw [nI_m1, show (1 : Int32) = nI 1 from rfl, nI_sub (by omega) (by omega)]
              omega
          exact s_rcv (STR_ext hst x5) (s_isEmpty (STR_ext hst x5) (by omega) ⟨fun c0 => rest _ 1 _ (STR_K hK.2.2.1) (by omega) (if_neg (by rw [hst.1]; exact nz_of c0)).symm, fun c0 => rest _ 0 _ (STR_K hK.2.1) (by omega) (if_pos (by rw [hst.1]; exact z_of c0)).symm⟩)
      exact ⟨fun cb => ⟨mn + 1, main mn 0 0 0 0 _ _ G1 (by omega) (Nat.zero_le _) (by rw [if_pos cb, nI_toInt (by omega)]; omega) (by omega) (by omega) (by omega) (STR_K hK.2.1) (ext_rf _)⟩, fun cb => ⟨mn + 1, main mn 0 0 0 0 _ _ G1 (by omega) (Nat.zero_le _) (by rw [if_neg cb, show (1 : Int32) = nI 1 from rfl, nI_sub (by omega) (by omega)]; omega) (by omega) (by omega) (by omega) (STR_K hK.2.1) (ext_rf _)⟩⟩
    refine m_rcv h (m_isBeyond h (fun c => ?_) (fun j2 r2 b2 n2 hj2 ev2 hs2 q => ⟨fun _ => hbad (fun z => q ?_), fun z => absurd z (by decide)⟩) (fun j2 r2 b2 n2 hj2 ev2 hs2 q => ⟨fun z => absurd rfl z, fun _ => m_isIn (fun hx => ⟨fun _ => hgood ?_ hx, fun z => absurd z (by decide)⟩) (fun hx => ⟨fun z => absurd rfl z, fun _ => hbad (fun z => hx z.2)⟩)⟩))
    · rw [ec] at c; cases c
    · rw [other hj2 ev2 hs2]; exact z.1
    · rw [other hj2 ev2 hs2] at q; exact q
end STC
