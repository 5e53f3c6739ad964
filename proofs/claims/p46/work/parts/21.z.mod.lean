section GRP21x0
/-! THE MODEL's cells: the object; rows; rowsOf, begins, lengths; the rows' own arrays -/
abbrev tM : Type := (Nat × Nat × Nat × Nat × Nat) × (Nat → Nat)
abbrev oMo (M : tM) (k rf th : Int32) (sm : Int64) : tE := .inr (5, [.ref M.1.2.1, .ref M.1.2.2.1, .ref M.1.2.2.2.1, .ref M.1.2.2.2.2, .int k, .int rf, .int th, .long sm])
abbrev eR (mf : Nat → Option Nat) : tE := .inl (.array .int, 3, .inr (.inr (.inr (.inr mf))))
def moW (M : tM) (q : Nat) : Prop := q = M.1.1 ∨ q = M.1.2.1 ∨ q = M.1.2.2.1 ∨ q = M.1.2.2.2.1 ∨ q = M.1.2.2.2.2 ∨ q = M.2 0 ∨ q = M.2 1 ∨ q = M.2 2
/-- the three arrays by lists stand for the lists -/
def moL (S : tS) (fo fb fl : Nat → Int32) : Prop := ∀ j, j < 7 → (S.1 j = none ∧ fo j = -1) ∨ ∃ r b n, S.1 j = some (r, b, n) ∧ fo j = nI r ∧ fb j = nI b ∧ fl j = nI n
def MoR (G : tG) (M : tM) (S : tS) (th : Int32) : Prop := S_ok S ∧ (∃ sm, G M.1.1 = some (oMo M S.2.2.1 S.2.2.2 th sm)) ∧ (∃ mf, G M.1.2.1 = some (eR mf) ∧ ∀ r, r < 3 → mf r = some (M.2 r)) ∧
  (∃ fo fb fl, (G M.1.2.2.1 = some (eI 7 fo) ∧ G M.1.2.2.2.1 = some (eI 7 fb) ∧ G M.1.2.2.2.2 = some (eI 7 fl)) ∧ moL S fo fb fl) ∧
  (∀ r, r < 3 → ∃ f, G (M.2 r) = some (eI (lnF (S.1 r)) f) ∧ ∀ i, i < lnF (S.1 r) → f i = S.2.1 r i) ∧
  (M.1.2.2.1 ≠ M.1.2.2.2.1 ∧ M.1.2.2.1 ≠ M.1.2.2.2.2 ∧ M.1.2.2.2.1 ≠ M.1.2.2.2.2) ∧ (∀ r, r < 3 → M.2 r ≠ M.1.2.2.1 ∧ M.2 r ≠ M.1.2.2.2.1 ∧ M.2 r ≠ M.1.2.2.2.2) ∧ (∀ r r', r < 3 → r' < 3 → M.2 r = M.2 r' → r = r')
/-- the model's own fields: knocks, refusals, thrown -/
theorem MoR_own {G : tG} {M : tM} {S : tS} {th : Int32} (h : MoR G M S th) (k rf th2 : Int32) (sm : Int64) : MoR (tg_up G M.1.1 (oMo M k rf th2 sm)) M (S.1, S.2.1, k, rf) th2 := by
  obtain ⟨h1, ⟨sm0, h2⟩, ⟨mf, h3, h4⟩, ⟨fo, fb, fl, ⟨h5, h6, h7⟩, h8⟩, h9, h10, h11, h12⟩ := h
  refine ⟨h1, ⟨sm, tg_s _ _ _⟩, ⟨mf, tg_keep h3 (fun e => ne_OI h2 h3 e.symm), h4⟩, ⟨fo, fb, fl, ⟨tg_keep h5 (fun e => ne_OI h2 h5 e.symm), tg_keep h6 (fun e => ne_OI h2 h6 e.symm), tg_keep h7 (fun e => ne_OI h2 h7 e.symm)⟩, h8⟩, fun r hr => ?_, h10, h11, h12⟩
  obtain ⟨f, g1, g2⟩ := h9 r hr
  exact ⟨f, tg_keep g1 (fun e => ne_OI h2 g1 e.symm), g2⟩
/-- what the model's step leaves: nothing else is written; what it makes was free -/
def mRes (M : tM) (G : tG) (post : Int32 → tG → Prop) (a : tA) : Prop := ∀ (G' : tG) (M' : tM), M'.1 = M.1 → fr (moW M) G G' → (∀ q, moW M' q → moW M q ∨ G q = none) → MoR G' M' a.2.2 (nI a.1) → post a.2.1 G'
end GRP21x0
section GRP21x1
section MOB
variable {K : tK} {G : tG} {M : tM} {S : tS} {th : Int32} {post : Int32 → tG → Prop}
def b1 (p : Bool) : Int32 := if p then 1 else 0
theorem b1_01 (p : Bool) : b1 p = 0 ∨ b1 p = 1 := by cases p <;> decide
theorem m_isIn {x a c : Int32} (h1 : inR x a c → post 1 G) (h0 : ¬ inR x a c → post 0 G) : w_X3_isIn K post x a c G := by
  refine ⟨fun q => ⟨by decide, h0 (fun z => z.1 q)⟩, fun q => ⟨fun q2 => ⟨by decide, h0 (fun z => ?_)⟩, fun q2 => ⟨by decide, h1 ⟨q, ?_⟩⟩⟩⟩
  · have z := z.2; rw [i32_le] at z; rw [i32_lt] at q2; omega
  · rw [i32_le]; rw [i32_lt] at q2; omega
theorem m_one {x : Int32} (h0 : x = 0 → post 0 G) (h1 : ¬ x = 0 → post 1 G) : w_X3_one K post x G := ⟨fun c => h0 c, fun c => h1 c⟩
theorem m_isNoValue {x : Int32} (h1 : ¬ okV x → post 1 G) (h0 : okV x → post 0 G) : w_X3_isNoValue K post x G :=
  ⟨fun c => ⟨by decide, h0 (Or.inl c)⟩, fun c => m_isIn (fun q => ⟨fun _ => ⟨by decide, h0 (Or.inr q)⟩, fun z => absurd z (by decide)⟩) (fun q => ⟨fun z => absurd rfl z, fun _ => ⟨by decide, h1 (fun z => z.elim c q)⟩⟩)⟩
theorem m_isNoRule {x y : Int32} (h1 : ¬ (inR x 0 3 ∧ inR y (-99) 99) → post 1 G) (h0 : inR x 0 3 → inR y (-99) 99 → post 0 G) : w_X3_isNoRule K post x y G :=
  m_isIn (fun q => ⟨fun z => absurd z (by decide), fun _ => m_isIn (fun q2 => ⟨fun _ => ⟨by decide, h0 q q2⟩, fun z => absurd z (by decide)⟩) (fun q2 => ⟨fun z => absurd rfl z, fun _ => ⟨by decide, h1 (fun z => q2 z.2)⟩⟩)⟩) (fun q => ⟨fun _ => ⟨by decide, h1 (fun z => q z.1)⟩, fun z => absurd rfl z⟩)
theorem m_rcv {P : Prop} (h : MoR G M S th) (hp : P) : rcv G (some M.1.1) 5 P := by
  obtain ⟨-, ⟨sm, h2⟩, -⟩ := h
  exact rcv_i h2 hp
/-- is there no such list? -/
theorem m_isNoList {v : Int32} (h : MoR G M S th) (h1 : S_at S v = none → post 1 G) (h0 : ∀ j r b n, j < 7 → v = nI j → S.1 j = some (r, b, n) → post 0 G) : w_X3_isNoList K post (some M.1.1) v G := by
  obtain ⟨hok, ⟨sm, h2⟩, -, ⟨fo, fb, fl, ⟨h5, h6, h7⟩, h8⟩, -⟩ := h
  refine m_isIn (fun q => ⟨fun z => absurd z (by decide), fun _ => ?_⟩) (fun q => ⟨fun _ => ⟨by decide, h1 ?_⟩, fun z => absurd rfl z⟩)
  · obtain ⟨j, hj, rfl⟩ := nI_of2 (M := 6) (n := 6) rfl q.1 q.2
    refine gfR_i _ h2 rfl (alI_i h5 rfl (by omega) (by omega) ?_)
    rcases h8 j (by omega) with ⟨e1, e2⟩ | ⟨r, b, n, e1, e2, e3, e4⟩
    · rw [e2]
      exact ⟨fun z => absurd rfl z, fun _ => ⟨by decide, h1 (by rw [S_at_nI S (by omega)]; exact e1)⟩⟩
    · rw [e2]
      refine ⟨fun _ => ⟨by decide, h0 j r b n (by omega) rfl e1⟩, fun z => ?_⟩
      have hr := (hok.2.1 j r b n (by omega) e1).1
      exact absurd (show nI r < 0 by rw [z]; decide) (nI_pos (by omega))
  · unfold S_at
    rw [if_neg]
    intro z
    apply q
    have e0 : (0 : Int32).toInt = 0 := rfl
    have e6 : (6 : Int32).toInt = 6 := rfl
    exact ⟨fun w => by rw [i32_lt] at w; omega, by rw [i32_le]; omega⟩
theorem m_knock (h : MoR G M S th) (hp : ∀ G', fr (moW M) G G' → MoR G' M (S.1, S.2.1, S.2.2.1 + 1, S.2.2.2) 0 → post (S.2.2.1 + 1) G') : w_X3_knock K post (some M.1.1) G := by
  obtain ⟨-, ⟨sm, h2⟩, -⟩ := id h
  refine pfV_i h2 (Nat.le_of_ble_eq_true rfl) (gfI_i (tg_s _ _ _) rfl (pfV_i (tg_s _ _ _) (Nat.le_of_ble_eq_true rfl) (gfI_i (tg_s _ _ _) rfl ?_)))
  have h3 := MoR_own h S.2.2.1 S.2.2.2 0 sm
  have h4 := MoR_own h3 (S.2.2.1 + 1) S.2.2.2 0 sm
  exact hp _ (fr_tr (fr_up _ (Or.inl rfl)) (fr_up _ (Or.inl rfl))) h4
end MOB
end GRP21x1
section GRP21x2
section MOC
variable {K : tK} {G : tG} {M : tM} {S : tS} {th : Int32} {post : Int32 → tG → Prop}
/-- which refusal: of the first kind, of the second, none -/
def thF (a c : Int32) : Int32 := if a = 0 then (if c = 0 then 0 else 2) else 1
theorem m_fails {a c : Int32} (h : MoR G M S th) (hp : ∀ G', fr (moW M) G G' → MoR G' M S (thF a c) → post (if thF a c = 0 then 0 else 1) G') : w_X3_fails K post (some M.1.1) a c G := by
  obtain ⟨-, ⟨sm, h2⟩, -⟩ := id h
  have hm : ∀ t, MoR (tg_up G M.1.1 (oMo M S.2.2.1 S.2.2.2 t sm)) M S t := fun t => MoR_own h S.2.2.1 S.2.2.2 t sm
  unfold thF at hp
  refine ⟨fun ca => ⟨fun cc => ?_, fun cc => ?_⟩, fun ca => ?_⟩
  · simp only [if_pos ca, if_pos cc] at hp
    exact pfV_i h2 (Nat.le_of_ble_eq_true rfl) (gfI_i (tg_s _ _ _) rfl ⟨fun _ => ⟨by decide, hp _ (fr_up _ (Or.inl rfl)) (hm 0)⟩, fun z => absurd (by decide) z⟩)
  · simp only [if_pos ca, if_neg cc] at hp
    exact pfV_i h2 (Nat.le_of_ble_eq_true rfl) (gfI_i (tg_s _ _ _) rfl ⟨fun z => absurd z (by decide), fun _ => ⟨by decide, hp _ (fr_up _ (Or.inl rfl)) (hm 2)⟩⟩)
  · simp only [if_neg ca] at hp
    exact pfV_i h2 (Nat.le_of_ble_eq_true rfl) (gfI_i (tg_s _ _ _) rfl ⟨fun z => absurd z (by decide), fun _ => ⟨by decide, hp _ (fr_up _ (Or.inl rfl)) (hm 1)⟩⟩)
theorem m_refused (h : MoR G M S th) (hp : ∀ G', fr (moW M) G G' → MoR G' M (S_ref S) th → post (-9) G') : w_X3_refused K post (some M.1.1) G := by
  obtain ⟨-, ⟨sm, h2⟩, -⟩ := id h
  exact gfI_i h2 rfl (pfV_i h2 (Nat.le_of_ble_eq_true rfl) (hp _ (fr_up _ (Or.inl rfl)) (MoR_own h S.2.2.1 (S.2.2.2 + 1) th sm)))
theorem m_refusedIf {a : Int32} (h : MoR G M S th) (h0 : a = 0 → post 0 G) (hp : a ≠ 0 → ∀ G', fr (moW M) G G' → MoR G' M (S_ref S) th → post (-9) G') : w_X3_refusedIf K post (some M.1.1) a G :=
  ⟨fun c => h0 c, fun c => m_rcv h (m_refused h (hp c))⟩
/-- what stands at a place of a list -/
theorem m_value {j i r b n : Nat} (h : MoR G M S th) (hj : j < 7) (hs : S.1 j = some (r, b, n)) (hi : i < n) (hp : post (S.2.1 r (b + i)) G) : w_X3_value K post (some M.1.1) (nI j) (nI i) G := by
  obtain ⟨hok, ⟨sm, h2⟩, ⟨mf, h3, h4⟩, ⟨fo, fb, fl, ⟨h5, h6, h7⟩, h8⟩, h9, -⟩ := h
  obtain ⟨hr, n0, e0, hn0⟩ := hok.2.1 j r b n hj hs
  have hn12 := (S_12 hok hj hs).2
  obtain ⟨f, g1, g2⟩ := h9 r hr
  rw [e0] at g1 g2
  rcases h8 j hj with ⟨c, -⟩ | ⟨r', b', n', c1, c2, c3, c4⟩
  · rw [hs] at c; cases c
  · rw [hs] at c1
    cases c1
    obtain ⟨n1, d1, d2⟩ := hok.1 r hr
    rw [e0] at d1
    cases d1
    refine gfR_i _ h2 rfl (gfR_i _ h2 rfl (alI_i h5 rfl hj (by omega) (alR_i h3 c2 hr (by omega) ?_)))
    rw [h4 r hr]
    refine gfR_i _ h2 rfl (alI_i h6 rfl hj (by omega) ?_)
    rw [c3]
    refine alI_i g1 (nI_add b i) (show b + i < n0 by omega) (show n0 < 2 ^ 31 by omega) ?_
    rw [g2 (b + i) (show b + i < n0 by omega)]
    exact hp
end MOC
end GRP21x2
section GRP21x3
section MOD
variable {K : tK} {G : tG} {M : tM} {S : tS} {th : Int32} {post : Int32 → tG → Prop}
theorem inR_pl {w : Int32} {n : Nat} (hn : n < 2 ^ 30) : inR w 0 (nI n - 1) ↔ (0 ≤ w.toInt ∧ w.toInt < n) := by
  have e0 : (0 : Int32).toInt = 0 := rfl
  have e1 : (nI n - 1 : Int32).toInt = (n : Int) - 1 := nI_sub (b := 1) hn (by omega)
  unfold inR
  rw [i32_lt, i32_le, e1, e0]
  constructor
  · intro q; omega
  · intro q; omega
/-- is there no such place of a list? -/
theorem m_isNoPlace {v w : Int32} (h : MoR G M S th) (h1 : (S_at S v = none ∨ ∃ r b n, S_at S v = some (r, b, n) ∧ ¬ (0 ≤ w.toInt ∧ w.toInt < n)) → post 1 G) (h0 : ∀ j r b n i, j < 7 → v = nI j → S.1 j = some (r, b, n) → i < n → w = nI i → post 0 G) : w_X3_isNoPlace K post (some M.1.1) v w G := by
  obtain ⟨hok, ⟨sm, h2⟩, -, ⟨fo, fb, fl, ⟨h5, h6, h7⟩, h8⟩, -⟩ := id h
  refine m_rcv h (m_isNoList h (fun c => ⟨fun _ => ⟨by decide, h1 (Or.inl c)⟩, fun z => absurd z (by decide)⟩) (fun j r b n hj ev hs => ⟨fun z => absurd rfl z, fun _ => ?_⟩))
  subst ev
  refine gfR_i _ h2 rfl (alI_i h7 rfl hj (by omega) ?_)
  have hn12 := (S_12 hok hj hs).2
  rcases h8 j hj with ⟨c, -⟩ | ⟨r', b', n', c1, c2, c3, c4⟩
  · rw [hs] at c; cases c
  · rw [hs] at c1
    cases c1
    rw [c4]
    refine m_isIn (fun q => ⟨fun _ => ⟨by decide, ?_⟩, fun z => absurd z (by decide)⟩) (fun q => ⟨fun z => absurd rfl z, fun _ => ⟨by decide, h1 (Or.inr ⟨r, b, n, by rw [S_at_nI S hj]; exact hs, fun z => q ((inR_pl (by omega)).mpr z)⟩)⟩⟩)
    have q2 := (inR_pl (by omega)).mp q
    obtain ⟨i, hi, e⟩ := nI_of q.1
    rw [e, nI_toInt hi] at q2
    exact h0 j r b n i hj rfl hs (by omega) e
theorem m_isBeyond {v w : Int32} (h : MoR G M S th) (hn : S_at S v = none → post 0 G) (h1 : ∀ j r b n, j < 7 → v = nI j → S.1 j = some (r, b, n) → ¬ inR w 0 (nI n) → post 1 G) (h0 : ∀ j r b n, j < 7 → v = nI j → S.1 j = some (r, b, n) → inR w 0 (nI n) → post 0 G) : w_X3_isBeyond K post (some M.1.1) v w G := by
  obtain ⟨hok, ⟨sm, h2⟩, -, ⟨fo, fb, fl, ⟨h5, h6, h7⟩, h8⟩, -⟩ := id h
  refine m_rcv h (m_isNoList h (fun c => ⟨fun _ => ⟨by decide, hn c⟩, fun z => absurd z (by decide)⟩) (fun j r b n hj ev hs => ⟨fun z => absurd rfl z, fun _ => ?_⟩))
  subst ev
  refine gfR_i _ h2 rfl (alI_i h7 rfl hj (by omega) ?_)
  rcases h8 j hj with ⟨c, -⟩ | ⟨r', b', n', c1, c2, c3, c4⟩
  · rw [hs] at c; cases c
  · rw [hs] at c1
    cases c1
    rw [c4]
    exact m_isIn (fun q => ⟨fun _ => ⟨by decide, h0 j r b n hj rfl hs q⟩, fun z => absurd z (by decide)⟩) (fun q => ⟨fun z => absurd rfl z, fun _ => ⟨by decide, h1 j r b n hj rfl hs q⟩⟩)
theorem m_isNoPair {v w : Int32} (h : MoR G M S th) (h1 : (S_at S v = none ∨ S_at S w = none) → post 1 G) (h0 : ∀ j r b n j2 r2 b2 n2, j < 7 → v = nI j → S.1 j = some (r, b, n) → j2 < 7 → w = nI j2 → S.1 j2 = some (r2, b2, n2) → post 0 G) : w_X3_isNoPair K post (some M.1.1) v w G := by
  refine m_rcv h (m_isNoList h (fun c => ⟨fun _ => ⟨by decide, h1 (Or.inl c)⟩, fun z => absurd z (by decide)⟩) (fun j r b n hj ev hs => ⟨fun z => absurd rfl z, fun _ => ?_⟩))
  exact m_rcv h (m_isNoList h (fun c => ⟨fun z => absurd z (by decide), fun _ => ⟨by decide, h1 (Or.inr c)⟩⟩) (fun j2 r2 b2 n2 hj2 ev2 hs2 => ⟨fun _ => ⟨by decide, h0 j r b n j2 r2 b2 n2 hj ev hs hj2 ev2 hs2⟩, fun z => absurd rfl z⟩))
/-- is there no such place of a row? -/
theorem m_isNoRowPlace {v w : Int32} (h : MoR G M S th) (h1 : (S_tw S v = none ∨ ∃ r b n, S_tw S v = some (r, b, n) ∧ ¬ (0 ≤ w.toInt ∧ w.toInt < n)) → post 1 G) (h0 : ∀ r n i, r < 3 → v = nI r → S.1 r = some (r, 0, n) → i < n → n ≤ 12 → w = nI i → post 0 G) : w_X3_isNoRowPlace K post (some M.1.1) v w G := by
  obtain ⟨hok, ⟨sm, h2⟩, ⟨mf, h3, h4⟩, -, h9, -⟩ := id h
  have e0 : (0 : Int32).toInt = 0 := rfl
  have e2 : (2 : Int32).toInt = 2 := rfl
  refine m_isIn (fun q => ⟨fun z => absurd z (by decide), fun _ => ?_⟩) (fun q => ⟨fun _ => ⟨by decide, h1 (Or.inl ?_)⟩, fun z => absurd rfl z⟩)
  · obtain ⟨r, hr, rfl⟩ := nI_of2 (M := 2) (n := 2) rfl q.1 q.2
    obtain ⟨n, d1, d2⟩ := hok.1 r (by omega)
    obtain ⟨f, g1, g2⟩ := h9 r (by omega)
    rw [d1] at g1
    have g1 : G (M.2 r) = some (eI n f) := g1
    refine gfR_i _ h2 rfl (alR_i h3 rfl (j := r) (by omega) (by omega) ?_)
    rw [h4 r (by omega)]
    have hat : S_tw S (nI r) = some (r, 0, n) := by
      unfold S_tw; rw [nI_toInt (by omega), if_pos (by omega)]; exact d1
    refine lenA_i g1 (m_isIn (fun q => ⟨fun _ => ⟨by decide, ?_⟩, fun z => absurd z (by decide)⟩) (fun q => ⟨fun z => absurd rfl z, fun _ => ⟨by decide, h1 (Or.inr ⟨r, 0, n, hat, fun z => q ((inR_pl (by omega)).mpr z)⟩)⟩⟩))
    have q2 := (inR_pl (n := n) (by omega)).mp q
    obtain ⟨i, hi, e⟩ := nI_of q.1
    rw [e, nI_toInt hi] at q2
    exact h0 r n i (by omega) rfl d1 (by omega) d2 e
  · unfold S_tw
    rw [if_neg]
    intro z
    apply q
    exact ⟨fun w => by rw [i32_lt] at w; omega, by rw [i32_le]; omega⟩
/-- a value is written -/
theorem MoR_put {r n k : Nat} {x : Int32} {f : Nat → Int32} (h : MoR G M S th) (hr : r < 3) (hs : S.1 r = some (r, 0, n)) (hf : G (M.2 r) = some (eI n f)) (hff : ∀ i, i < n → f i = S.2.1 r i) (hx : okV x) : MoR (tg_up G (M.2 r) (eI n (upd f k x))) M (S_put S r k x) th := by
  obtain ⟨h1, ⟨sm, h2⟩, ⟨mf, h3, h4⟩, ⟨fo, fb, fl, ⟨h5, h6, h7⟩, h8⟩, h9, h10, h11, h12⟩ := h
  have d := h11 r hr
  refine ⟨S_put_ok h1 r k hx, ⟨sm, tg_keep h2 (ne_OI h2 hf)⟩, ⟨mf, tg_keep h3 (ne_of_G h3 hf (fun e => by cases e)), h4⟩, ⟨fo, fb, fl, ⟨tg_keep h5 (fun e => d.1 e.symm), tg_keep h6 (fun e => d.2.1 e.symm), tg_keep h7 (fun e => d.2.2 e.symm)⟩, h8⟩, fun r' hr' => ?_, h10, h11, h12⟩
  show ∃ f', tg_up G (M.2 r) _ (M.2 r') = some (eI (lnF (S.1 r')) f') ∧ ∀ i, i < lnF (S.1 r') → f' i = (if r' = r then upd (S.2.1 r) k x else S.2.1 r') i
  by_cases c : r' = r
  · subst c
    rw [hs, tg_s]
    refine ⟨_, rfl, fun i hi => ?_⟩
    rw [if_pos rfl]
    have hi : i < n := hi
    simp only [upd]
    by_cases c2 : i = k
    · rw [if_pos c2, if_pos c2]
    · rw [if_neg c2, if_neg c2]; exact hff i hi
  · obtain ⟨f', g1, g2⟩ := h9 r' hr'
    refine ⟨f', by rw [tg_n _ _ (fun e => c (h12 r' r hr' hr e))]; exact g1, fun i hi => ?_⟩
    rw [if_neg c]; exact g2 i hi
theorem moW_r {r : Nat} (h : r < 3) : moW M (M.2 r) := by
  rcases (show r = 0 ∨ r = 1 ∨ r = 2 by omega) with rfl | rfl | rfl
  · exact Or.inr (Or.inr (Or.inr (Or.inr (Or.inr (Or.inl rfl)))))
  · exact Or.inr (Or.inr (Or.inr (Or.inr (Or.inr (Or.inr (Or.inl rfl))))))
  · exact Or.inr (Or.inr (Or.inr (Or.inr (Or.inr (Or.inr (Or.inr rfl))))))
theorem m_write {pw : tG → Prop} {j i r b n : Nat} {x : Int32} (h : MoR G M S th) (hj : j < 7) (hs : S.1 j = some (r, b, n)) (hi : i < n) (hx : okV x) (hp : ∀ G', fr (moW M) G G' → MoR G' M (S_put S r (b + i) x) th → pw G') : w_X3_write K pw (some M.1.1) (nI j) (nI i) x G := by
  obtain ⟨hok, ⟨sm, h2⟩, ⟨mf, h3, h4⟩, ⟨fo, fb, fl, ⟨h5, h6, h7⟩, h8⟩, h9, -⟩ := id h
  obtain ⟨hr, n0, e0, hn0⟩ := hok.2.1 j r b n hj hs
  have hn12 := (S_12 hok hj hs).2
  obtain ⟨f, g1, g2⟩ := h9 r hr
  rw [e0] at g1 g2
  rcases h8 j hj with ⟨c, -⟩ | ⟨r', b', n', c1, c2, c3, c4⟩
  · rw [hs] at c; cases c
  · rw [hs] at c1
    cases c1
    obtain ⟨n1, d1, d2⟩ := hok.1 r hr
    rw [e0] at d1
    cases d1
    refine gfR_i _ h2 rfl (gfR_i _ h2 rfl (alI_i h5 rfl hj (by omega) (alR_i h3 c2 hr (by omega) ?_)))
    rw [h4 r hr]
    refine gfR_i _ h2 rfl (alI_i h6 rfl hj (by omega) ?_)
    rw [c3]
    exact asI_i g1 (nI_add b i) (show b + i < n0 by omega) (show n0 < 2 ^ 31 by omega) (hp _ (fr_up _ (moW_r hr)) (MoR_put h hr e0 g1 g2 hx))
end MOD
end GRP21x3
section GRP21x4
section MOE
variable {K : tK} {G : tG} {M : tM} {S : tS} {th : Int32} {post : Int32 → tG → Prop}
theorem mr {a : tA} (hp : mRes M G post a) {G' : tG} (f : fr (moW M) G G') (h : MoR G' M a.2.2 (nI a.1)) : post a.2.1 G' := hp G' M rfl f (fun _ z => Or.inl z) h
theorem sp_at_bad {q : Option (Nat × Nat × Nat)} {w : Int32} {F : Nat → Nat → Nat → Nat → tA} (c : q = none ∨ ∃ r b n, q = some (r, b, n) ∧ ¬ (0 ≤ w.toInt ∧ w.toInt < n)) : sp_at S q w F = (1, 0, S) := by
  rcases c with c | ⟨r, b, n, c, d⟩
  · rw [c]; rfl
  · rw [c]; exact if_neg d
theorem sp_at_ok {j r b n i : Nat} {F : Nat → Nat → Nat → Nat → tA} (hj : j < 7) (hs : S.1 j = some (r, b, n)) (hi : i < n) (hn : n ≤ 12) : sp_at S (S_at S (nI j)) (nI i) F = F r b n i := by
  rw [S_at_nI S hj, hs]
  show (if 0 ≤ (nI i).toInt ∧ (nI i).toInt < n then F r b n (nI i).toInt.toNat else (1, 0, S)) = _
  rw [if_pos (nI_inn hi (by omega)), nI_nat (by omega)]
theorem m_get {v w : Int32} (h : MoR G M S th) (hp : mRes M G post (sp_at S (S_at S v) w fun r b n i => (0, S.2.1 r (b + i), S))) : w_X3_get K post (some M.1.1) v w G := by
  refine m_rcv h (m_isNoPlace h (fun c => ?_) (fun j r b n i hj ev hs hi ew => ?_))
  · rw [sp_at_bad c] at hp
    exact m_rcv h (m_fails h (fun G1 f1 h1 => ⟨fun z => absurd z (by decide), fun _ => mr hp f1 h1⟩))
  · subst ev; subst ew
    have hn := (S_12 h.1 hj hs).2
    rw [sp_at_ok hj hs hi (by omega)] at hp
    exact m_rcv h (m_fails h (fun G1 f1 h1 => ⟨fun _ => m_rcv h1 (m_value h1 hj hs hi (mr hp f1 h1)), fun z => absurd (by decide) z⟩))
theorem m_set {v w x : Int32} (h : MoR G M S th) (hp : mRes M G post (sp_at S (S_at S v) w fun r b n i => if okV x then (0, S.2.1 r (b + i), S_put S r (b + i) x) else (2, 0, S))) : w_X3_set K post (some M.1.1) v w x G := by
  refine m_rcv h (m_isNoPlace h (fun c => ?_) (fun j r b n i hj ev hs hi ew => ?_))
  · rw [sp_at_bad c] at hp
    exact m_isNoValue (fun _ => m_rcv h (m_fails h (fun G1 f1 h1 => ⟨fun z => absurd z (by decide), fun _ => mr hp f1 h1⟩))) (fun _ => m_rcv h (m_fails h (fun G1 f1 h1 => ⟨fun z => absurd z (by decide), fun _ => mr hp f1 h1⟩)))
  · subst ev; subst ew
    have hn := (S_12 h.1 hj hs).2
    rw [sp_at_ok hj hs hi (by omega)] at hp
    refine m_isNoValue (fun hx => ?_) (fun hx => ?_)
    · rw [if_neg hx] at hp
      exact m_rcv h (m_fails h (fun G1 f1 h1 => ⟨fun z => absurd z (by decide), fun _ => mr hp f1 h1⟩))
    · rw [if_pos hx] at hp
      exact m_rcv h (m_fails h (fun G1 f1 h1 => ⟨fun _ => m_rcv h1 (m_value h1 hj hs hi (m_rcv h1 (m_write h1 hj hs hi hx (fun G2 f2 h2 => mr hp (fr_tr f1 f2) h2)))), fun z => absurd (by decide) z⟩))
theorem m_remove {v w : Int32} (h : MoR G M S th) (hp : mRes M G post (sp_at S (S_at S v) w fun _ _ _ _ => (0, -9, S_ref S))) : w_X3_remove K post (some M.1.1) v w G := by
  refine m_rcv h (m_isNoPlace h (fun c => ?_) (fun j r b n i hj ev hs hi ew => ?_))
  · rw [sp_at_bad c] at hp
    exact m_rcv h (m_fails h (fun G1 f1 h1 => ⟨fun z => absurd z (by decide), fun _ => mr hp f1 h1⟩))
  · subst ev; subst ew
    have hn := (S_12 h.1 hj hs).2
    rw [sp_at_ok hj hs hi (by omega)] at hp
    exact m_rcv h (m_fails h (fun G1 f1 h1 => ⟨fun _ => m_rcv h1 (m_refused h1 (fun G2 f2 h2 => mr hp (fr_tr f1 f2) h2)), fun z => absurd (by decide) z⟩))
theorem m_add {v x : Int32} (h : MoR G M S th) (hp : mRes M G post (sp_li S (S_at S v) fun _ _ _ => if okV x then (0, -9, S_ref S) else (2, 0, S))) : w_X3_add K post (some M.1.1) v x G := by
  refine m_rcv h (m_isNoList h (fun c => ?_) (fun j r b n hj ev hs => ?_))
  · rw [c] at hp
    exact m_isNoValue (fun _ => m_rcv h (m_fails h (fun G1 f1 h1 => ⟨fun z => absurd z (by decide), fun _ => mr (a := (1, 0, S)) hp f1 h1⟩))) (fun _ => m_rcv h (m_fails h (fun G1 f1 h1 => ⟨fun z => absurd z (by decide), fun _ => mr (a := (1, 0, S)) hp f1 h1⟩)))
  · subst ev
    rw [S_at_nI S hj, hs] at hp
    refine m_isNoValue (fun hx => ?_) (fun hx => ?_)
    · simp only [sp_li, if_neg hx] at hp
      exact m_rcv h (m_fails h (fun G1 f1 h1 => ⟨fun z => absurd z (by decide), fun _ => mr hp f1 h1⟩))
    · simp only [sp_li, if_pos hx] at hp
      exact m_rcv h (m_fails h (fun G1 f1 h1 => ⟨fun _ => m_rcv h1 (m_refused h1 (fun G2 f2 h2 => mr hp (fr_tr f1 f2) h2)), fun z => absurd (by decide) z⟩))
end MOE
end GRP21x4
section GRP21x5
theorem MoR_fr {G G' : tG} {M : tM} {S : tS} {th : Int32} {P : Nat → Prop} (h : MoR G M S th) (hf : fr P G G') (hp : ∀ q, moW M q → ¬ P q) : MoR G' M S th := by
  obtain ⟨h1, ⟨sm, h2⟩, ⟨mf, h3, h4⟩, ⟨fo, fb, fl, ⟨h5, h6, h7⟩, h8⟩, h9, h10, h11, h12⟩ := h
  refine ⟨h1, ⟨sm, hf _ _ h2 (hp _ (Or.inl rfl))⟩, ⟨mf, hf _ _ h3 (hp _ (Or.inr (Or.inl rfl))), h4⟩, ⟨fo, fb, fl, ⟨hf _ _ h5 (hp _ (Or.inr (Or.inr (Or.inl rfl)))), hf _ _ h6 (hp _ (Or.inr (Or.inr (Or.inr (Or.inl rfl))))), hf _ _ h7 (hp _ (Or.inr (Or.inr (Or.inr (Or.inr (Or.inl rfl))))))⟩, h8⟩, fun r hr => ?_, h10, h11, h12⟩
  obtain ⟨f, g1, g2⟩ := h9 r hr
  exact ⟨f, hf _ _ g1 (hp _ (moW_r hr)), g2⟩
theorem MoR_fresh {G G' : tG} {M : tM} {S : tS} {th : Int32} {q : Nat} (h : MoR G M S th) (hq : G q = none) (h' : ∀ a, a ≠ q → G' a = G a) : MoR G' M S th :=
  MoR_fr (P := fun _ => False) h (fr_fresh hq h' _) (fun _ _ z => z)
/-- the rows that are the same as far as lists tell them -/
def S_eq (S S' : tS) : Prop := (∀ j, j < 7 → S.1 j = S'.1 j) ∧ (∀ r i, r < 3 → i < lnF (S.1 r) → S.2.1 r i = S'.2.1 r i) ∧ S.2.2 = S'.2.2
theorem S_eq_rf (S : tS) : S_eq S S := ⟨fun _ _ => rfl, fun _ _ _ _ => rfl, rfl⟩
theorem MoR_eq {G : tG} {M : tM} {S S' : tS} {th : Int32} (h : MoR G M S th) (he : S_eq S S') (hs : S_ok S') : MoR G M S' th := by
  obtain ⟨h1, ⟨sm, h2⟩, h3, ⟨fo, fb, fl, h5, h8⟩, h9, h10⟩ := h
  refine ⟨hs, ⟨sm, ?_⟩, h3, ⟨fo, fb, fl, h5, fun j hj => ?_⟩, fun r hr => ?_, h10⟩
  · rw [← he.2.2]; exact h2
  · rw [← he.1 j hj]; exact h8 j hj
  · obtain ⟨f, g1, g2⟩ := h9 r hr
    rw [← he.1 r (by omega)]
    exact ⟨f, g1, fun i hi => by rw [g2 i hi]; exact he.2.1 r i hr hi⟩
section MOF
variable {K : tK} {G : tG} {M : tM} {S : tS} {th : Int32} {post : Int32 → tG → Prop}
/-- the three arrays by lists, and the rows -/
theorem m_row {P : Int32 → Prop} {j r b n : Nat} (h : MoR G M S th) (hj : j < 7) (hs : S.1 j = some (r, b, n)) (hp : P (nI r)) : gfR G (some M.1.1) 5 1 (fun x => alI G x (nI j) .int P) := by
  obtain ⟨-, ⟨sm, h2⟩, -, ⟨fo, fb, fl, ⟨h5, h6, h7⟩, h8⟩, -⟩ := h
  refine gfR_i _ h2 rfl (alI_i h5 rfl hj (by omega) ?_)
  rcases h8 j hj with ⟨c, -⟩ | ⟨r', b', n', c1, c2, c3, c4⟩
  · rw [hs] at c; cases c
  · rw [hs] at c1; cases c1; rw [c2]; exact hp
theorem m_rowN {P : Int32 → Prop} {j : Nat} (h : MoR G M S th) (hj : j < 7) (hs : S.1 j = none) (hp : P (-1)) : gfR G (some M.1.1) 5 1 (fun x => alI G x (nI j) .int P) := by
  obtain ⟨-, ⟨sm, h2⟩, -, ⟨fo, fb, fl, ⟨h5, h6, h7⟩, h8⟩, -⟩ := h
  refine gfR_i _ h2 rfl (alI_i h5 rfl hj (by omega) ?_)
  rcases h8 j hj with ⟨-, c⟩ | ⟨r', b', n', c1, c2, c3, c4⟩
  · rw [c]; exact hp
  · rw [hs] at c1; cases c1
theorem m_beg {P : Int32 → Prop} {j r b n : Nat} (h : MoR G M S th) (hj : j < 7) (hs : S.1 j = some (r, b, n)) (hp : P (nI b)) : gfR G (some M.1.1) 5 2 (fun x => alI G x (nI j) .int P) := by
  obtain ⟨-, ⟨sm, h2⟩, -, ⟨fo, fb, fl, ⟨h5, h6, h7⟩, h8⟩, -⟩ := h
  refine gfR_i _ h2 rfl (alI_i h6 rfl hj (by omega) ?_)
  rcases h8 j hj with ⟨c, -⟩ | ⟨r', b', n', c1, c2, c3, c4⟩
  · rw [hs] at c; cases c
  · rw [hs] at c1; cases c1; rw [c3]; exact hp
theorem m_len {P : Int32 → Prop} {j r b n : Nat} (h : MoR G M S th) (hj : j < 7) (hs : S.1 j = some (r, b, n)) (hp : P (nI n)) : gfR G (some M.1.1) 5 3 (fun x => alI G x (nI j) .int P) := by
  obtain ⟨-, ⟨sm, h2⟩, -, ⟨fo, fb, fl, ⟨h5, h6, h7⟩, h8⟩, -⟩ := h
  refine gfR_i _ h2 rfl (alI_i h7 rfl hj (by omega) ?_)
  rcases h8 j hj with ⟨c, -⟩ | ⟨r', b', n', c1, c2, c3, c4⟩
  · rw [hs] at c; cases c
  · rw [hs] at c1; cases c1; rw [c4]; exact hp
theorem m_rows {P : Option Nat → Prop} {r : Nat} (h : MoR G M S th) (hr : r < 3) (hp : P (some (M.2 r))) : gfR G (some M.1.1) 5 0 (fun x => alR G x (nI r) (.array .int) P) := by
  obtain ⟨-, ⟨sm, h2⟩, ⟨mf, h3, h4⟩, -⟩ := h
  refine gfR_i _ h2 rfl (alR_i h3 rfl hr (by omega) ?_)
  rw [h4 r hr]; exact hp
/-- a row's own array -/
theorem m_rowA {r n : Nat} (h : MoR G M S th) (hr : r < 3) (hs : S.1 r = some (r, 0, n)) : ∃ f, G (M.2 r) = some (eI n f) ∧ (∀ i, i < n → f i = S.2.1 r i) ∧ n ≤ 12 := by
  obtain ⟨h1, -, -, -, h9, -⟩ := h
  obtain ⟨f, g1, g2⟩ := h9 r hr
  rw [hs] at g1 g2
  obtain ⟨n1, d1, d2⟩ := h1.1 r hr
  rw [hs] at d1
  cases d1
  exact ⟨f, g1, g2, d2⟩
/-- a list's values, in an array of their own -/
theorem m_all {pq : Option Nat → tG → Prop} {j r b n : Nat} (h : MoR G M S th) (hj : j < 7) (hs : S.1 j = some (r, b, n)) (hp : ∀ q f G', G q = none → G' q = some (eI n f) → (∀ i, i < n → f i = S_v S r b i) → (∀ a, a ≠ q → G' a = G a) → MoR G' M S th → pq (some q) G') : w_X3_all K pq (some M.1.1) (nI j) G := by
  have hn12 := (S_12 h.1 hj hs).2
  refine m_len h hj hs ⟨n, nI_toInt (by omega), by omega, fun q hq => ?_⟩
  have main : ∀ k i G1 f, i + k = n → G1 q = some (eI n f) → (∀ t, t < i → f t = S_v S r b t) → (∀ a, a ≠ q → G1 a = G a) → w_X3_all_11 K pq (k + 1) (some M.1.1) (nI j) (some q) (nI i) G1 := by
    intro k
    induction k with
    | zero =>
      intro i G1 f hi e1 hf hk
      show w_X3_all_11_b K pq (w_X3_all_11 K pq 0) (some M.1.1) (nI j) (some q) (nI i) G1
      have e : i = n := by omega
      subst e
      exact lenA_i e1 ⟨fun _ => hp q f G1 hq e1 hf hk (MoR_fresh h hq hk), fun c => absurd (nI_le (by omega) (by omega)) c⟩
    | succ k ih =>
      intro i G1 f hi e1 hf hk
      show w_X3_all_11_b K pq (w_X3_all_11 K pq (k + 1)) (some M.1.1) (nI j) (some q) (nI i) G1
      have h1 := MoR_fresh h hq hk
      refine lenA_i e1 ⟨fun c => absurd c (nI_ge (by omega) (by omega)), fun _ => m_rcv h1 (m_value h1 hj hs (by omega) (asI_i e1 rfl (by omega) (by omega) ?_))⟩
      rw [nI_1]
      refine ih (i + 1) _ _ (by omega) (tg_s _ _ _) (fun t ht => ?_) (fun a ha => ?_)
      · simp only [upd]
        by_cases c : t = i
        · rw [if_pos c, c]
        · rw [if_neg c]; exact hf t (by omega)
      · rw [tg_n _ _ ha]; exact hk a ha
  exact ⟨n + 1, main n 0 _ _ (by omega) (tg_s _ _ _) (fun t ht => absurd ht (by omega)) (fun a ha => tg_n _ _ ha)⟩
end MOF
end GRP21x5
section GRP21x6
/-! the model's searching -/
theorem fpF_cg {f g : Nat → Int32} {x : Int32} : ∀ k i, (∀ t, i ≤ t → t < i + k → f t = g t) → fpF f x k i = fpF g x k i
  | 0, _, _ => rfl
  | k + 1, i, h => by
    show (if f i = x then nI i else fpF f x k (i + 1)) = (if g i = x then nI i else fpF g x k (i + 1))
    rw [h i (by omega) (by omega), fpF_cg k (i + 1) (fun t h1 h2 => h t (by omega) (by omega))]
theorem ofF_cg {f g : Nat → Int32} {x : Int32} : ∀ k, (∀ t, t < k → f t = g t) → ofF f x k = ofF g x k
  | 0, _ => rfl
  | k + 1, h => by
    show ofF f x k + (if f k = x then 1 else 0) = ofF g x k + (if g k = x then 1 else 0)
    rw [h k (by omega), ofF_cg k (fun t ht => h t (by omega))]
theorem coF_cg {f g : Nat → Int32} : ∀ k, (∀ t, t < k → f t = g t) → coF f k = coF g k
  | 0, _ => rfl
  | k + 1, h => by
    show 31 * coF f k + nuF (f k) = 31 * coF g k + nuF (g k)
    rw [h k (by omega), coF_cg k (fun t ht => h t (by omega))]
theorem suF_cg {f g : Nat → Int32} : ∀ k, (∀ t, t < k → f t = g t) → suF f k = suF g k
  | 0, _ => rfl
  | k + 1, h => by
    show suF f k + nuF (f k) = suF g k + nuF (g k)
    rw [h k (by omega), suF_cg k (fun t ht => h t (by omega))]
theorem haF_cg {f g f' g' : Nat → Int32} : ∀ k i, (∀ t, i ≤ t → t < i + k → f t = f' t ∧ g t = g' t) → haF f g k i = haF f' g' k i
  | 0, _, _ => rfl
  | k + 1, i, h => by
    show (if f i = g i then haF f g k (i + 1) else 0) = (if f' i = g' i then haF f' g' k (i + 1) else 0)
    rw [(h i (by omega) (by omega)).1, (h i (by omega) (by omega)).2, haF_cg k (i + 1) (fun t h1 h2 => h t (by omega) (by omega))]
/-- how often, as a number -/
def cnF (f : Nat → Int32) (x : Int32) : Nat → Nat
  | 0 => 0
  | k + 1 => cnF f x k + (if f k = x then 1 else 0)
theorem ofF_cn (f : Nat → Int32) (x : Int32) : ∀ k, ofF f x k = nI (cnF f x k)
  | 0 => rfl
  | k + 1 => by
    show ofF f x k + (if f k = x then 1 else 0) = nI (cnF f x k + (if f k = x then 1 else 0))
    rw [ofF_cn f x k]
    by_cases c : f k = x
    · rw [if_pos c, if_pos c, nI_1]
    · rw [if_neg c, if_neg c, Int32.add_zero]; rfl
theorem cnF_le (f : Nat → Int32) (x : Int32) : ∀ k, cnF f x k ≤ k
  | 0 => Nat.le_refl _
  | k + 1 => by
    have := cnF_le f x k
    show cnF f x k + (if f k = x then 1 else 0) ≤ k + 1
    split <;> omega
theorem cnF_0 (f : Nat → Int32) (x : Int32) : ∀ k, cnF f x k = 0 ↔ ∀ t, t < k → f t ≠ x
  | 0 => ⟨fun _ t h => absurd h (by omega), fun _ => rfl⟩
  | k + 1 => by
    have ih := cnF_0 f x k
    show cnF f x k + (if f k = x then 1 else 0) = 0 ↔ _
    by_cases c : f k = x
    · rw [if_pos c]
      exact ⟨fun z => absurd z (by omega), fun z => absurd c (z k (by omega))⟩
    · rw [if_neg c]
      constructor
      · intro z t ht
        by_cases e : t = k
        · rw [e]; exact c
        · exact ih.mp (by omega) t (by omega)
      · intro z
        have := ih.mpr (fun t ht => z t (by omega))
        omega
theorem fpF_cn (f : Nat → Int32) (x : Int32) {n : Nat} (hn : n < 2 ^ 31) : fpF f x n 0 = -1 ↔ cnF f x n = 0 := by
  rw [fpF_ne f x n 0 (by omega), cnF_0]
  exact ⟨fun z t ht => z t (by omega) (by omega), fun z t _ ht => z t (by omega)⟩
section MOG
variable {K : tK} {G : tG} {M : tM} {S : tS} {th : Int32} {post : Int32 → tG → Prop}
theorem m_placeOf {pk : Int32 → tG → Prop} {q n : Nat} {f : Nat → Int32} {x : Int32} (hq : G q = some (eI n f)) (hn : n < 2 ^ 31) (h : pk (fpF f x n 0) G) : w_X3_placeOf K pk (some q) x G := by
  have main : ∀ k i, i + k = n → pk (fpF f x k i) G → w_X3_placeOf_2 K pk (k + 1) (some q) x (nI i) G := by
    intro k
    induction k with
    | zero =>
      intro i hi hp
      show w_X3_placeOf_2_b K pk (w_X3_placeOf_2 K pk 0) (some q) x (nI i) G
      exact lenA_i hq ⟨fun _ => hp, fun c => absurd (nI_le (by omega) (by omega)) c⟩
    | succ k ih =>
      intro i hi hp
      show w_X3_placeOf_2_b K pk (w_X3_placeOf_2 K pk (k + 1)) (some q) x (nI i) G
      refine lenA_i hq ⟨fun c => absurd c (nI_ge (by omega) (by omega)), fun _ => alI_i hq rfl (by omega) hn ⟨fun c => ?_, fun c => ?_⟩⟩
      · simp only [fpF, if_neg c] at hp
        rw [nI_1]
        exact ih (i + 1) (by omega) hp
      · simp only [fpF, if_pos c] at hp
        exact hp
  exact ⟨n + 1, main n 0 (by omega) h⟩
theorem m_oftenIn {pk : Int32 → tG → Prop} {q n : Nat} {f : Nat → Int32} {x : Int32} (hq : G q = some (eI n f)) (hn : n < 2 ^ 31) (h : pk (nI (cnF f x n)) G) : w_X3_oftenIn K pk (some q) x G := by
  have main : ∀ k i, i + k = n → w_X3_oftenIn_11 K pk (k + 1) x (nI (cnF f x i)) (some q) (nI n) (nI i) G := by
    intro k
    induction k with
    | zero =>
      intro i hi
      show w_X3_oftenIn_11_b K pk (w_X3_oftenIn_11 K pk 0) x (nI (cnF f x i)) (some q) (nI n) (nI i) G
      have e : i = n := by omega
      subst e
      exact ⟨fun _ => h, fun c => absurd (nI_le (by omega) (by omega)) c⟩
    | succ k ih =>
      intro i hi
      show w_X3_oftenIn_11_b K pk (w_X3_oftenIn_11 K pk (k + 1)) x (nI (cnF f x i)) (some q) (nI n) (nI i) G
      have hi2 := ih (i + 1) (by omega)
      refine ⟨fun c => absurd c (nI_ge (by omega) (by omega)), fun _ => alI_i hq rfl (by omega) hn ⟨fun c => m_one (fun _ => ?_) (fun z => absurd rfl z), fun c => m_one (fun z => absurd z (by decide)) (fun _ => ?_)⟩⟩
      · have e : cnF f x (i + 1) = cnF f x i := by show _ + (if _ then _ else _) = _; rw [if_neg c]; rfl
        rw [e] at hi2
        show w_X3_oftenIn_11 K pk (k + 1) x (nI (cnF f x i) + 0) (some q) (nI n) (nI i + 1) G
        rw [nI_1, Int32.add_zero]; exact hi2
      · have e : cnF f x (i + 1) = cnF f x i + 1 := by show _ + (if _ then _ else _) = _; rw [if_pos c]
        rw [e] at hi2
        show w_X3_oftenIn_11 K pk (k + 1) x (nI (cnF f x i) + 1) (some q) (nI n) (nI i + 1) G
        rw [nI_1, nI_1]; exact hi2
  exact lenA_i hq ⟨n + 1, main n 0 (by omega)⟩
theorem m_length {v : Int32} (h : MoR G M S th) (hp : mRes M G post (sp_li S (S_at S v) fun r b n => (0, nI n, S))) : w_X3_length K post (some M.1.1) v G := by
  refine m_rcv h (m_isNoList h (fun c => ?_) (fun j r b n hj ev hs => ?_))
  · rw [c] at hp
    exact m_rcv h (m_fails h (fun G1 f1 h1 => ⟨fun z => absurd z (by decide), fun _ => mr (a := (1, 0, S)) hp f1 h1⟩))
  · subst ev
    rw [S_at_nI S hj, hs] at hp
    exact m_rcv h (m_fails h (fun G1 f1 h1 => ⟨fun _ => m_len h1 hj hs (mr hp f1 h1), fun z => absurd (by decide) z⟩))
theorem m_isEmpty {v : Int32} (h : MoR G M S th) (hp : mRes M G post (sp_li S (S_at S v) fun r b n => (0, if n = 0 then 1 else 0, S))) : w_X3_isEmpty K post (some M.1.1) v G := by
  refine m_rcv h (m_isNoList h (fun c => ?_) (fun j r b n hj ev hs => ?_))
  · rw [c] at hp
    exact m_rcv h (m_fails h (fun G1 f1 h1 => ⟨fun _ => ⟨by decide, mr (a := (1, 0, S)) hp f1 h1⟩, fun z => absurd z (by decide)⟩))
  · subst ev
    rw [S_at_nI S hj, hs] at hp
    have hn12 := (S_12 h.1 hj hs).2
    refine m_rcv h (m_fails h (fun G1 f1 h1 => ⟨fun z => absurd (by decide) z, fun _ => m_len h1 hj hs ⟨fun c => ⟨by decide, ?_⟩, fun c => ⟨by decide, ?_⟩⟩⟩))
    · have hn : ¬ n = 0 := fun e => c (by rw [e]; rfl)
      simp only [sp_li, if_neg hn] at hp
      exact mr hp f1 h1
    · have hn : n = 0 := Decidable.byContradiction fun e => nI_ne0 (by omega) (by omega) c
      simp only [sp_li, if_pos hn] at hp
      exact mr hp f1 h1
theorem fr_al {q : Nat} {G1 G2 : tG} (f1 : fr (moW M) G G1) (hq : G1 q = none) (hk : ∀ a, a ≠ q → G2 a = G1 a) : fr (moW M) G G2 := fr_tr f1 (fr_fresh hq hk _)
theorem m_indexOf {v x : Int32} (h : MoR G M S th) (hp : mRes M G post (sp_li S (S_at S v) fun r b n => if okV x then (0, fpF (S_v S r b) x n 0, S) else (2, 0, S))) : w_X3_indexOf K post (some M.1.1) v x G := by
  refine m_rcv h (m_isNoList h (fun c => ?_) (fun j r b n hj ev hs => ?_))
  · rw [c] at hp
    exact m_isNoValue (fun _ => m_rcv h (m_fails h (fun G1 f1 h1 => ⟨fun z => absurd z (by decide), fun _ => mr (a := (1, 0, S)) hp f1 h1⟩))) (fun _ => m_rcv h (m_fails h (fun G1 f1 h1 => ⟨fun z => absurd z (by decide), fun _ => mr (a := (1, 0, S)) hp f1 h1⟩)))
  · subst ev
    rw [S_at_nI S hj, hs] at hp
    have hn12 := (S_12 h.1 hj hs).2
    refine m_isNoValue (fun hx => ?_) (fun hx => ?_)
    · simp only [sp_li, if_neg hx] at hp
      exact m_rcv h (m_fails h (fun G1 f1 h1 => ⟨fun z => absurd z (by decide), fun _ => mr hp f1 h1⟩))
    · simp only [sp_li, if_pos hx] at hp
      refine m_rcv h (m_fails h (fun G1 f1 h1 => ⟨fun _ => m_rcv h1 (m_all h1 hj hs (fun q f G2 q0 q1 q2 q3 h2 => m_placeOf q1 (by omega) ?_)), fun z => absurd (by decide) z⟩))
      rw [fpF_cg n 0 (fun t _ ht => q2 t (by omega))]
      exact mr hp (fr_al f1 q0 q3) h2
theorem m_has {v x : Int32} (h : MoR G M S th) (hp : mRes M G post (sp_li S (S_at S v) fun r b n => if okV x then (0, if fpF (S_v S r b) x n 0 = -1 then 0 else 1, S) else (2, 0, S))) : w_X3_has K post (some M.1.1) v x G := by
  refine m_rcv h (m_isNoList h (fun c => ?_) (fun j r b n hj ev hs => ?_))
  · rw [c] at hp
    exact m_isNoValue (fun _ => m_rcv h (m_fails h (fun G1 f1 h1 => ⟨fun _ => ⟨by decide, mr (a := (1, 0, S)) hp f1 h1⟩, fun z => absurd z (by decide)⟩))) (fun _ => m_rcv h (m_fails h (fun G1 f1 h1 => ⟨fun _ => ⟨by decide, mr (a := (1, 0, S)) hp f1 h1⟩, fun z => absurd z (by decide)⟩)))
  · subst ev
    rw [S_at_nI S hj, hs] at hp
    have hn12 := (S_12 h.1 hj hs).2
    refine m_isNoValue (fun hx => ?_) (fun hx => ?_)
    · simp only [sp_li, if_neg hx] at hp
      exact m_rcv h (m_fails h (fun G1 f1 h1 => ⟨fun _ => ⟨by decide, mr hp f1 h1⟩, fun z => absurd z (by decide)⟩))
    · simp only [sp_li, if_pos hx] at hp
      refine m_rcv h (m_fails h (fun G1 f1 h1 => ⟨fun z => absurd (by decide) z, fun _ => m_rcv h1 (m_all h1 hj hs (fun q f G2 q0 q1 q2 q3 h2 => m_placeOf q1 (by omega) ?_))⟩))
      rw [fpF_cg n 0 (fun t _ ht => q2 t (by omega))]
      by_cases c : fpF (S_v S r b) x n 0 = -1
      · rw [if_pos c] at hp
        rw [c]
        exact ⟨fun _ => ⟨by decide, mr hp (fr_al f1 q0 q3) h2⟩, fun z => absurd (by decide) z⟩
      · rw [if_neg c] at hp
        have hc : ¬ fpF (S_v S r b) x n 0 < 0 := by
          have c2 : ¬ ∀ t, 0 ≤ t → t < 0 + n → S_v S r b t ≠ x := fun z => c ((fpF_ne _ _ n 0 (by omega)).mpr z)
          obtain ⟨t, ht⟩ := Classical.not_forall.mp c2
          obtain ⟨ht0, ht⟩ := Classical.not_imp.mp ht
          obtain ⟨ht1, ht⟩ := Classical.not_imp.mp ht
          obtain ⟨p, p1, p2, p3, p4⟩ := fpF_at (S_v S r b) x n 0 t (by omega) (by omega) (Classical.not_not.mp ht)
          rw [p3]; exact nI_pos (by omega)
        exact ⟨fun z => absurd z hc, fun _ => ⟨by decide, mr hp (fr_al f1 q0 q3) h2⟩⟩
theorem m_often {v x : Int32} (h : MoR G M S th) (hp : mRes M G post (sp_li S (S_at S v) fun r b n => if okV x then (0, ofF (S_v S r b) x n, S) else (2, 0, S))) : w_X3_often K post (some M.1.1) v x G := by
  refine m_rcv h (m_isNoList h (fun c => ?_) (fun j r b n hj ev hs => ?_))
  · rw [c] at hp
    exact m_isNoValue (fun _ => m_rcv h (m_fails h (fun G1 f1 h1 => ⟨fun z => absurd z (by decide), fun _ => mr (a := (1, 0, S)) hp f1 h1⟩))) (fun _ => m_rcv h (m_fails h (fun G1 f1 h1 => ⟨fun z => absurd z (by decide), fun _ => mr (a := (1, 0, S)) hp f1 h1⟩)))
  · subst ev
    rw [S_at_nI S hj, hs] at hp
    have hn12 := (S_12 h.1 hj hs).2
    refine m_isNoValue (fun hx => ?_) (fun hx => ?_)
    · simp only [sp_li, if_neg hx] at hp
      exact m_rcv h (m_fails h (fun G1 f1 h1 => ⟨fun z => absurd z (by decide), fun _ => mr hp f1 h1⟩))
    · simp only [sp_li, if_pos hx] at hp
      refine m_rcv h (m_fails h (fun G1 f1 h1 => ⟨fun _ => m_rcv h1 (m_all h1 hj hs (fun q f G2 q0 q1 q2 q3 h2 => m_oftenIn q1 (by omega) ?_)), fun z => absurd (by decide) z⟩))
      rw [← ofF_cn, ofF_cg n (fun t ht => q2 t ht)]
      exact mr hp (fr_al f1 q0 q3) h2
theorem m_removeValue {v x : Int32} (h : MoR G M S th) (hp : mRes M G post (sp_li S (S_at S v) fun r b n => if okV x then (if fpF (S_v S r b) x n 0 = -1 then (0, 0, S) else (0, -9, S_ref S)) else (2, 0, S))) : w_X3_removeValue K post (some M.1.1) v x G := by
  refine m_rcv h (m_isNoList h (fun c => ?_) (fun j r b n hj ev hs => ?_))
  · rw [c] at hp
    exact m_isNoValue (fun _ => m_rcv h (m_fails h (fun G1 f1 h1 => ⟨fun z => absurd z (by decide), fun _ => mr (a := (1, 0, S)) hp f1 h1⟩))) (fun _ => m_rcv h (m_fails h (fun G1 f1 h1 => ⟨fun z => absurd z (by decide), fun _ => mr (a := (1, 0, S)) hp f1 h1⟩)))
  · subst ev
    rw [S_at_nI S hj, hs] at hp
    have hn12 := (S_12 h.1 hj hs).2
    refine m_isNoValue (fun hx => ?_) (fun hx => ?_)
    · simp only [sp_li, if_neg hx] at hp
      exact m_rcv h (m_fails h (fun G1 f1 h1 => ⟨fun z => absurd z (by decide), fun _ => mr hp f1 h1⟩))
    · simp only [sp_li, if_pos hx] at hp
      refine m_rcv h (m_fails h (fun G1 f1 h1 => ⟨fun _ => m_rcv h1 (m_all h1 hj hs (fun q f G2 q0 q1 q2 q3 h2 => m_oftenIn q1 (by omega) ?_)), fun z => absurd (by decide) z⟩))
      rw [← ofF_cn, ofF_cg n (fun t ht => q2 t ht), ofF_cn]
      have hle := cnF_le (S_v S r b) x n
      have hcn := fpF_cn (S_v S r b) x (show n < 2 ^ 31 by omega)
      by_cases c : cnF (S_v S r b) x n = 0
      · rw [if_pos (hcn.mpr c)] at hp
        rw [c]
        exact ⟨fun _ => m_rcv h2 (m_refusedIf h2 (fun _ => mr hp (fr_al f1 q0 q3) h2) (fun z => absurd rfl z)), fun z => absurd (by decide) z⟩
      · rw [if_neg (fun z => c (hcn.mp z))] at hp
        exact ⟨fun z => absurd z (nI_nle (by omega) (by omega)), fun _ => m_rcv h2 (m_refusedIf h2 (fun z => absurd z (by decide)) (fun _ G3 f3 h3 => mr hp (fr_tr (fr_al f1 q0 q3) f3) h3))⟩
end MOG
end GRP21x6
section GRP21x7
/-! the model: last place, sums, rows, what is refused -/
section MOH
variable {K : tK} {G : tG} {M : tM} {S : tS} {th : Int32} {post : Int32 → tG → Prop}
theorem m_lastIndexOf {v x : Int32} (h : MoR G M S th) (hp : mRes M G post (sp_li S (S_at S v) fun r b n => if okV x then (0, lpF (S_v S r b) x n, S) else (2, 0, S))) : w_X3_lastIndexOf K post (some M.1.1) v x G := by
  refine m_rcv h (m_isNoList h (fun c => ?_) (fun j r b n hj ev hs => ?_))
  · rw [c] at hp
    exact m_isNoValue (fun _ => m_rcv h (m_fails h (fun G1 f1 h1 => ⟨fun z => absurd z (by decide), fun _ => mr (a := (1, 0, S)) hp f1 h1⟩))) (fun _ => m_rcv h (m_fails h (fun G1 f1 h1 => ⟨fun z => absurd z (by decide), fun _ => mr (a := (1, 0, S)) hp f1 h1⟩)))
  · subst ev
    rw [S_at_nI S hj, hs] at hp
    have hn12 := (S_12 h.1 hj hs).2
    refine m_isNoValue (fun hx => ?_) (fun hx => ?_)
    · simp only [sp_li, if_neg hx] at hp
      exact m_rcv h (m_fails h (fun G1 f1 h1 => ⟨fun z => absurd z (by decide), fun _ => mr hp f1 h1⟩))
    · simp only [sp_li, if_pos hx] at hp
      refine m_rcv h (m_fails h (fun G1 f1 h1 => ⟨fun _ => ?_, fun z => absurd (by decide) z⟩))
      have main : ∀ k i, i + k = n → w_X3_lastIndexOf_23 K post (k + 1) (some M.1.1) (nI j) x (lpF (S_v S r b) x i) (nI i) G1 := by
        intro k
        induction k with
        | zero =>
          intro i hi
          show w_X3_lastIndexOf_23_b K post (w_X3_lastIndexOf_23 K post 0) (some M.1.1) (nI j) x (lpF (S_v S r b) x i) (nI i) G1
          have e : i = n := by omega
          subst e
          exact m_len h1 hj hs ⟨fun _ => mr hp f1 h1, fun c => absurd (nI_le (by omega) (by omega)) c⟩
        | succ k ih =>
          intro i hi
          show w_X3_lastIndexOf_23_b K post (w_X3_lastIndexOf_23 K post (k + 1)) (some M.1.1) (nI j) x (lpF (S_v S r b) x i) (nI i) G1
          have hi2 := ih (i + 1) (by omega)
          refine m_len h1 hj hs ⟨fun c => absurd c (nI_ge (by omega) (by omega)), fun _ => m_rcv h1 (m_value h1 hj hs (by omega) ⟨fun c => ?_, fun c => ?_⟩)⟩
          · have e : lpF (S_v S r b) x (i + 1) = lpF (S_v S r b) x i := by show (if _ then _ else _) = _; rw [if_neg c]
            rw [e] at hi2
            show w_X3_lastIndexOf_23 K post (k + 1) (some M.1.1) (nI j) x (lpF (S_v S r b) x i) (nI i + 1) G1
            rw [nI_1]; exact hi2
          · have e : lpF (S_v S r b) x (i + 1) = nI i := by show (if _ then _ else _) = _; rw [if_pos c]
            rw [e] at hi2
            show w_X3_lastIndexOf_23 K post (k + 1) (some M.1.1) (nI j) x (nI i) (nI i + 1) G1
            rw [nI_1]; exact hi2
      exact ⟨n + 1, main n 0 (by omega)⟩
theorem m_codeNow {pk : Int32 → tG → Prop} {j r b n : Nat} (h : MoR G M S th) (hj : j < 7) (hs : S.1 j = some (r, b, n)) (hp : ∀ q G', G q = none → (∀ a, a ≠ q → G' a = G a) → MoR G' M S th → pk (coF (S_v S r b) n) G') : w_X3_codeNow K pk (some M.1.1) (nI j) G := by
  have hn12 := (S_12 h.1 hj hs).2
  refine m_rcv h (m_all h hj hs (fun q f G2 q0 q1 q2 q3 h2 => lenA_i q1 ?_))
  have main : ∀ k i, i + k = n → w_X3_codeNow_15 K pk (k + 1) (coF f i) (some q) (nI n) (nI i) G2 := by
    intro k
    induction k with
    | zero =>
      intro i hi
      show w_X3_codeNow_15_b K pk (w_X3_codeNow_15 K pk 0) (coF f i) (some q) (nI n) (nI i) G2
      have e : i = n := by omega
      subst e
      refine ⟨fun _ => ?_, fun c => absurd (nI_le (by omega) (by omega)) c⟩
      rw [coF_cg i q2]
      exact hp q G2 q0 q3 h2
    | succ k ih =>
      intro i hi
      show w_X3_codeNow_15_b K pk (w_X3_codeNow_15 K pk (k + 1)) (coF f i) (some q) (nI n) (nI i) G2
      have hi2 := ih (i + 1) (by omega)
      have e : coF f (i + 1) = 31 * coF f i + nuF (f i) := rfl
      rw [e] at hi2
      unfold nuF at hi2
      refine ⟨fun c => absurd c (nI_ge (by omega) (by omega)), fun _ => alI_i q1 rfl (by omega) (by omega) ⟨fun c => ?_, fun c => ?_⟩⟩
      · rw [if_neg c] at hi2
        show w_X3_codeNow_15 K pk (k + 1) (31 * coF f i + f i) (some q) (nI n) (nI i + 1) G2
        rw [nI_1]; exact hi2
      · rw [if_pos c] at hi2
        show w_X3_codeNow_15 K pk (k + 1) (31 * coF f i + 0) (some q) (nI n) (nI i + 1) G2
        rw [nI_1]; exact hi2
  exact ⟨n + 1, main n 0 (by omega)⟩
theorem m_sumNow {pk : Int32 → tG → Prop} {j r b n : Nat} (h : MoR G M S th) (hj : j < 7) (hs : S.1 j = some (r, b, n)) (hp : ∀ q G', G q = none → (∀ a, a ≠ q → G' a = G a) → MoR G' M S th → pk (suF (S_v S r b) n) G') : w_X3_sumNow K pk (some M.1.1) (nI j) G := by
  have hn12 := (S_12 h.1 hj hs).2
  refine m_rcv h (m_all h hj hs (fun q f G2 q0 q1 q2 q3 h2 => lenA_i q1 ?_))
  have main : ∀ k i, i + k = n → w_X3_sumNow_15 K pk (k + 1) (suF f i) (some q) (nI n) (nI i) G2 := by
    intro k
    induction k with
    | zero =>
      intro i hi
      show w_X3_sumNow_15_b K pk (w_X3_sumNow_15 K pk 0) (suF f i) (some q) (nI n) (nI i) G2
      have e : i = n := by omega
      subst e
      refine ⟨fun _ => ?_, fun c => absurd (nI_le (by omega) (by omega)) c⟩
      rw [suF_cg i q2]
      exact hp q G2 q0 q3 h2
    | succ k ih =>
      intro i hi
      show w_X3_sumNow_15_b K pk (w_X3_sumNow_15 K pk (k + 1)) (suF f i) (some q) (nI n) (nI i) G2
      have hi2 := ih (i + 1) (by omega)
      have e : suF f (i + 1) = suF f i + nuF (f i) := rfl
      rw [e] at hi2
      unfold nuF at hi2
      refine ⟨fun c => absurd c (nI_ge (by omega) (by omega)), fun _ => alI_i q1 rfl (by omega) (by omega) ⟨fun c => ?_, fun c => ?_⟩⟩
      · rw [if_neg c] at hi2
        show w_X3_sumNow_15 K pk (k + 1) (suF f i + f i) (some q) (nI n) (nI i + 1) G2
        rw [nI_1]; exact hi2
      · rw [if_pos c] at hi2
        show w_X3_sumNow_15 K pk (k + 1) (suF f i + 0) (some q) (nI n) (nI i + 1) G2
        rw [nI_1]; exact hi2
  exact ⟨n + 1, main n 0 (by omega)⟩
theorem m_code {v : Int32} (h : MoR G M S th) (hp : mRes M G post (sp_li S (S_at S v) fun r b n => (0, coF (S_v S r b) n, S))) : w_X3_code K post (some M.1.1) v G := by
  refine m_rcv h (m_isNoList h (fun c => ?_) (fun j r b n hj ev hs => ?_))
  · rw [c] at hp
    exact m_rcv h (m_fails h (fun G1 f1 h1 => ⟨fun z => absurd z (by decide), fun _ => mr (a := (1, 0, S)) hp f1 h1⟩))
  · subst ev
    rw [S_at_nI S hj, hs] at hp
    exact m_rcv h (m_fails h (fun G1 f1 h1 => ⟨fun _ => m_rcv h1 (m_codeNow h1 hj hs (fun q G2 q0 q3 h2 => mr hp (fr_al f1 q0 q3) h2)), fun z => absurd (by decide) z⟩))
theorem m_sum {v : Int32} (h : MoR G M S th) (hp : mRes M G post (sp_li S (S_at S v) fun r b n => (0, suF (S_v S r b) n, S))) : w_X3_sum K post (some M.1.1) v G := by
  refine m_rcv h (m_isNoList h (fun c => ?_) (fun j r b n hj ev hs => ?_))
  · rw [c] at hp
    exact m_rcv h (m_fails h (fun G1 f1 h1 => ⟨fun z => absurd z (by decide), fun _ => mr (a := (1, 0, S)) hp f1 h1⟩))
  · subst ev
    rw [S_at_nI S hj, hs] at hp
    exact m_rcv h (m_fails h (fun G1 f1 h1 => ⟨fun _ => m_rcv h1 (m_sumNow h1 hj hs (fun q G2 q0 q3 h2 => mr hp (fr_al f1 q0 q3) h2)), fun z => absurd (by decide) z⟩))
theorem S_tw_nI {r : Nat} (hr : r < 3) : S_tw S (nI r) = S.1 r := by
  unfold S_tw
  rw [nI_toInt (by omega), if_pos (by omega)]; rfl
theorem sp_tw_ok {r n i : Nat} {F : Nat → Nat → Nat → Nat → tA} (hr : r < 3) (hs : S.1 r = some (r, 0, n)) (hi : i < n) (hn : n ≤ 12) : sp_at S (S_tw S (nI r)) (nI i) F = F r 0 n i := by
  rw [S_tw_nI hr, hs]
  show (if 0 ≤ (nI i).toInt ∧ (nI i).toInt < n then F r 0 n (nI i).toInt.toNat else (1, 0, S)) = _
  rw [if_pos (nI_inn hi (by omega)), nI_nat (by omega)]
theorem m_at {v w : Int32} (h : MoR G M S th) (hp : mRes M G post (sp_at S (S_tw S v) w fun r b n i => (0, S.2.1 r (b + i), S))) : w_X3_at K post (some M.1.1) v w G := by
  refine m_rcv h (m_isNoRowPlace h (fun c => ?_) (fun r n i hr ev hs hi hn ew => ?_))
  · rw [sp_at_bad c] at hp
    exact m_rcv h (m_fails h (fun G1 f1 h1 => ⟨fun z => absurd z (by decide), fun _ => mr hp f1 h1⟩))
  · subst ev; subst ew
    rw [sp_tw_ok hr hs hi hn, Nat.zero_add] at hp
    refine m_rcv h (m_fails h (fun G1 f1 h1 => ⟨fun _ => m_rows h1 hr ?_, fun z => absurd (by decide) z⟩))
    obtain ⟨f, g1, g2, g3⟩ := m_rowA h1 hr hs
    refine alI_i g1 rfl hi (by omega) ?_
    rw [g2 i hi]
    exact mr hp f1 h1
theorem m_put {v w x : Int32} (h : MoR G M S th) (hp : mRes M G post (sp_at S (S_tw S v) w fun r b n i => if okV x then (0, S.2.1 r (b + i), S_put S r (b + i) x) else (2, 0, S))) : w_X3_put K post (some M.1.1) v w x G := by
  refine m_rcv h (m_isNoRowPlace h (fun c => ?_) (fun r n i hr ev hs hi hn ew => ?_))
  · rw [sp_at_bad c] at hp
    exact m_isNoValue (fun _ => m_rcv h (m_fails h (fun G1 f1 h1 => ⟨fun z => absurd z (by decide), fun _ => mr hp f1 h1⟩))) (fun _ => m_rcv h (m_fails h (fun G1 f1 h1 => ⟨fun z => absurd z (by decide), fun _ => mr hp f1 h1⟩)))
  · subst ev; subst ew
    rw [sp_tw_ok hr hs hi hn, Nat.zero_add] at hp
    refine m_isNoValue (fun hx => ?_) (fun hx => ?_)
    · rw [if_neg hx] at hp
      exact m_rcv h (m_fails h (fun G1 f1 h1 => ⟨fun z => absurd z (by decide), fun _ => mr hp f1 h1⟩))
    · rw [if_pos hx] at hp
      refine m_rcv h (m_fails h (fun G1 f1 h1 => ⟨fun _ => m_rows h1 hr ?_, fun z => absurd (by decide) z⟩))
      obtain ⟨f, g1, g2, g3⟩ := m_rowA h1 hr hs
      refine alI_i g1 rfl hi (by omega) (m_rows h1 hr (asI_i g1 rfl hi (by omega) ?_))
      rw [g2 i hi]
      exact mr hp (fr_tr f1 (fr_up _ (moW_r hr))) (MoR_put h1 hr hs g1 g2 hx)
theorem m_clear {v : Int32} (h : MoR G M S th) (hp : mRes M G post (sp_li S (S_at S v) fun _ _ n => if n = 0 then (0, 0, S) else (0, -9, S_ref S))) : w_X3_clear K post (some M.1.1) v G := by
  refine m_rcv h (m_isNoList h (fun c => ?_) (fun j r b n hj ev hs => ?_))
  · rw [c] at hp
    exact m_rcv h (m_fails h (fun G1 f1 h1 => ⟨fun z => absurd z (by decide), fun _ => mr (a := (1, 0, S)) hp f1 h1⟩))
  · subst ev
    rw [S_at_nI S hj, hs] at hp
    have hn12 := (S_12 h.1 hj hs).2
    refine m_rcv h (m_fails h (fun G1 f1 h1 => ⟨fun _ => m_len h1 hj hs ⟨fun c => m_rcv h1 (m_refusedIf h1 (fun _ => ?_) (fun z => absurd rfl z)), fun c => m_rcv h1 (m_refusedIf h1 (fun z => absurd z (by decide)) (fun _ G2 f2 h2 => ?_))⟩, fun z => absurd (by decide) z⟩))
    · have hn : n = 0 := Decidable.byContradiction fun e => nI_nle (by omega) (by omega) c
      simp only [sp_li, if_pos hn] at hp
      exact mr hp f1 h1
    · have hn : ¬ n = 0 := fun e => c (by rw [e]; decide)
      simp only [sp_li, if_neg hn] at hp
      exact mr hp (fr_tr f1 f2) h2
theorem m_walkChange {v w x : Int32} (h : MoR G M S th) (hp : mRes M G post (sp_at S (S_at S v) w fun _ _ _ _ => if inR x 0 2 then (0, -9, S_ref S) else (2, 0, S))) : w_X3_walkChange K post (some M.1.1) v w x G := by
  refine m_rcv h (m_isNoPlace h (fun c => ?_) (fun j r b n i hj ev hs hi ew => ?_))
  · rw [sp_at_bad c] at hp
    exact m_isIn (fun _ => ⟨fun _ => m_rcv h (m_fails h (fun G1 f1 h1 => ⟨fun z => absurd z (by decide), fun _ => mr hp f1 h1⟩)), fun z => absurd z (by decide)⟩) (fun _ => ⟨fun z => absurd rfl z, fun _ => m_rcv h (m_fails h (fun G1 f1 h1 => ⟨fun z => absurd z (by decide), fun _ => mr hp f1 h1⟩))⟩)
  · subst ev; subst ew
    have hn := (S_12 h.1 hj hs).2
    rw [sp_at_ok hj hs hi (by omega)] at hp
    refine m_isIn (fun hx => ⟨fun _ => ?_, fun z => absurd z (by decide)⟩) (fun hx => ⟨fun z => absurd rfl z, fun _ => ?_⟩)
    · rw [if_pos hx] at hp
      exact m_rcv h (m_fails h (fun G1 f1 h1 => ⟨fun _ => m_rcv h1 (m_refused h1 (fun G2 f2 h2 => mr hp (fr_tr f1 f2) h2)), fun z => absurd (by decide) z⟩))
    · rw [if_neg hx] at hp
      exact m_rcv h (m_fails h (fun G1 f1 h1 => ⟨fun z => absurd z (by decide), fun _ => mr hp f1 h1⟩))
theorem m_addAt {v w x : Int32} (h : MoR G M S th) (hp : mRes M G post (sp_li S (S_at S v) fun _ _ n => if inR w 0 (nI n) ∧ okV x then (0, -9, S_ref S) else (2, 0, S))) : w_X3_addAt K post (some M.1.1) v w x G := by
  refine m_rcv h (m_isNoList h (fun c => ?_) (fun j r b n hj ev hs => ?_))
  · rw [c] at hp
    have hbad : ∀ u, w_X3_addAt_27 K post (some M.1.1) (some M.1.1) 1 u G := fun u => m_rcv h (m_fails h (fun G1 f1 h1 => ⟨fun z => absurd (show (1 : Int32) = 0 from z) (by decide), fun _ => mr (a := (1, 0, S)) hp f1 h1⟩))
    exact m_rcv h (m_isBeyond h (fun _ => ⟨fun z => absurd rfl z, fun _ => m_isNoValue (fun _ => ⟨fun z => absurd z (by decide), fun _ => hbad 1⟩) (fun _ => ⟨fun _ => hbad 0, fun z => absurd rfl z⟩)⟩) (fun j r b n hj ev hs _ => by subst ev; rw [S_at_nI S hj, hs] at c; cases c) (fun j r b n hj ev hs _ => by subst ev; rw [S_at_nI S hj, hs] at c; cases c))
  · have ec : S_at S v = some (r, b, n) := by rw [ev, S_at_nI S hj]; exact hs
    rw [ec] at hp
    have hbad : ¬ (inR w 0 (nI n) ∧ okV x) → w_X3_addAt_27 K post (some M.1.1) (some M.1.1) 0 1 G := fun q => by
      simp only [sp_li, if_neg q] at hp
      exact m_rcv h (m_fails h (fun G1 f1 h1 => ⟨fun z => absurd z (by decide), fun _ => mr hp f1 h1⟩))
    have hgood : (inR w 0 (nI n) ∧ okV x) → w_X3_addAt_27 K post (some M.1.1) (some M.1.1) 0 0 G := fun q => by
      simp only [sp_li, if_pos q] at hp
      exact m_rcv h (m_fails h (fun G1 f1 h1 => ⟨fun _ => m_rcv h1 (m_refused h1 (fun G2 f2 h2 => mr hp (fr_tr f1 f2) h2)), fun z => absurd (by decide) z⟩))
    refine m_rcv h (m_isBeyond h (fun c => ?_) (fun j2 r2 b2 n2 hj2 ev2 hs2 q => ⟨fun _ => hbad (fun z => q ?_), fun z => absurd z (by decide)⟩) (fun j2 r2 b2 n2 hj2 ev2 hs2 q => ⟨fun z => absurd rfl z, fun _ => m_isNoValue (fun hx => ⟨fun z => absurd z (by decide), fun _ => hbad (fun z => hx z.2)⟩) (fun hx => ⟨fun _ => hgood ⟨?_, hx⟩, fun z => absurd rfl z⟩)⟩))
    · rw [ec] at c; cases c
    · have e2 : S_at S v = some (r2, b2, n2) := by rw [ev2, S_at_nI S hj2]; exact hs2
      rw [ec] at e2; cases e2; exact z.1
    · have e2 : S_at S v = some (r2, b2, n2) := by rw [ev2, S_at_nI S hj2]; exact hs2
      rw [ec] at e2; cases e2; exact q
theorem m_swap {v w x : Int32} (h : MoR G M S th) (hp : mRes M G post (sp_at S (S_at S v) w fun r b n i => if 0 ≤ x.toInt ∧ x.toInt < n then (0, if S.2.1 r (b + i) = S.2.1 r (b + x.toInt.toNat) then 0 else 1, S_exch S r (b + i) (b + x.toInt.toNat)) else (1, 0, S))) : w_X3_swap K post (some M.1.1) v w x G := by
  refine m_rcv h (m_isNoPlace h (fun c => ⟨fun _ => ?_, fun z => absurd z (by decide)⟩) (fun j r b n i hj ev hs hi ew => ⟨fun z => absurd rfl z, fun _ => ?_⟩))
  · rw [sp_at_bad c] at hp
    exact m_rcv h (m_fails h (fun G1 f1 h1 => ⟨fun z => absurd z (by decide), fun _ => mr hp f1 h1⟩))
  · subst ev; subst ew
    have hn := (S_12 h.1 hj hs).2
    rw [sp_at_ok hj hs hi (by omega)] at hp
    refine m_rcv h (m_isNoPlace h (fun c => ⟨fun z => absurd z (by decide), fun _ => ?_⟩) (fun j2 r2 b2 n2 k hj2 ev hs2 hk ew => ⟨fun _ => ?_, fun z => absurd rfl z⟩))
    · have hc : ¬ (0 ≤ x.toInt ∧ x.toInt < n) := by
        rcases c with c | ⟨r2, b2, n2, c, d⟩
        · rw [S_at_nI S hj, hs] at c; cases c
        · rw [S_at_nI S hj, hs] at c; cases c; exact d
      rw [if_neg hc] at hp
      exact m_rcv h (m_fails h (fun G1 f1 h1 => ⟨fun z => absurd z (by decide), fun _ => mr hp f1 h1⟩))
    · have e : j = j2 := (nI_eq (by omega) (by omega)).mp ev
      subst e
      rw [hs] at hs2
      cases hs2
      subst ew
      rw [if_pos (nI_inn hk (by omega)), nI_nat (by omega)] at hp
      obtain ⟨hr, -⟩ := S_12 h.1 hj hs
      refine m_rcv h (m_fails h (fun G1 f1 h1 => ⟨fun _ => m_rcv h1 (m_value h1 hj hs hi (m_rcv h1 (m_value h1 hj hs hk ?_))), fun z => absurd (by decide) z⟩))
      refine m_rcv h1 (m_write h1 hj hs hi (h1.1.2.2 r _ hr (by omega)) (fun G2 f2 h2 => m_rcv h2 (m_write (S := S_put S r (b + i) (S.2.1 r (b + k))) h2 hj hs hk (h1.1.2.2 r _ hr (by omega)) (fun G3 f3 h3 => ⟨fun c => ?_, fun c => ?_⟩))))
      · rw [if_pos c] at hp
        exact m_one (fun _ => mr hp (fr_tr f1 (fr_tr f2 f3)) h3) (fun z => absurd rfl z)
      · rw [if_neg c] at hp
        exact m_one (fun z => absurd z (by decide)) (fun _ => mr hp (fr_tr f1 (fr_tr f2 f3)) h3)
theorem m_fill {v x : Int32} (h : MoR G M S th) (hp : mRes M G post (sp_li S (S_at S v) fun r b n => if okV x then (0, nI n, S_map S r b (fun _ _ => x) n) else (2, 0, S))) : w_X3_fill K post (some M.1.1) v x G := by
  refine m_rcv h (m_isNoList h (fun c => ?_) (fun j r b n hj ev hs => ?_))
  · rw [c] at hp
    exact m_isNoValue (fun _ => m_rcv h (m_fails h (fun G1 f1 h1 => ⟨fun z => absurd z (by decide), fun _ => mr (a := (1, 0, S)) hp f1 h1⟩))) (fun _ => m_rcv h (m_fails h (fun G1 f1 h1 => ⟨fun z => absurd z (by decide), fun _ => mr (a := (1, 0, S)) hp f1 h1⟩)))
  · subst ev
    rw [S_at_nI S hj, hs] at hp
    have hn12 := (S_12 h.1 hj hs).2
    refine m_isNoValue (fun hx => ?_) (fun hx => ?_)
    · simp only [sp_li, if_neg hx] at hp
      exact m_rcv h (m_fails h (fun G1 f1 h1 => ⟨fun z => absurd z (by decide), fun _ => mr hp f1 h1⟩))
    · simp only [sp_li, if_pos hx] at hp
      refine m_rcv h (m_fails h (fun G1 f1 h1 => ⟨fun _ => ?_, fun z => absurd (by decide) z⟩))
      have main : ∀ k i G2, i + k = n → fr (moW M) G G2 → MoR G2 M (S_map S r b (fun _ _ => x) i) 0 → w_X3_fill_20 K post (k + 1) (some M.1.1) (nI j) x (nI i) G2 := by
        intro k
        induction k with
        | zero =>
          intro i G2 hi f2 h2
          show w_X3_fill_20_b K post (w_X3_fill_20 K post 0) (some M.1.1) (nI j) x (nI i) G2
          have e : i = n := by omega
          subst e
          have hs2 : (S_map S r b (fun _ _ => x) i).1 j = some (r, b, i) := by rw [(S_map_1 S r b _ i).1]; exact hs
          exact m_len h2 hj hs2 ⟨fun _ => m_len h2 hj hs2 (mr hp f2 h2), fun c => absurd (nI_le (by omega) (by omega)) c⟩
        | succ k ih =>
          intro i G2 hi f2 h2
          show w_X3_fill_20_b K post (w_X3_fill_20 K post (k + 1)) (some M.1.1) (nI j) x (nI i) G2
          have hs2 : (S_map S r b (fun _ _ => x) i).1 j = some (r, b, n) := by rw [(S_map_1 S r b _ i).1]; exact hs
          refine m_len h2 hj hs2 ⟨fun c => absurd c (nI_ge (by omega) (by omega)), fun _ => m_rcv h2 (m_write h2 hj hs2 (by omega) hx (fun G3 f3 h3 => ?_))⟩
          rw [nI_1]
          exact ih (i + 1) G3 (by omega) (fr_tr f2 f3) h3
      exact ⟨n + 1, main n 0 G1 (by omega) f1 h1⟩
end MOH
end GRP21x7
section GRP21x8
/-! the model: two lists -/
def shF (f g : Nat → Int32) (m : Nat) : Nat → Nat
  | 0 => 0
  | k + 1 => shF f g m k + (if cnF g (f k) m = 0 then 0 else 1)
theorem shF_le (f g : Nat → Int32) (m : Nat) : ∀ k, shF f g m k ≤ k
  | 0 => Nat.le_refl _
  | k + 1 => by
    have := shF_le f g m k
    show shF f g m k + (if cnF g (f k) m = 0 then 0 else 1) ≤ k + 1
    split <;> omega
theorem shF_0 (f g : Nat → Int32) (m : Nat) : ∀ k, shF f g m k = 0 ↔ ∀ t, t < k → cnF g (f t) m = 0
  | 0 => ⟨fun _ t h => absurd h (by omega), fun _ => rfl⟩
  | k + 1 => by
    have ih := shF_0 f g m k
    show shF f g m k + (if cnF g (f k) m = 0 then 0 else 1) = 0 ↔ _
    by_cases c : cnF g (f k) m = 0
    · rw [if_pos c]
      constructor
      · intro z t ht
        by_cases e : t = k
        · rw [e]; exact c
        · exact ih.mp (by omega) t (by omega)
      · intro z
        have := ih.mpr (fun t ht => z t (by omega))
        omega
    · rw [if_neg c]
      exact ⟨fun z => absurd z (by omega), fun z => absurd (z k (by omega)) c⟩
theorem shF_k (f g : Nat → Int32) (m : Nat) : ∀ k, shF f g m k = k ↔ ∀ t, t < k → cnF g (f t) m ≠ 0
  | 0 => ⟨fun _ t h => absurd h (by omega), fun _ => rfl⟩
  | k + 1 => by
    have ih := shF_k f g m k
    have hle := shF_le f g m k
    show shF f g m k + (if cnF g (f k) m = 0 then 0 else 1) = k + 1 ↔ _
    by_cases c : cnF g (f k) m = 0
    · rw [if_pos c]
      exact ⟨fun z => absurd z (by omega), fun z => absurd c (z k (by omega))⟩
    · rw [if_neg c]
      constructor
      · intro z t ht
        by_cases e : t = k
        · rw [e]; exact c
        · exact ih.mp (by omega) t (by omega)
      · intro z
        have := ih.mpr (fun t ht => z t (by omega))
        omega
theorem onF_0 (f g : Nat → Int32) (m : Nat) (is : Int32) : ∀ k i, onF f g m is k i = 0 ↔ ∀ t, i ≤ t → t < i + k → stF g m (f t) ≠ is
  | 0, i => ⟨fun _ t h1 h2 => absurd h2 (by omega), fun _ => rfl⟩
  | k + 1, i => by
    show (if stF g m (f i) = is then 1 else onF f g m is k (i + 1)) = 0 ↔ _
    by_cases c : stF g m (f i) = is
    · rw [if_pos c]
      exact ⟨fun z => absurd z (by decide), fun z => absurd c (z i (by omega) (by omega))⟩
    · rw [if_neg c, onF_0 f g m is k (i + 1)]
      refine ⟨fun q j h1 h2 => ?_, fun q j h1 h2 => q j (by omega) (by omega)⟩
      by_cases e : j = i
      · rw [e]; exact c
      · exact q j (by omega) (by omega)
theorem stF_1 (g : Nat → Int32) {m : Nat} (hm : m < 2 ^ 31) (x : Int32) : stF g m x ≠ 1 ↔ cnF g x m = 0 := by
  have := fpF_cn g x hm
  unfold stF
  by_cases c : cnF g x m = 0
  · rw [if_pos (this.mpr c)]; exact ⟨fun _ => c, fun _ => by decide⟩
  · rw [if_neg (fun z => c (this.mp z))]; exact ⟨fun z => absurd rfl z, fun z => absurd z c⟩
theorem stF_0 (g : Nat → Int32) {m : Nat} (hm : m < 2 ^ 31) (x : Int32) : stF g m x ≠ 0 ↔ cnF g x m ≠ 0 := by
  have := fpF_cn g x hm
  unfold stF
  by_cases c : cnF g x m = 0
  · rw [if_pos (this.mpr c)]; exact ⟨fun z => absurd rfl z, fun z => absurd c z⟩
  · rw [if_neg (fun z => c (this.mp z))]; exact ⟨fun _ => c, fun _ => by decide⟩
theorem onF_sh1 (f g : Nat → Int32) {m : Nat} (hm : m < 2 ^ 31) (k : Nat) : onF f g m 1 k 0 = 0 ↔ shF f g m k = 0 := by
  rw [onF_0, shF_0]
  exact ⟨fun z t ht => (stF_1 g hm _).mp (z t (by omega) (by omega)), fun z t _ ht => (stF_1 g hm _).mpr (z t (by omega))⟩
theorem onF_sh0 (f g : Nat → Int32) {m : Nat} (hm : m < 2 ^ 31) (k : Nat) : onF f g m 0 k 0 = 0 ↔ shF f g m k = k := by
  rw [onF_0, shF_k]
  exact ⟨fun z t ht => (stF_0 g hm _).mp (z t (by omega) (by omega)), fun z t _ ht => (stF_0 g hm _).mpr (z t (by omega))⟩
theorem cnF_cg {f g : Nat → Int32} {x : Int32} : ∀ k, (∀ t, t < k → f t = g t) → cnF f x k = cnF g x k
  | 0, _ => rfl
  | k + 1, h => by
    show cnF f x k + (if f k = x then 1 else 0) = cnF g x k + (if g k = x then 1 else 0)
    rw [h k (by omega), cnF_cg k (fun t ht => h t (by omega))]
theorem shF_cg {f f' g : Nat → Int32} {m : Nat} : ∀ k, (∀ t, t < k → f t = f' t) → shF f g m k = shF f' g m k
  | 0, _ => rfl
  | k + 1, h => by
    show shF f g m k + (if cnF g (f k) m = 0 then 0 else 1) = shF f' g m k + (if cnF g (f' k) m = 0 then 0 else 1)
    rw [h k (by omega), shF_cg k (fun t ht => h t (by omega))]
theorem sp_2_bad {S : tS} {p q : Option (Nat × Nat × Nat)} {F : Nat → Nat → Nat → Nat → Nat → Nat → tA} (c : p = none ∨ q = none) : sp_2 S p q F = (1, 0, S) := by
  rcases c with c | c
  · rw [c]; rfl
  · rw [c]; rcases p with _ | ⟨r, b, n⟩ <;> rfl
section MOI
variable {K : tK} {G : tG} {M : tM} {S : tS} {th : Int32} {post : Int32 → tG → Prop}
theorem m_shared {pk : Int32 → tG → Prop} {j r b n j2 r2 b2 n2 : Nat} (h : MoR G M S th) (hj : j < 7) (hs : S.1 j = some (r, b, n)) (hj2 : j2 < 7) (hs2 : S.1 j2 = some (r2, b2, n2)) (hp : ∀ G', fr (moW M) G G' → MoR G' M S th → pk (nI (shF (S_v S r b) (S_v S r2 b2) n2 n)) G') : w_X3_shared K pk (some M.1.1) (nI j) (nI j2) G := by
  have hn12 := (S_12 h.1 hj hs).2
  have hm12 := (S_12 h.1 hj2 hs2).2
  refine ⟨⟨by omega, by omega⟩, m_rcv h (m_all h hj hs (fun q f G2 q0 q1 q2 q3 h2 => lenA_i q1 ?_))⟩
  have main : ∀ k i G3, i + k = n → fr (moW M) G G3 → MoR G3 M S th → G3 q = some (eI n f) → w_X3_shared_17 K pk (k + 1) (1 + i) (12 + 12 * i) (some M.1.1) (nI j2) (nI (shF (S_v S r b) (S_v S r2 b2) n2 i)) (some q) (nI n) (nI i) G3 := by
    intro k
    induction k with
    | zero =>
      intro i G3 hi f3 h3 e3
      show w_X3_shared_17_b K pk (w_X3_shared_17 K pk 0) (1 + i) (12 + 12 * i) (some M.1.1) (nI j2) (nI (shF (S_v S r b) (S_v S r2 b2) n2 i)) (some q) (nI n) (nI i) G3
      have e : i = n := by omega
      subst e
      exact ⟨fun _ => hp G3 f3 h3, fun c => absurd (nI_le (by omega) (by omega)) c⟩
    | succ k ih =>
      intro i G3 hi f3 h3 e3
      show w_X3_shared_17_b K pk (w_X3_shared_17 K pk (k + 1)) (1 + i) (12 + 12 * i) (some M.1.1) (nI j2) (nI (shF (S_v S r b) (S_v S r2 b2) n2 i)) (some q) (nI n) (nI i) G3
      refine ⟨fun c => absurd c (nI_ge (by omega) (by omega)), fun _ => alI_i e3 rfl (by omega) (by omega) ⟨⟨by omega, by omega⟩, m_rcv h3 (m_all h3 hj2 hs2 (fun q' f' G4 p0 p1 p2 p3 h4 => m_oftenIn p1 (by omega) ?_))⟩⟩
      have hne : q ≠ q' := fun c => by rw [← c, e3] at p0; cases p0
      have e4 : G4 q = some (eI n f) := by rw [p3 q hne]; exact e3
      have hi2 := ih (i + 1) G4 (by omega) (fr_al f3 p0 p3) h4 e4
      rw [q2 i (by omega), cnF_cg n2 p2]
      have hle := cnF_le (S_v S r2 b2) (S_v S r b i) n2
      have e5 : shF (S_v S r b) (S_v S r2 b2) n2 (i + 1) = shF (S_v S r b) (S_v S r2 b2) n2 i + (if cnF (S_v S r2 b2) (S_v S r b i) n2 = 0 then 0 else 1) := rfl
      rw [e5] at hi2
      rw [show 1 + (i + 1) = 1 + i + 1 by omega, show 12 + 12 * (i + 1) = 12 + 12 * i + 12 by omega] at hi2
      refine ⟨fun c => m_one (fun _ => ?_) (fun z => absurd rfl z), fun c => m_one (fun z => absurd z (by decide)) (fun _ => ?_)⟩
      · have hc : cnF (S_v S r2 b2) (S_v S r b i) n2 = 0 := Decidable.byContradiction fun e => nI_nle (by omega) (by omega) c
        rw [if_pos hc, Nat.add_zero] at hi2
        rw [nI_1, Int32.add_zero]; exact hi2
      · have hc : ¬ cnF (S_v S r2 b2) (S_v S r b i) n2 = 0 := fun e => c (by rw [e]; decide)
        rw [if_neg hc] at hi2
        rw [nI_1, nI_1]; exact hi2
  have := main n 0 G2 (by omega) (fr_al (fr_rf _ _) q0 q3) h2 q1
  exact ⟨n + 1, this⟩
theorem m_hasAll {v w : Int32} (h : MoR G M S th) (hp : mRes M G post (sp_2 S (S_at S v) (S_at S w) fun r b n r2 b2 n2 => (0, if onF (S_v S r2 b2) (S_v S r b) n 0 n2 0 = 0 then 1 else 0, S))) : w_X3_hasAll K post (some M.1.1) v w G := by
  refine m_rcv h (m_isNoPair h (fun c => ?_) (fun j r b n j2 r2 b2 n2 hj ev hs hj2 ew hs2 => ?_))
  · rw [sp_2_bad c] at hp
    exact m_rcv h (m_fails h (fun G1 f1 h1 => ⟨fun _ => ⟨by decide, mr hp f1 h1⟩, fun z => absurd z (by decide)⟩))
  · subst ev; subst ew
    rw [S_at_nI S hj, S_at_nI S hj2, hs, hs2] at hp
    have hn12 := (S_12 h.1 hj hs).2
    have hm12 := (S_12 h.1 hj2 hs2).2
    have hon := onF_sh0 (S_v S r2 b2) (S_v S r b) (show n < 2 ^ 31 by omega) n2
    have hle := shF_le (S_v S r2 b2) (S_v S r b) n n2
    refine m_rcv h (m_fails h (fun G1 f1 h1 => ⟨fun z => absurd (by decide) z, fun _ => m_rcv h1 (m_shared h1 hj2 hs2 hj hs (fun G2 f2 h2 => m_len h2 hj2 hs2 ⟨fun c => ⟨by decide, ?_⟩, fun c => ⟨by decide, ?_⟩⟩))⟩))
    · have hc : ¬ shF (S_v S r2 b2) (S_v S r b) n n2 = n2 := fun e => c (by rw [e])
      simp only [sp_2, if_neg (fun z => hc (hon.mp z))] at hp
      exact mr hp (fr_tr f1 f2) h2
    · have hc := (nI_eq (by omega) (by omega)).mp c
      simp only [sp_2, if_pos (hon.mpr hc)] at hp
      exact mr hp (fr_tr f1 f2) h2
theorem m_areApart {v w : Int32} (h : MoR G M S th) (hp : mRes M G post (sp_2 S (S_at S v) (S_at S w) fun r b n r2 b2 n2 => (0, if onF (S_v S r b) (S_v S r2 b2) n2 1 n 0 = 0 then 1 else 0, S))) : w_X3_areApart K post (some M.1.1) v w G := by
  refine m_rcv h (m_isNoPair h (fun c => ?_) (fun j r b n j2 r2 b2 n2 hj ev hs hj2 ew hs2 => ?_))
  · rw [sp_2_bad c] at hp
    exact m_rcv h (m_fails h (fun G1 f1 h1 => ⟨fun _ => ⟨by decide, mr hp f1 h1⟩, fun z => absurd z (by decide)⟩))
  · subst ev; subst ew
    rw [S_at_nI S hj, S_at_nI S hj2, hs, hs2] at hp
    have hn12 := (S_12 h.1 hj hs).2
    have hm12 := (S_12 h.1 hj2 hs2).2
    have hon := onF_sh1 (S_v S r b) (S_v S r2 b2) (show n2 < 2 ^ 31 by omega) n
    have hle := shF_le (S_v S r b) (S_v S r2 b2) n2 n
    refine m_rcv h (m_fails h (fun G1 f1 h1 => ⟨fun z => absurd (by decide) z, fun _ => m_rcv h1 (m_shared h1 hj hs hj2 hs2 (fun G2 f2 h2 => ⟨fun c => ⟨by decide, ?_⟩, fun c => ⟨by decide, ?_⟩⟩))⟩))
    · have hc : ¬ shF (S_v S r b) (S_v S r2 b2) n2 n = 0 := fun e => c (by rw [e]; rfl)
      simp only [sp_2, if_neg (fun z => hc (hon.mp z))] at hp
      exact mr hp (fr_tr f1 f2) h2
    · have hc : shF (S_v S r b) (S_v S r2 b2) n2 n = 0 := (nI_eq (b := 0) (by omega) (by omega)).mp c
      simp only [sp_2, if_pos (hon.mpr hc)] at hp
      exact mr hp (fr_tr f1 f2) h2
theorem m_addAll {v w : Int32} (h : MoR G M S th) (hp : mRes M G post (sp_2 S (S_at S v) (S_at S w) fun _ _ _ _ _ n2 => if n2 = 0 then (0, 0, S) else (0, -9, S_ref S))) : w_X3_addAll K post (some M.1.1) v w G := by
  refine m_rcv h (m_isNoPair h (fun c => ?_) (fun j r b n j2 r2 b2 n2 hj ev hs hj2 ew hs2 => ?_))
  · rw [sp_2_bad c] at hp
    exact m_rcv h (m_fails h (fun G1 f1 h1 => ⟨fun z => absurd z (by decide), fun _ => mr hp f1 h1⟩))
  · subst ev; subst ew
    rw [S_at_nI S hj, S_at_nI S hj2, hs, hs2] at hp
    have hm12 := (S_12 h.1 hj2 hs2).2
    refine m_rcv h (m_fails h (fun G1 f1 h1 => ⟨fun _ => m_len h1 hj2 hs2 ⟨fun c => m_rcv h1 (m_refusedIf h1 (fun _ => ?_) (fun z => absurd rfl z)), fun c => m_rcv h1 (m_refusedIf h1 (fun z => absurd z (by decide)) (fun _ G2 f2 h2 => ?_))⟩, fun z => absurd (by decide) z⟩))
    · have hn : n2 = 0 := Decidable.byContradiction fun e => nI_nle (by omega) (by omega) c
      simp only [sp_2, if_pos hn] at hp
      exact mr hp f1 h1
    · have hn : ¬ n2 = 0 := fun e => c (by rw [e]; decide)
      simp only [sp_2, if_neg hn] at hp
      exact mr hp (fr_tr f1 f2) h2
theorem m_removeAll {v w : Int32} (h : MoR G M S th) (hp : mRes M G post (sp_2 S (S_at S v) (S_at S w) fun r b n r2 b2 n2 => if onF (S_v S r b) (S_v S r2 b2) n2 1 n 0 = 0 then (0, 0, S) else (0, -9, S_ref S))) : w_X3_removeAll K post (some M.1.1) v w G := by
  refine m_rcv h (m_isNoPair h (fun c => ?_) (fun j r b n j2 r2 b2 n2 hj ev hs hj2 ew hs2 => ?_))
  · rw [sp_2_bad c] at hp
    exact m_rcv h (m_fails h (fun G1 f1 h1 => ⟨fun z => absurd z (by decide), fun _ => mr hp f1 h1⟩))
  · subst ev; subst ew
    rw [S_at_nI S hj, S_at_nI S hj2, hs, hs2] at hp
    have hn12 := (S_12 h.1 hj hs).2
    have hm12 := (S_12 h.1 hj2 hs2).2
    have hon := onF_sh1 (S_v S r b) (S_v S r2 b2) (show n2 < 2 ^ 31 by omega) n
    have hle := shF_le (S_v S r b) (S_v S r2 b2) n2 n
    refine m_rcv h (m_fails h (fun G1 f1 h1 => ⟨fun _ => m_rcv h1 (m_shared h1 hj hs hj2 hs2 (fun G2 f2 h2 => ⟨fun c => m_rcv h2 (m_refusedIf h2 (fun _ => ?_) (fun z => absurd rfl z)), fun c => m_rcv h2 (m_refusedIf h2 (fun z => absurd z (by decide)) (fun _ G3 f3 h3 => ?_))⟩)), fun z => absurd (by decide) z⟩))
    · have hc : shF (S_v S r b) (S_v S r2 b2) n2 n = 0 := Decidable.byContradiction fun e => nI_nle (by omega) (by omega) c
      simp only [sp_2, if_pos (hon.mpr hc)] at hp
      exact mr hp (fr_tr f1 f2) h2
    · have hc : ¬ shF (S_v S r b) (S_v S r2 b2) n2 n = 0 := fun e => c (by rw [e]; decide)
      simp only [sp_2, if_neg (fun z => hc (hon.mp z))] at hp
      exact mr hp (fr_tr f1 (fr_tr f2 f3)) h3
theorem m_retainAll {v w : Int32} (h : MoR G M S th) (hp : mRes M G post (sp_2 S (S_at S v) (S_at S w) fun r b n r2 b2 n2 => if onF (S_v S r b) (S_v S r2 b2) n2 0 n 0 = 0 then (0, 0, S) else (0, -9, S_ref S))) : w_X3_retainAll K post (some M.1.1) v w G := by
  refine m_rcv h (m_isNoPair h (fun c => ?_) (fun j r b n j2 r2 b2 n2 hj ev hs hj2 ew hs2 => ?_))
  · rw [sp_2_bad c] at hp
    exact m_rcv h (m_fails h (fun G1 f1 h1 => ⟨fun z => absurd z (by decide), fun _ => mr hp f1 h1⟩))
  · subst ev; subst ew
    rw [S_at_nI S hj, S_at_nI S hj2, hs, hs2] at hp
    have hn12 := (S_12 h.1 hj hs).2
    have hm12 := (S_12 h.1 hj2 hs2).2
    have hon := onF_sh0 (S_v S r b) (S_v S r2 b2) (show n2 < 2 ^ 31 by omega) n
    have hle := shF_le (S_v S r b) (S_v S r2 b2) n2 n
    refine m_rcv h (m_fails h (fun G1 f1 h1 => ⟨fun _ => m_rcv h1 (m_shared h1 hj hs hj2 hs2 (fun G2 f2 h2 => m_len h2 hj hs ⟨fun c => m_rcv h2 (m_refusedIf h2 (fun _ => ?_) (fun z => absurd rfl z)), fun c => m_rcv h2 (m_refusedIf h2 (fun z => absurd z (by decide)) (fun _ G3 f3 h3 => ?_))⟩)), fun z => absurd (by decide) z⟩))
    · rw [nI_leI (by omega) (by omega)] at c
      have hc : shF (S_v S r b) (S_v S r2 b2) n2 n = n := by omega
      simp only [sp_2, if_pos (hon.mpr hc)] at hp
      exact mr hp (fr_tr f1 f2) h2
    · rw [nI_leI (by omega) (by omega)] at c
      have hc : ¬ shF (S_v S r b) (S_v S r2 b2) n2 n = n := by omega
      simp only [sp_2, if_neg (fun z => hc (hon.mp z))] at hp
      exact mr hp (fr_tr f1 (fr_tr f2 f3)) h3
end MOI
end GRP21x8
section GRP21x9
/-! the model: one list in another one; tests -/
def iatF (f g : Nat → Int32) (n n2 a : Nat) : Int32 := if a + n2 ≤ n then haF (fun t => f (a + t)) g n2 0 else 0
def ixF (f g : Nat → Int32) (n n2 : Nat) : Nat → Nat → Int32
  | 0, _ => -1
  | k + 1, i => if iatF f g n n2 i = 0 then ixF f g n n2 k (i + 1) else nI i
theorem ixF_ia (f g : Nat → Int32) (n n2 : Nat) : ∀ k i, i + k = n + 1 → ixF f g n n2 k i = iaF f g n2 (n + 1 - n2 - i) i
  | 0, i, h => by
    rw [show n + 1 - n2 - i = 0 by omega]; rfl
  | k + 1, i, h => by
    show (if iatF f g n n2 i = 0 then ixF f g n n2 k (i + 1) else nI i) = _
    rw [ixF_ia f g n n2 k (i + 1) (by omega)]
    unfold iatF
    by_cases c : i + n2 ≤ n
    · rw [if_pos c, show n + 1 - n2 - i = (n + 1 - n2 - (i + 1)) + 1 by omega]; rfl
    · rw [if_neg c, if_pos rfl, show n + 1 - n2 - i = 0 by omega, show n + 1 - n2 - (i + 1) = 0 by omega]; rfl
theorem iatF_01 (f g : Nat → Int32) (n n2 a : Nat) : iatF f g n n2 a = 0 ∨ iatF f g n n2 a = 1 := by
  unfold iatF
  split
  · exact haF_01 _ _ _ _
  · exact Or.inl rfl
def orF (f : Nat → Int32) (t w : Int32) : Nat → Int32
  | 0 => 0
  | k + 1 => orF f t w k ||| tsF t w (f k)
theorem tsF_01 (t w x : Int32) : tsF t w x = 0 ∨ tsF t w x = 1 := by
  unfold tsF
  split
  · split
    · exact Or.inr rfl
    · exact Or.inl rfl
  · split
    · split
      · exact Or.inr rfl
      · exact Or.inl rfl
    · split
      · exact Or.inl rfl
      · split
        · exact Or.inl rfl
        · exact Or.inr rfl
theorem orF_01 (f : Nat → Int32) (t w : Int32) : ∀ k, (orF f t w k = 0 ∨ orF f t w k = 1) ∧ (orF f t w k = 0 ↔ ∀ i, i < k → tsF t w (f i) = 0)
  | 0 => ⟨Or.inl rfl, fun _ i h => absurd h (by omega), fun _ => rfl⟩
  | k + 1 => by
    obtain ⟨h1, h2⟩ := orF_01 f t w k
    show ((orF f t w k ||| tsF t w (f k)) = 0 ∨ (orF f t w k ||| tsF t w (f k)) = 1) ∧ ((orF f t w k ||| tsF t w (f k)) = 0 ↔ _)
    rcases tsF_01 t w (f k) with c | c
    · rcases h1 with d | d
      · rw [c, d]
        refine ⟨Or.inl (by decide), fun _ i hi => ?_, fun _ => by decide⟩
        by_cases e : i = k
        · rw [e]; exact c
        · exact h2.mp d i (by omega)
      · rw [c, d]
        refine ⟨Or.inr (by decide), fun z => absurd z (by decide), fun z => ?_⟩
        have := h2.mpr (fun i hi => z i (by omega))
        rw [d] at this; exact absurd this (by decide)
    · have e : (orF f t w k ||| tsF t w (f k)) = 1 := by
        rcases h1 with d | d <;> rw [c, d] <;> decide
      rw [e]
      refine ⟨Or.inr rfl, fun z => absurd z (by decide), fun z => ?_⟩
      have := z k (by omega)
      rw [c] at this; exact absurd this (by decide)
theorem otF_0 (f : Nat → Int32) (t w : Int32) : ∀ k i, otF f t w k i = 0 ↔ ∀ s, i ≤ s → s < i + k → tsF t w (f s) = 0
  | 0, i => ⟨fun _ s h1 h2 => absurd h2 (by omega), fun _ => rfl⟩
  | k + 1, i => by
    show (if tsF t w (f i) = 0 then otF f t w k (i + 1) else 1) = 0 ↔ _
    by_cases c : tsF t w (f i) = 0
    · rw [if_pos c, otF_0 f t w k (i + 1)]
      refine ⟨fun q j h1 h2 => ?_, fun q j h1 h2 => q j (by omega) (by omega)⟩
      by_cases e : j = i
      · rw [e]; exact c
      · exact q j (by omega) (by omega)
    · rw [if_neg c]
      exact ⟨fun z => absurd z (by decide), fun z => absurd (z i (by omega) (by omega)) c⟩
section MOJ
variable {K : tK} {G : tG} {M : tM} {S : tS} {th : Int32} {post : Int32 → tG → Prop}
theorem m_isAt {pk : Int32 → tG → Prop} {q q' n n2 a : Nat} {f g : Nat → Int32} (hq : G q = some (eI n f)) (hq' : G q' = some (eI n2 g)) (hn : n < 2 ^ 30) (hn2 : n2 < 2 ^ 30) (ha : a < 2 ^ 30) (h : pk (iatF f g n n2 a) G) : w_X3_isAt K pk (some q) (nI a) (some q') G := by
  unfold iatF at h
  refine lenA_i hq' (lenA_i hq ?_)
  have e0 : nI a + nI n2 = nI (a + n2) := nI_add _ _
  by_cases c : a + n2 ≤ n
  · rw [if_pos c] at h
    have main : ∀ k i, i + k = n2 → pk (haF (fun t => f (a + t)) g k i) G → w_X3_isAt_18 K pk (k + 1) (some q) (nI a) (some q') 1 (nI i) G := by
      intro k
      induction k with
      | zero =>
        intro i hi hp
        show w_X3_isAt_18_b K pk (w_X3_isAt_18 K pk 0) (some q) (nI a) (some q') 1 (nI i) G
        exact lenA_i hq' ⟨fun _ => ⟨by decide, hp⟩, fun c => absurd (nI_le (by omega) (by omega)) c⟩
      | succ k ih =>
        intro i hi hp
        show w_X3_isAt_18_b K pk (w_X3_isAt_18 K pk (k + 1)) (some q) (nI a) (some q') 1 (nI i) G
        refine lenA_i hq' ⟨fun c => absurd c (nI_ge (by omega) (by omega)), fun _ => ⟨fun z => absurd z (by decide), fun _ => alI_i hq (nI_add a i) (by omega) (by omega) (alI_i hq' rfl (by omega) (by omega) ⟨fun d => ?_, fun d => ?_⟩)⟩⟩
        · have d : ¬ (fun t => f (a + t)) i = g i := d
          simp only [haF, if_neg d] at hp
          show w_X3_isAt_18_b K pk (w_X3_isAt_18 K pk k) (some q) (nI a) (some q') 0 (nI i + 1) G
          exact lenA_i hq' ⟨fun _ => ⟨by decide, hp⟩, fun _ => ⟨fun _ => ⟨by decide, hp⟩, fun z => absurd rfl z⟩⟩
        · have d : (fun t => f (a + t)) i = g i := d
          simp only [haF, if_pos d] at hp
          show w_X3_isAt_18 K pk (k + 1) (some q) (nI a) (some q') 1 (nI i + 1) G
          rw [nI_1]
          exact ih (i + 1) (by omega) hp
    refine ⟨fun d => ?_, fun _ => ⟨n2 + 1, main n2 0 (by omega) h⟩⟩
    rw [e0] at d
    exact absurd d (nI_nlt (show a + n2 ≤ n from c) (by omega))
  · rw [if_neg c] at h
    refine ⟨fun _ => ⟨1, ?_⟩, fun d => absurd ?_ d⟩
    · show w_X3_isAt_18_b K pk (w_X3_isAt_18 K pk 0) (some q) (nI a) (some q') 0 0 G
      exact lenA_i hq' ⟨fun _ => ⟨by decide, h⟩, fun _ => ⟨fun _ => ⟨by decide, h⟩, fun z => absurd rfl z⟩⟩
    · rw [e0]
      exact nI_lt (show n < a + n2 by omega) (by omega)
theorem iatF_cg {f g f' g' : Nat → Int32} {n n2 a : Nat} (hf : ∀ t, t < n → f t = f' t) (hg : ∀ t, t < n2 → g t = g' t) : iatF f g n n2 a = iatF f' g' n n2 a := by
  unfold iatF
  by_cases c : a + n2 ≤ n
  · rw [if_pos c, if_pos c]
    exact haF_cg n2 0 (fun t _ ht => ⟨hf (a + t) (by omega), hg t (by omega)⟩)
  · rw [if_neg c, if_neg c]
theorem m_areEqual {v w : Int32} (h : MoR G M S th) (hp : mRes M G post (sp_2 S (S_at S v) (S_at S w) fun r b n r2 b2 n2 => (0, if n = n2 then haF (S_v S r b) (S_v S r2 b2) n2 0 else 0, S))) : w_X3_areEqual K post (some M.1.1) v w G := by
  refine m_rcv h (m_isNoPair h (fun c => ?_) (fun j r b n j2 r2 b2 n2 hj ev hs hj2 ew hs2 => ?_))
  · rw [sp_2_bad c] at hp
    exact m_rcv h (m_fails h (fun G1 f1 h1 => ⟨fun _ => ⟨by decide, mr hp f1 h1⟩, fun z => absurd z (by decide)⟩))
  · subst ev; subst ew
    rw [S_at_nI S hj, S_at_nI S hj2, hs, hs2] at hp
    have hn12 := (S_12 h.1 hj hs).2
    have hm12 := (S_12 h.1 hj2 hs2).2
    refine m_rcv h (m_fails h (fun G1 f1 h1 => ⟨fun z => absurd (by decide) z, fun _ => m_len h1 hj hs (m_len h1 hj2 hs2 ⟨fun c => ⟨by decide, ?_⟩, fun c => ?_⟩)⟩))
    · simp only [sp_2, if_neg (fun e : n = n2 => c (by rw [e]))] at hp
      exact mr hp f1 h1
    · have hc := (nI_eq (by omega) (by omega)).mp c
      simp only [sp_2, if_pos hc] at hp
      refine m_rcv h1 (m_all h1 hj hs (fun q f G2 q0 q1 q2 q3 h2 => m_rcv h2 (m_all h2 hj2 hs2 (fun q' f' G3 p0 p1 p2 p3 h3 => ?_))))
      have hne : q ≠ q' := fun c => by rw [← c, q1] at p0; cases p0
      have e3 : G3 q = some (eI n f) := by rw [p3 q hne]; exact q1
      refine m_isAt (a := 0) e3 p1 (by omega) (by omega) (by omega) ?_
      have e4 : iatF f f' n n2 0 = haF (S_v S r b) (S_v S r2 b2) n2 0 := by
        rw [iatF_cg q2 p2]
        unfold iatF
        rw [if_pos (by omega)]
        exact haF_cg n2 0 (fun t _ _ => ⟨by rw [Nat.zero_add], rfl⟩)
      rw [e4]
      have hq := mr hp (fr_al (fr_al f1 q0 q3) p0 p3) h3
      rcases haF_01 (S_v S r b) (S_v S r2 b2) n2 0 with d | d
      · rw [d] at hq ⊢
        exact ⟨fun _ => ⟨by decide, hq⟩, fun z => absurd rfl z⟩
      · rw [d] at hq ⊢
        exact ⟨fun z => absurd z (by decide), fun _ => ⟨by decide, hq⟩⟩
theorem m_indexOfAll {v w : Int32} (h : MoR G M S th) (hp : mRes M G post (sp_2 S (S_at S v) (S_at S w) fun r b n r2 b2 n2 => (0, iaF (S_v S r b) (S_v S r2 b2) n2 (n + 1 - n2) 0, S))) : w_X3_indexOfAll K post (some M.1.1) v w G := by
  refine m_rcv h (m_isNoPair h (fun c => ?_) (fun j r b n j2 r2 b2 n2 hj ev hs hj2 ew hs2 => ?_))
  · rw [sp_2_bad c] at hp
    exact m_rcv h (m_fails h (fun G1 f1 h1 => ⟨fun z => absurd z (by decide), fun _ => mr hp f1 h1⟩))
  · subst ev; subst ew
    rw [S_at_nI S hj, S_at_nI S hj2, hs, hs2] at hp
    have hn12 := (S_12 h.1 hj hs).2
    have hm12 := (S_12 h.1 hj2 hs2).2
    refine m_rcv h (m_fails h (fun G1 f1 h1 => ⟨fun _ => ?_, fun z => absurd (by decide) z⟩))
    have hp2 : ∀ G', fr (moW M) G G' → MoR G' M S 0 → post (ixF (S_v S r b) (S_v S r2 b2) n n2 (n + 1) 0) G' := fun G' f' h' => by
      rw [ixF_ia (S_v S r b) (S_v S r2 b2) n n2 (n + 1) 0 (by omega)]
      exact mr hp f' h'
    have main : ∀ k i G2, i + k = n + 1 → fr (moW M) G G2 → MoR G2 M S 0 → (∀ G', fr (moW M) G G' → MoR G' M S 0 → post (ixF (S_v S r b) (S_v S r2 b2) n n2 k i) G') → w_X3_indexOfAll_18 K post (k + 1) (2 * i) (24 * i) (some M.1.1) (nI j) (nI j2) (nI i) G2 := by
      intro k
      induction k with
      | zero =>
        intro i G2 hi f2 h2 hq
        show w_X3_indexOfAll_18_b K post (w_X3_indexOfAll_18 K post 0) (2 * i) (24 * i) (some M.1.1) (nI j) (nI j2) (nI i) G2
        exact m_len h2 hj hs ⟨fun _ => hq G2 f2 h2, fun c => absurd (nI_lt (by omega) (by omega)) c⟩
      | succ k ih =>
        intro i G2 hi f2 h2 hq
        show w_X3_indexOfAll_18_b K post (w_X3_indexOfAll_18 K post (k + 1)) (2 * i) (24 * i) (some M.1.1) (nI j) (nI j2) (nI i) G2
        refine m_len h2 hj hs ⟨fun c => absurd c (nI_nlt (by omega) (by omega)), fun _ => ⟨⟨by omega, by omega⟩, m_rcv h2 (m_all h2 hj hs (fun q f G3 q0 q1 q2 q3 h3 => ⟨⟨by omega, by omega⟩, m_rcv h3 (m_all h3 hj2 hs2 (fun q' f' G4 p0 p1 p2 p3 h4 => ?_))⟩))⟩⟩
        have hne : q ≠ q' := fun c => by rw [← c, q1] at p0; cases p0
        have e4 : G4 q = some (eI n f) := by rw [p3 q hne]; exact q1
        have f4 := fr_al (fr_al f2 q0 q3) p0 p3
        refine m_isAt e4 p1 (by omega) (by omega) (by omega) ?_
        rw [iatF_cg q2 p2]
        refine ⟨fun d => ?_, fun d => ?_⟩
        · simp only [ixF, if_pos d] at hq
          rw [nI_1, show 2 * i + 1 + 1 = 2 * (i + 1) by omega, show 24 * i + 12 + 12 = 24 * (i + 1) by omega]
          exact ih (i + 1) G4 (by omega) f4 h4 hq
        · simp only [ixF, if_neg d] at hq
          exact hq G4 f4 h4
    exact ⟨n + 1 + 1, main (n + 1) 0 G1 (by omega) f1 h1 hp2⟩
theorem m_tested {pk : Int32 → tG → Prop} {x t w : Int32} (h : pk (tsF t w x) G) : w_X3_tested K pk t x w G := by
  unfold tsF at h
  refine ⟨fun c => ⟨fun c1 => ⟨fun d => ⟨by decide, ?_⟩, fun d => ⟨fun d2 => ⟨by decide, ?_⟩, fun d2 => ⟨by decide, ?_⟩⟩⟩, fun c1 => ⟨fun d => ⟨by decide, ?_⟩, fun d => ⟨by decide, ?_⟩⟩⟩, fun c => ⟨fun d => ⟨by decide, ?_⟩, fun d => ⟨by decide, ?_⟩⟩⟩
  · rw [if_neg c, if_neg c1, if_pos d] at h; exact h
  · rw [if_neg c, if_neg c1, if_neg d, if_pos d2] at h; exact h
  · rw [if_neg c, if_neg c1, if_neg d, if_neg d2] at h; exact h
  · rw [if_neg c, if_pos c1, if_neg d] at h; exact h
  · rw [if_neg c, if_pos c1, if_pos d] at h; exact h
  · rw [if_pos c, if_neg d] at h; exact h
  · rw [if_pos c, if_pos d] at h; exact h
theorem orF_cg {f g : Nat → Int32} {t w : Int32} : ∀ k, (∀ s, s < k → f s = g s) → orF f t w k = orF g t w k
  | 0, _ => rfl
  | k + 1, h => by
    show (orF f t w k ||| tsF t w (f k)) = (orF g t w k ||| tsF t w (g k))
    rw [h k (by omega), orF_cg k (fun t ht => h t (by omega))]
theorem m_removeIf {v t w : Int32} (h : MoR G M S th) (hp : mRes M G post (sp_li S (S_at S v) fun r b n => if inR t 0 2 ∧ inR w (-99) 99 then (if otF (S_v S r b) t w n 0 = 0 then (0, 0, S) else (0, -9, S_ref S)) else (2, 0, S))) : w_X3_removeIf K post (some M.1.1) v t w G := by
  refine m_rcv h (m_isNoList h (fun c => ?_) (fun j r b n hj ev hs => ?_))
  · rw [c] at hp
    have hbad : ∀ u, w_X3_removeIf_31 K post (some M.1.1) v t w (some M.1.1) 1 u G := fun u => m_rcv h (m_fails h (fun G1 f1 h1 => ⟨fun z => absurd (show (1 : Int32) = 0 from z) (by decide), fun _ => mr (a := (1, 0, S)) hp f1 h1⟩))
    exact m_isIn (fun _ => ⟨fun z => absurd z (by decide), fun _ => m_isIn (fun _ => ⟨fun _ => hbad 0, fun z => absurd z (by decide)⟩) (fun _ => ⟨fun z => absurd rfl z, fun _ => hbad 1⟩)⟩) (fun _ => ⟨fun _ => hbad 1, fun z => absurd rfl z⟩)
  · subst ev
    rw [S_at_nI S hj, hs] at hp
    have hn12 := (S_12 h.1 hj hs).2
    have hbad : ¬ (inR t 0 2 ∧ inR w (-99) 99) → w_X3_removeIf_31 K post (some M.1.1) (nI j) t w (some M.1.1) 0 1 G := fun q => by
      simp only [sp_li, if_neg q] at hp
      exact m_rcv h (m_fails h (fun G1 f1 h1 => ⟨fun z => absurd z (by decide), fun _ => mr hp f1 h1⟩))
    refine m_isIn (fun ht => ⟨fun z => absurd z (by decide), fun _ => m_isIn (fun hw => ⟨fun _ => ?_, fun z => absurd z (by decide)⟩) (fun hw => ⟨fun z => absurd rfl z, fun _ => hbad (fun z => hw z.2)⟩)⟩) (fun ht => ⟨fun _ => hbad (fun z => ht z.1), fun z => absurd rfl z⟩)
    simp only [sp_li, if_pos (And.intro ht hw)] at hp
    refine m_rcv h (m_fails h (fun G1 f1 h1 => ⟨fun _ => m_rcv h1 (m_all h1 hj hs (fun q f G2 q0 q1 q2 q3 h2 => lenA_i q1 ?_)), fun z => absurd (by decide) z⟩))
    have hot := otF_0 (S_v S r b) t w n 0
    have hor := (orF_01 (S_v S r b) t w n).2
    have main : ∀ k i, i + k = n → w_X3_removeIf_57 K post (k + 1) (some M.1.1) t w (orF f t w i) (some q) (nI n) (nI i) G2 := by
      intro k
      induction k with
      | zero =>
        intro i hi
        show w_X3_removeIf_57_b K post (w_X3_removeIf_57 K post 0) (some M.1.1) t w (orF f t w i) (some q) (nI n) (nI i) G2
        have e : i = n := by omega
        subst e
        refine ⟨fun _ => ?_, fun c => absurd (nI_le (by omega) (by omega)) c⟩
        rw [orF_cg i q2]
        refine m_rcv h2 (m_refusedIf h2 (fun c => ?_) (fun c G3 f3 h3 => ?_))
        · rw [if_pos (hot.mpr (fun s _ hs => hor.mp c s (by omega)))] at hp
          exact mr hp (fr_al f1 q0 q3) h2
        · rw [if_neg (fun z => c (hor.mpr (fun s hs => hot.mp z s (by omega) (by omega))))] at hp
          exact mr hp (fr_tr (fr_al f1 q0 q3) f3) h3
      | succ k ih =>
        intro i hi
        show w_X3_removeIf_57_b K post (w_X3_removeIf_57 K post (k + 1)) (some M.1.1) t w (orF f t w i) (some q) (nI n) (nI i) G2
        refine ⟨fun c => absurd c (nI_ge (by omega) (by omega)), fun _ => alI_i q1 rfl (by omega) (by omega) (m_tested ?_)⟩
        rw [nI_1]
        exact ih (i + 1) (by omega)
    exact ⟨n + 1, main n 0 (by omega)⟩
end MOJ
end GRP21x9
section GRP21x10
/-! the model: the whole -/
section MOK
variable {K : tK} {G : tG} {M : tM} {S : tS} {th : Int32} {post : Int32 → tG → Prop}
theorem m_kn {P : Int32 → Prop} (h : MoR G M S th) (hp : P S.2.2.1) : gfI G (some M.1.1) 5 4 P := by
  obtain ⟨-, ⟨sm, h2⟩, -⟩ := h
  exact gfI_i h2 rfl hp
theorem m_rf {P : Int32 → Prop} (h : MoR G M S th) (hp : P S.2.2.2) : gfI G (some M.1.1) 5 5 P := by
  obtain ⟨-, ⟨sm, h2⟩, -⟩ := h
  exact gfI_i h2 rfl hp
theorem m_rlen {P : Int32 → Prop} {r : Nat} (h : MoR G M S th) (hr : r < 3) (hp : P (nI (lnF (S.1 r)))) : gfR G (some M.1.1) 5 0 (fun x => alR G x (nI r) (.array .int) (fun y => lenA G y P)) := by
  refine m_rows h hr ?_
  obtain ⟨n, d1, d2⟩ := h.1.1 r hr
  obtain ⟨f, g1, g2, g3⟩ := m_rowA h hr d1
  refine lenA_i g1 ?_
  rw [d1] at hp
  exact hp
theorem m_houseNow {pk : Int32 → tG → Prop} {w : Nat} (hw : w < 4) (h : MoR G M S th) (hp : ∀ q G', G q = none → (∀ a, a ≠ q → G' a = G a) → MoR G' M S th → pk (hoF S (nI w)) G') : w_X3_houseNow K pk (some M.1.1) (nI w) G := by
  have main : ∀ k i, i + k = 4 → w_X3_houseNow_4 K pk (k + 1) (some M.1.1) (nI w) (paF S i) (nI (3 + i)) G := by
    intro k
    induction k with
    | zero =>
      intro i hi
      show w_X3_houseNow_4_b K pk (w_X3_houseNow_4 K pk 0) (some M.1.1) (nI w) (paF S i) (nI (3 + i)) G
      have e : i = 4 := by omega
      subst e
      refine ⟨fun _ => ⟨4, rfl, by omega, fun q hq => ?_⟩, fun c => absurd (by decide) c⟩
      have fr1 : ∀ {G1 : tG}, (∀ a, a ≠ q → G1 a = G a) → MoR G1 M S th := fun hk => MoR_fresh h hq hk
      have k1 : ∀ {G1 : tG} {e : tE}, (∀ a, a ≠ q → G1 a = G a) → ∀ a, a ≠ q → tg_up G1 q e a = G a := fun hk a ha => by rw [tg_n _ _ ha]; exact hk a ha
      have kA : ∀ {e : tE}, ∀ a, a ≠ q → tg_up G q e a = G a := fun a ha => tg_n _ _ ha
      refine m_kn (fr1 kA) (asI_i (j := 0) (tg_s _ _ _) rfl (by omega) (by omega) ?_)
      refine m_rf (fr1 (k1 kA)) (asI_i (j := 1) (tg_s _ _ _) rfl (by omega) (by omega) ?_)
      refine asI_i (j := 2) (tg_s _ _ _) rfl (by omega) (by omega) ?_
      refine m_rlen (r := 0) (fr1 (k1 (k1 (k1 kA)))) (by omega) ?_
      refine m_rlen (r := 1) (fr1 (k1 (k1 (k1 kA)))) (by omega) ?_
      refine m_rlen (r := 2) (fr1 (k1 (k1 (k1 kA)))) (by omega) ?_
      refine asI_i (j := 3) (tg_s _ _ _) rfl (by omega) (by omega) ?_
      refine alI_i (tg_s _ _ _) rfl hw (by omega) ?_
      have hf : ∀ G' : tG, (∀ a, a ≠ q → G' a = G a) → pk (hoF S (nI w)) G' := fun G' hk => hp q G' hq hk (fr1 hk)
      have e3 : prF S 3 = nI (lnF (S.1 0)) + nI (lnF (S.1 1)) + nI (lnF (S.1 2)) := by
        show 0 + nI (lnF (S.1 0)) + nI (lnF (S.1 1)) + nI (lnF (S.1 2)) = _
        rw [Int32.zero_add]
      rcases (show w = 0 ∨ w = 1 ∨ w = 2 ∨ w = 3 by omega) with rfl | rfl | rfl | rfl
      · exact hf _ (k1 (k1 (k1 (k1 kA))))
      · exact hf _ (k1 (k1 (k1 (k1 kA))))
      · exact hf _ (k1 (k1 (k1 (k1 kA))))
      · have e4 : hoF S (nI 3) = prF S 3 := rfl
        rw [e4, e3] at hf
        exact hf _ (k1 (k1 (k1 (k1 kA))))
    | succ k ih =>
      intro i hi
      show w_X3_houseNow_4_b K pk (w_X3_houseNow_4 K pk (k + 1)) (some M.1.1) (nI w) (paF S i) (nI (3 + i)) G
      have hi2 := ih (i + 1) (by omega)
      refine ⟨fun c => absurd (show nI 7 ≤ nI (3 + i) from c) (nI_ge (by omega) (by omega)), fun _ => ?_⟩
      cases hq : S.1 (3 + i) with
      | none =>
        have e : paF S (i + 1) = paF S i + 0 := by show _ + (if _ then _ else _) = _; rw [if_pos hq]
        rw [e] at hi2
        refine m_rowN h (by omega) hq ⟨fun _ => m_one (fun _ => ?_) (fun z => absurd rfl z), fun z => absurd rfl z⟩
        rw [nI_1]; exact hi2
      | some s =>
        obtain ⟨r, b, n⟩ := s
        have e : paF S (i + 1) = paF S i + 1 := by show _ + (if _ then _ else _) = _; rw [if_neg (by rw [hq]; exact fun z => by cases z)]
        rw [e] at hi2
        have hr := (S_12 h.1 (show 3 + i < 7 by omega) hq).1
        refine m_row h (by omega) hq ⟨fun z => ?_, fun _ => m_one (fun z => absurd z (by decide)) (fun _ => ?_)⟩
        · exact absurd (show nI r < 0 by rw [z]; decide) (nI_pos (by omega))
        · rw [nI_1]; exact hi2
  exact ⟨5, main 4 0 (by omega)⟩
theorem m_house {v : Int32} (h : MoR G M S th) (hp : mRes M G post (if inR v 0 3 then (0, hoF S v, S) else (1, 0, S))) : w_X3_house K post (some M.1.1) v G := by
  refine m_isIn (fun q => ⟨fun _ => ?_, fun z => absurd z (by decide)⟩) (fun q => ⟨fun z => absurd rfl z, fun _ => ?_⟩)
  · rw [if_pos q] at hp
    obtain ⟨w, hw, rfl⟩ := nI_of2 (M := 3) (n := 3) rfl q.1 q.2
    exact m_rcv h (m_fails h (fun G1 f1 h1 => ⟨fun _ => m_rcv h1 (m_houseNow (by omega) h1 (fun q G2 q0 q3 h2 => mr hp (fr_al f1 q0 q3) h2)), fun z => absurd (by decide) z⟩))
  · rw [if_neg q] at hp
    exact m_rcv h (m_fails h (fun G1 f1 h1 => ⟨fun z => absurd z (by decide), fun _ => mr hp f1 h1⟩))
theorem m_rowOf {v : Int32} (h : MoR G M S th) (hp : mRes M G post (if inR v 0 6 then (0, ro1 (S_at S v), S) else (1, 0, S))) : w_X3_rowOf K post (some M.1.1) v G := by
  refine m_isIn (fun q => ⟨fun _ => ?_, fun z => absurd z (by decide)⟩) (fun q => ⟨fun z => absurd rfl z, fun _ => ?_⟩)
  · rw [if_pos q] at hp
    obtain ⟨w, hw, rfl⟩ := nI_of2 (M := 6) (n := 6) rfl q.1 q.2
    rw [S_at_nI S (by omega)] at hp
    refine m_rcv h (m_fails h (fun G1 f1 h1 => ⟨fun _ => ?_, fun z => absurd (by decide) z⟩))
    cases hq : S.1 w with
    | none =>
      rw [hq] at hp
      exact m_rowN h1 (by omega) hq (mr hp f1 h1)
    | some s =>
      obtain ⟨r, b, n⟩ := s
      rw [hq] at hp
      exact m_row h1 (by omega) hq (mr hp f1 h1)
  · rw [if_neg q] at hp
    exact m_rcv h (m_fails h (fun G1 f1 h1 => ⟨fun z => absurd z (by decide), fun _ => mr hp f1 h1⟩))
theorem m_beginNow {pk : Int32 → tG → Prop} {j : Nat} (hj : j < 7) (h : MoR G M S th) (hp : pk (be1 (S.1 j)) G) : w_X3_beginNow K pk (some M.1.1) (nI j) G := by
  cases hq : S.1 j with
  | none =>
    rw [hq] at hp
    exact m_rowN h hj hq ⟨fun z => absurd rfl z, fun _ => hp⟩
  | some s =>
    obtain ⟨r, b, n⟩ := s
    rw [hq] at hp
    have hr := (S_12 h.1 hj hq).1
    refine m_row h hj hq ⟨fun _ => m_beg h hj hq hp, fun z => ?_⟩
    exact absurd (show nI r < 0 by rw [z]; decide) (nI_pos (by omega))
theorem m_begin {v : Int32} (h : MoR G M S th) (hp : mRes M G post (if inR v 0 6 then (0, be1 (S_at S v), S) else (1, 0, S))) : w_X3_begin K post (some M.1.1) v G := by
  refine m_isIn (fun q => ⟨fun _ => ?_, fun z => absurd z (by decide)⟩) (fun q => ⟨fun z => absurd rfl z, fun _ => ?_⟩)
  · rw [if_pos q] at hp
    obtain ⟨w, hw, rfl⟩ := nI_of2 (M := 6) (n := 6) rfl q.1 q.2
    rw [S_at_nI S (by omega)] at hp
    exact m_rcv h (m_fails h (fun G1 f1 h1 => ⟨fun _ => m_rcv h1 (m_beginNow (by omega) h1 (mr hp f1 h1)), fun z => absurd (by decide) z⟩))
  · rw [if_neg q] at hp
    exact m_rcv h (m_fails h (fun G1 f1 h1 => ⟨fun z => absurd z (by decide), fun _ => mr hp f1 h1⟩))
theorem m_isSound {pk : Int32 → tG → Prop} (h : MoR G M S th) (hp : ∀ G', fr (moW M) G G' → MoR G' M S 0 → pk 1 G') : w_X3_isSound K pk (some M.1.1) G := by
  obtain ⟨-, ⟨sm, h2⟩, -⟩ := id h
  exact pfV_i h2 (Nat.le_of_ble_eq_true rfl) ⟨by decide, hp _ (fr_up _ (Or.inl rfl)) (MoR_own h S.2.2.1 S.2.2.2 0 sm)⟩
/-- with the model's running sum -/
def MoS (G : tG) (M : tM) (S : tS) (th : Int32) (sm : Int64) : Prop := MoR G M S th ∧ G M.1.1 = some (oMo M S.2.2.1 S.2.2.2 th sm)
theorem m_add_ {pv : tG → Prop} {sm x : Int64} (h : MoS G M S th sm) (hp : ∀ G', fr (moW M) G G' → MoS G' M S th (mxF sm x) → pv G') : w_X3_add_ K pv (some M.1.1) x G := by
  refine gfL_i h.2 rfl (pfV_i h.2 (Nat.le_of_ble_eq_true rfl) ?_)
  exact hp _ (fr_up _ (Or.inl rfl)) ⟨MoR_own h.1 S.2.2.1 S.2.2.2 th _, tg_s _ _ _⟩
theorem MoS_R {sm : Int64} (h : MoS G M S th sm) : MoR G M S th := h.1
theorem MoS_fr {G1 : tG} {sm : Int64} (h : MoS G M S th sm) {q : Nat} (hq : G q = none) (hk : ∀ a, a ≠ q → G1 a = G a) : MoS G1 M S th sm := by
  refine ⟨MoR_fresh h.1 hq hk, ?_⟩
  rw [hk _ (fun c => by rw [← c, h.2] at hq; cases hq)]; exact h.2
end MOK
end GRP21x10
section GRP21x11
/-! the model: digest -/
section MOL
variable {K : tK} {G : tG} {M : tM} {S : tS} {th : Int32}
theorem m_digest {pk : Int64 → tG → Prop} (h : MoR G M S th) (hp : ∀ G', fr (moW M) G G' → MoR G' M S 0 → pk (diF S) G') : w_X3_digest K pk (some M.1.1) G := by
  have m3 : ∀ k i nc ns G1, i + k = 7 → nc ≤ 4 + 2 * i → ns ≤ 16 + 24 * i → fr (moW M) G G1 → MoS G1 M S 0 (hd3 S (hd2 S (hd1 S 7778 4) 3) i) → w_X3_digest_110 K pk (k + 1) nc ns (some M.1.1) (nI i) G1 := by
    intro k
    induction k with
    | zero =>
      intro i nc ns G1 hi h1 h2 hf h3
      show w_X3_digest_110_b K pk (w_X3_digest_110 K pk 0) nc ns (some M.1.1) (nI i) G1
      have e : i = 7 := by omega
      subst e
      exact ⟨fun _ => m_rcv h3.1 (m_add_ h3 (fun G2 f2 h4 => gfL_i h4.2 rfl (hp G2 (fr_tr hf f2) h4.1))), fun c => absurd (by decide) c⟩
    | succ k ih =>
      intro i nc ns G1 hi h1 h2 hf h3
      show w_X3_digest_110_b K pk (w_X3_digest_110 K pk (k + 1)) nc ns (some M.1.1) (nI i) G1
      refine ⟨fun c => absurd (show nI 7 ≤ nI i from c) (nI_ge (by omega) (by omega)), fun _ => ?_⟩
      cases hq : S.1 i with
      | none =>
        have e : hd3 S (hd2 S (hd1 S 7778 4) 3) (i + 1) = mxF (mxF (hd3 S (hd2 S (hd1 S 7778 4) 3) i) (-1 : Int32).toInt64) (-1 : Int32).toInt64 := by
          show mlF S _ i = _
          unfold mlF; rw [hq]
        refine m_rowN h3.1 (by omega) hq (m_rcv h3.1 (m_add_ h3 (fun G2 f2 h4 => m_rcv h4.1 (m_beginNow (by omega) h4.1 (m_rcv h4.1 ?_)))))
        rw [hq]
        refine m_add_ h4 (fun G3 f3 h5 => m_rowN h5.1 (by omega) hq ⟨fun z => absurd rfl z, fun _ => ?_⟩)
        show w_X3_digest_110 K pk (k + 1) nc ns (some M.1.1) (nI i + 1) G3
        rw [nI_1]
        exact ih (i + 1) nc ns G3 (by omega) (by omega) (by omega) (fr_tr hf (fr_tr f2 f3)) (by rw [e]; exact h5)
      | some s =>
        obtain ⟨r, b, n⟩ := s
        have hr := (S_12 h.1 (show i < 7 by omega) hq).1
        have e : hd3 S (hd2 S (hd1 S 7778 4) 3) (i + 1) = mxF (mxF (mxF (mxF (mxF (hd3 S (hd2 S (hd1 S 7778 4) 3) i) (nI r).toInt64) (nI b).toInt64) (nI n).toInt64) (coF (S_v S r b) n).toInt64) (suF (S_v S r b) n).toInt64 := by
          show mlF S _ i = _
          unfold mlF; rw [hq]
        refine m_row h3.1 (by omega) hq (m_rcv h3.1 (m_add_ h3 (fun G2 f2 h4 => m_rcv h4.1 (m_beginNow (by omega) h4.1 (m_rcv h4.1 ?_)))))
        rw [hq]
        refine m_add_ h4 (fun G3 f3 h5 => m_row h5.1 (by omega) hq ⟨fun _ => ?_, fun z => ?_⟩)
        · refine m_len h5.1 (by omega) hq (m_rcv h5.1 (m_add_ h5 (fun G4 f4 h6 => ⟨⟨by omega, by omega⟩, m_rcv h6.1 (m_codeNow h6.1 (by omega) hq (fun q G5 q0 q3 h7 => m_rcv h7 (m_add_ (MoS_fr h6 q0 q3) (fun G6 f6 h8 => ⟨⟨by omega, by omega⟩, m_rcv h8.1 (m_sumNow h8.1 (by omega) hq (fun q' G7 p0 p3 h9 => m_rcv h9 (m_add_ (MoS_fr h8 p0 p3) (fun G8 f8 ha => ?_))))⟩))))⟩)))
          show w_X3_digest_110 K pk (k + 1) (nc + 1 + 1) (ns + 12 + 12) (some M.1.1) (nI i + 1) G8
          rw [nI_1]
          exact ih (i + 1) (nc + 1 + 1) (ns + 12 + 12) G8 (by omega) (by omega) (by omega) (fr_tr hf (fr_tr f2 (fr_tr f3 (fr_tr f4 (fr_tr (fr_al (fr_rf _ _) q0 q3) (fr_tr f6 (fr_tr (fr_al (fr_rf _ _) p0 p3) f8))))))) (by rw [e]; exact ha)
        · exact absurd (show nI r < 0 by rw [z]; decide) (nI_pos (by omega))
  have m2 : ∀ k i nc ns G1, i + k = 3 → nc ≤ 4 → ns ≤ 16 → fr (moW M) G G1 → MoS G1 M S 0 (hd2 S (hd1 S 7778 4) i) → w_X3_digest_45 K pk (k + 1) nc ns (some M.1.1) (some M.1.2.1) 3 (nI i) G1 := by
    intro k
    induction k with
    | zero =>
      intro i nc ns G1 hi h1 h2 hf h3
      show w_X3_digest_45_b K pk (w_X3_digest_45 K pk 0) nc ns (some M.1.1) (some M.1.2.1) 3 (nI i) G1
      have e : i = 3 := by omega
      subst e
      exact ⟨fun _ => ⟨8, m3 7 0 nc ns G1 (by omega) (by omega) (by omega) hf h3⟩, fun c => absurd (by decide) c⟩
    | succ k ih =>
      intro i nc ns G1 hi h1 h2 hf h3
      show w_X3_digest_45_b K pk (w_X3_digest_45 K pk (k + 1)) nc ns (some M.1.1) (some M.1.2.1) 3 (nI i) G1
      refine ⟨fun c => absurd (show nI 3 ≤ nI i from c) (nI_ge (by omega) (by omega)), fun _ => ?_⟩
      obtain ⟨-, -, ⟨mf, k3, k4⟩, -⟩ := id h3.1
      obtain ⟨n, d1, d2⟩ := h3.1.1.1 i (by omega)
      obtain ⟨f, g1, g2, g3⟩ := m_rowA h3.1 (show i < 3 by omega) d1
      refine alR_i k3 rfl (show i < 3 by omega) (by omega) ?_
      rw [k4 i (by omega)]
      refine lenA_i g1 (m_rcv h3.1 (m_add_ h3 (fun G2 f2 h4 => ?_)))
      obtain ⟨f', g1', g2', -⟩ := m_rowA h4.1 (show i < 3 by omega) d1
      refine lenA_i g1' ?_
      have e : hd2 S (hd1 S 7778 4) (i + 1) = mrF (S.2.1 i) (mxF (hd2 S (hd1 S 7778 4) i) (nI n).toInt64) n := by
        show mrF (S.2.1 i) (mxF (hd2 S (hd1 S 7778 4) i) (nI (lnF (S.1 i))).toInt64) (lnF (S.1 i)) = _
        rw [d1]; rfl
      have inner : ∀ k' t G3, t + k' = n → fr (moW M) G G3 → MoS G3 M S 0 (mrF (S.2.1 i) (mxF (hd2 S (hd1 S 7778 4) i) (nI n).toInt64) t) → w_X3_digest_75 K pk (w_X3_digest_45 K pk (k + 1)) (k' + 1) nc ns (some M.1.1) (some M.1.2.1) 3 (nI i) (some (M.2 i)) (nI n) (nI t) G3 := by
        intro k'
        induction k' with
        | zero =>
          intro t G3 ht f3 h5
          show w_X3_digest_75_b K pk (w_X3_digest_45 K pk (k + 1)) (w_X3_digest_75 K pk (w_X3_digest_45 K pk (k + 1)) 0) nc ns (some M.1.1) (some M.1.2.1) 3 (nI i) (some (M.2 i)) (nI n) (nI t) G3
          have et : t = n := by omega
          subst et
          refine ⟨fun _ => ?_, fun c => absurd (nI_le (by omega) (by omega)) c⟩
          rw [nI_1]
          exact ih (i + 1) nc ns G3 (by omega) h1 h2 f3 (by rw [e]; exact h5)
        | succ k' ih' =>
          intro t G3 ht f3 h5
          show w_X3_digest_75_b K pk (w_X3_digest_45 K pk (k + 1)) (w_X3_digest_75 K pk (w_X3_digest_45 K pk (k + 1)) (k' + 1)) nc ns (some M.1.1) (some M.1.2.1) 3 (nI i) (some (M.2 i)) (nI n) (nI t) G3
          refine ⟨fun c => absurd c (nI_ge (by omega) (by omega)), fun _ => ?_⟩
          obtain ⟨f'', e1, e2, -⟩ := m_rowA h5.1 (show i < 3 by omega) d1
          refine alI_i e1 rfl (by omega) (by omega) (m_rcv h5.1 (m_add_ h5 (fun G4 f4 h6 => ?_)))
          rw [nI_1]
          refine ih' (t + 1) G4 (by omega) (fr_tr f3 f4) ?_
          have e3 : f'' t = S.2.1 i t := e2 t (by omega)
          rw [e3] at h6
          exact h6
      exact ⟨n + 1, inner n 0 G2 (by omega) (fr_tr hf f2) h4⟩
  have m1 : ∀ k i nc ns G1, i + k = 4 → nc ≤ i → ns ≤ 4 * i → fr (moW M) G G1 → MoS G1 M S 0 (hd1 S 7778 i) → w_X3_digest_14 K pk (k + 1) nc ns (some M.1.1) (nI i) G1 := by
    intro k
    induction k with
    | zero =>
      intro i nc ns G1 hi h1 h2 hf h3
      show w_X3_digest_14_b K pk (w_X3_digest_14 K pk 0) nc ns (some M.1.1) (nI i) G1
      have e : i = 4 := by omega
      subst e
      obtain ⟨-, -, ⟨mf, k3, k4⟩, -⟩ := id h3.1
      refine ⟨fun _ => gfR_i _ h3.2 rfl (lenA_i k3 ⟨4, m2 3 0 nc ns G1 (by omega) (by omega) (by omega) hf h3⟩), fun c => absurd (by decide) c⟩
    | succ k ih =>
      intro i nc ns G1 hi h1 h2 hf h3
      show w_X3_digest_14_b K pk (w_X3_digest_14 K pk (k + 1)) nc ns (some M.1.1) (nI i) G1
      refine ⟨fun c => absurd (show nI 4 ≤ nI i from c) (nI_ge (by omega) (by omega)), fun _ => ⟨⟨by omega, by omega⟩, m_rcv h3.1 (m_houseNow (by omega) h3.1 (fun q G2 q0 q3 h4 => m_rcv h4 (m_add_ (MoS_fr h3 q0 q3) (fun G3 f3 h5 => ?_))))⟩⟩
      rw [nI_1]
      exact ih (i + 1) (nc + 1) (ns + 4) G3 (by omega) (by omega) (by omega) (fr_tr hf (fr_tr (fr_al (fr_rf _ _) q0 q3) f3)) h5
  obtain ⟨-, ⟨sm, h2⟩, -⟩ := id h
  refine pfV_i h2 (Nat.le_of_ble_eq_true rfl) (pfV_i (tg_s _ _ _) (Nat.le_of_ble_eq_true rfl) ⟨5, ?_⟩)
  have h3 := MoR_own (MoR_own h S.2.2.1 S.2.2.2 0 sm) S.2.2.1 S.2.2.2 0 7778
  exact m1 4 0 0 0 _ (by omega) (by omega) (by omega) (fr_tr (fr_up _ (Or.inl rfl)) (fr_up _ (Or.inl rfl))) ⟨h3, tg_s _ _ _⟩
end MOL
end GRP21x11
section GRP21x12
/-! the model: part, lay -/
def MoC (G : tG) (M : tM) (S : tS) (th : Int32) : Prop := (∃ sm, G M.1.1 = some (oMo M S.2.2.1 S.2.2.2 th sm)) ∧ (∃ mf, G M.1.2.1 = some (eR mf) ∧ ∀ r, r < 3 → mf r = some (M.2 r)) ∧
  (∃ fo fb fl, (G M.1.2.2.1 = some (eI 7 fo) ∧ G M.1.2.2.2.1 = some (eI 7 fb) ∧ G M.1.2.2.2.2 = some (eI 7 fl)) ∧ moL S fo fb fl) ∧
  (∀ r, r < 3 → ∃ f, G (M.2 r) = some (eI (lnF (S.1 r)) f) ∧ ∀ i, i < lnF (S.1 r) → f i = S.2.1 r i) ∧
  (M.1.2.2.1 ≠ M.1.2.2.2.1 ∧ M.1.2.2.1 ≠ M.1.2.2.2.2 ∧ M.1.2.2.2.1 ≠ M.1.2.2.2.2) ∧ (∀ r, r < 3 → M.2 r ≠ M.1.2.2.1 ∧ M.2 r ≠ M.1.2.2.2.1 ∧ M.2 r ≠ M.1.2.2.2.2) ∧ (∀ r r', r < 3 → r' < 3 → M.2 r = M.2 r' → r = r')
theorem MoR_C {G : tG} {M : tM} {S : tS} {th : Int32} (h : MoR G M S th) : MoC G M S th := h.2
theorem MoC_R {G : tG} {M : tM} {S : tS} {th : Int32} (h : MoC G M S th) (hs : S_ok S) : MoR G M S th := ⟨hs, h⟩
theorem MoC_lst {G G1 : tG} {M : tM} {S : tS} {th : Int32} {p : Nat} {q : Option (Nat × Nat × Nat)} {fo fb fl : Nat → Int32} (h : MoC G M S th) (hp : 3 ≤ p) (h5 : G1 M.1.2.2.1 = some (eI 7 fo)) (h6 : G1 M.1.2.2.2.1 = some (eI 7 fb)) (h7 : G1 M.1.2.2.2.2 = some (eI 7 fl)) (hl : moL (S_lst S p q) fo fb fl) (hk : ∀ a, a ≠ M.1.2.2.1 → a ≠ M.1.2.2.2.1 → a ≠ M.1.2.2.2.2 → G1 a = G a) : MoC G1 M (S_lst S p q) th := by
  obtain ⟨⟨sm, h2⟩, ⟨mf, h3, h4⟩, ⟨fo0, fb0, fl0, ⟨g5, g6, g7⟩, -⟩, h9, h10, h11, h12⟩ := h
  refine ⟨⟨sm, ?_⟩, ⟨mf, ?_, h4⟩, ⟨fo, fb, fl, ⟨h5, h6, h7⟩, hl⟩, fun r hr => ?_, h10, h11, h12⟩
  · rw [hk _ (ne_OI h2 g5) (ne_OI h2 g6) (ne_OI h2 g7)]; exact h2
  · rw [hk _ (ne_of_G h3 g5 (fun e => by cases e)) (ne_of_G h3 g6 (fun e => by cases e)) (ne_of_G h3 g7 (fun e => by cases e))]; exact h3
  · obtain ⟨f, e1, e2⟩ := h9 r hr
    have e0 : (S_lst S p q).1 r = S.1 r := by show (if r = p then q else S.1 r) = _; rw [if_neg (by omega)]
    rw [e0]
    refine ⟨f, ?_, e2⟩
    have d := h11 r hr
    rw [hk _ d.1 d.2.1 d.2.2]; exact e1
theorem upd_s {f : Nat → Int32} {j : Nat} {x : Int32} : upd f j x j = x := by simp [upd]
theorem upd_n {f : Nat → Int32} {j k : Nat} {x : Int32} (h : k ≠ j) : upd f j x k = f k := by simp [upd, h]
section MOM
variable {K : tK} {G : tG} {M : tM} {S : tS} {th : Int32} {post : Int32 → tG → Prop}
theorem sp_part_1 {p v x y : Int32} (h : ¬ (3 ≤ p.toInt ∧ p.toInt < 7) ∨ S_at S v = none) : sp_part S p v x y = (1, 0, S) := by
  unfold sp_part
  by_cases c : 3 ≤ p.toInt ∧ p.toInt < 7
  · rw [if_pos c]
    rcases h with d | d
    · exact absurd c d
    · rw [d]; rfl
  · rw [if_neg c]
theorem m_part {p v x y : Int32} (h : MoR G M S th) (hp : mRes M G post (sp_part S p v x y)) : w_X3_part K post (some M.1.1) p v x y G := by
  have bad1 : sp_part S p v x y = (1, 0, S) → w_X3_part_18 K post (some M.1.1) p v x y G := fun e => by
    rw [e] at hp
    refine ⟨fun _ => m_rcv h (m_fails h (fun G1 f1 h1 => ⟨fun z => absurd z (by decide), fun _ => mr hp f1 h1⟩)), fun z => absurd z (by decide)⟩
  have e3 : (3 : Int32).toInt = 3 := rfl
  have e6 : (6 : Int32).toInt = 6 := rfl
  refine m_isIn (fun q => ⟨fun z => absurd z (by decide), fun _ => ?_⟩) (fun q => ⟨fun _ => bad1 (sp_part_1 (Or.inl (fun z => q ⟨by rw [i32_lt]; omega, by rw [i32_le]; omega⟩))), fun z => absurd rfl z⟩)
  refine m_rcv h (m_isNoList h (fun c => ⟨fun z => absurd z (by decide), fun _ => bad1 (sp_part_1 (Or.inr c))⟩) (fun j r b n hj ev hs => ⟨fun _ => ?_, fun z => absurd rfl z⟩))
  subst ev
  have hn12 := (S_12 h.1 hj hs).2
  have q1 := q.1
  have q2 := q.2
  rw [i32_lt] at q1
  rw [i32_le] at q2
  have hpn : ∃ p0, 3 ≤ p0 ∧ p0 < 7 ∧ p = nI p0 := by
    obtain ⟨w, hw, e⟩ := nI_of (x := p) (by rw [i32_lt]; have : (0 : Int32).toInt = 0 := rfl; omega)
    subst e
    rw [nI_toInt hw] at q1 q2
    exact ⟨w, by omega, by omega, rfl⟩
  obtain ⟨p0, hp3, hp7, ep⟩ := hpn
  subst ep
  unfold sp_part at hp
  rw [nI_toInt (by omega), if_pos (by omega), S_at_nI S hj, hs] at hp
  have bad2 : ¬ (inR y 0 (nI n) ∧ inR x 0 y) → w_X3_part_62 K post (some M.1.1) (nI p0) (nI j) x y (some M.1.1) 0 G := fun e => by
    simp only [sp_li, if_neg e] at hp
    exact m_rcv h (m_fails h (fun G1 f1 h1 => ⟨fun z => absurd z (by decide), fun _ => mr hp f1 h1⟩))
  have e0 : (0 : Int32).toInt = 0 := rfl
  refine ⟨fun z => absurd rfl z, fun _ => m_len h hj hs (m_isIn (fun hx => ⟨fun z => absurd z (by decide), fun _ => m_len h hj hs (m_isIn (fun hy => ⟨fun _ => ?_, fun z => absurd z (by decide)⟩) (fun hy => ⟨fun z => absurd rfl z, fun _ => bad2 (fun z => hy ?_)⟩))⟩) (fun hx => ⟨fun _ => bad2 (fun z => hx ?_), fun z => absurd rfl z⟩))⟩
  · obtain ⟨a, ha, rfl⟩ := nI_of2 (nI_toInt (n := n) (by omega)) hx.1 hx.2
    have hy1 := hy.1
    have hy2 := hy.2
    rw [i32_lt, nI_toInt (by omega)] at hy1
    rw [i32_le, nI_toInt (by omega)] at hy2
    obtain ⟨e, he, rfl⟩ : ∃ e, e < 2 ^ 31 ∧ y = nI e := nI_of (by rw [i32_lt]; omega)
    rw [nI_toInt he] at hy1 hy2
    have hgood : inR (nI e) 0 (nI n) ∧ inR (nI a) 0 (nI e) := ⟨⟨nI_pos he, nI_le (by omega) (by omega)⟩, ⟨nI_pos (by omega), nI_le (by omega) (by omega)⟩⟩
    simp only [sp_li, if_pos hgood, nI_nat he, nI_nat (show a < 2 ^ 31 by omega)] at hp
    refine m_rcv h (m_fails h (fun G1 f1 h1 => ⟨fun _ => m_row h1 hj hs (m_beg h1 hj hs ?_), fun z => absurd (by decide) z⟩))
    obtain ⟨⟨sm, h2⟩, hrows, ⟨fo, fb, fl, ⟨h5, h6, h7⟩, h8⟩, h9, ⟨n1, n2, n3⟩, h11, h12⟩ := MoR_C h1
    refine gfR_i _ h2 rfl (asI_i h5 rfl hp7 (by omega) ?_)
    refine gfR_i _ (tg_keep h2 (ne_OI h2 h5)) rfl (asI_i (tg_keep h6 (fun e => n1 e.symm)) rfl hp7 (by omega) ?_)
    refine gfR_i _ (tg_keep (tg_keep h2 (ne_OI h2 h5)) (ne_OI h2 h6)) rfl (asI_i (tg_keep (tg_keep h7 (fun e => n2 e.symm)) (fun e => n3 e.symm)) rfl hp7 (by omega) ?_)
    rw [nI_subN (by omega), nI_add]
    refine mr hp (fr_tr f1 (fr_tr (fr_up _ (Or.inr (Or.inr (Or.inl rfl)))) (fr_tr (fr_up _ (Or.inr (Or.inr (Or.inr (Or.inl rfl))))) (fr_up _ (Or.inr (Or.inr (Or.inr (Or.inr (Or.inl rfl))))))))) ?_
    refine MoC_R (MoC_lst (MoR_C h1) hp3 (tg_keep (tg_keep (tg_s _ _ _) n1) n2) (tg_keep (tg_s _ _ _) n3) (tg_s _ _ _) (fun t ht => ?_) (fun t t1 t2 t3 => by rw [tg_n _ _ t3, tg_n _ _ t2, tg_n _ _ t1])) (S_part_ok h.1 hp3 hj hs (by omega) (by omega))
    by_cases c : t = p0
    · subst c
      refine Or.inr ⟨r, b + a, e - a, ?_, upd_s, upd_s, upd_s⟩
      show (if t = t then _ else _) = _
      rw [if_pos rfl]
    · rw [upd_n c, upd_n c, upd_n c]
      show (((if t = p0 then _ else S.1 t) = none ∧ _) ∨ ∃ r' b' n', (if t = p0 then _ else S.1 t) = _ ∧ _)
      rw [if_neg c]
      exact h8 t ht
  · obtain ⟨⟨z1, z2⟩, z3, z4⟩ := z
    exact ⟨by rw [i32_lt]; rw [i32_le] at z4; omega, z2⟩
  · obtain ⟨⟨z1, z2⟩, z3, z4⟩ := z
    exact ⟨z3, by rw [i32_le] at z2 z4 ⊢; omega⟩
end MOM
theorem S_map_v (S : tS) (r b : Nat) (F : Nat → Int32 → Int32) : ∀ k r' i, (S_map S r b F k).2.1 r' i = if r' = r ∧ b ≤ i ∧ i < b + k then F (i - b) (S.2.1 r i) else S.2.1 r' i
  | 0, r', i => by rw [if_neg (by omega)]; rfl
  | k + 1, r', i => by
    show (if r' = r then upd ((S_map S r b F k).2.1 r) (b + k) (F k ((S_map S r b F k).2.1 r (b + k))) else (S_map S r b F k).2.1 r') i = _
    by_cases c : r' = r
    · subst c
      rw [if_pos rfl]
      by_cases d : i = b + k
      · subst d
        rw [upd_s, S_map_v S r' b F k, if_neg (by omega), if_pos (by omega), show b + k - b = k by omega]
      · rw [upd_n d, S_map_v S r' b F k]
        by_cases e : b ≤ i ∧ i < b + k
        · rw [if_pos ⟨rfl, e⟩, if_pos (by omega)]
        · rw [if_neg (fun z => e z.2), if_neg (by omega)]
    · rw [if_neg c, S_map_v S r b F k, if_neg (fun z => c z.1), if_neg (fun z => c z.1)]
section MON
variable {K : tK} {G : tG} {M : tM} {S : tS} {th : Int32} {post : Int32 → tG → Prop}
theorem m_dropPartsOf {pk : Int32 → tG → Prop} {row : Nat} {v : Int32} (hv : v = nI row) (hrow : row < 3) (hb : ∀ j r b n, j < 7 → S.1 j = some (r, b, n) → r < 3) (h : MoC G M S th) (hp : ∀ G', fr (moW M) G G' → MoC G' M (dpF S row 4).1 th → pk (dpF S row 4).2 G') : ∃ n : Nat, w_X3_lay_59 K pk n (some M.1.1) v 0 3 G := by
  subst hv
  have main : ∀ k i G1, i + k = 4 → fr (moW M) G G1 → MoC G1 M (dpF S row i).1 th → w_X3_lay_59 K pk (k + 1) (some M.1.1) (nI row) (dpF S row i).2 (nI (3 + i)) G1 := by
    intro k
    induction k with
    | zero =>
      intro i G1 hi hf h1
      show w_X3_lay_59_b K pk (w_X3_lay_59 K pk 0) (some M.1.1) (nI row) (dpF S row i).2 (nI (3 + i)) G1
      have e : i = 4 := by omega
      subst e
      exact ⟨fun _ => hp G1 hf h1, fun c => absurd (by decide) c⟩
    | succ k ih =>
      intro i G1 hi hf h1
      show w_X3_lay_59_b K pk (w_X3_lay_59 K pk (k + 1)) (some M.1.1) (nI row) (dpF S row i).2 (nI (3 + i)) G1
      obtain ⟨⟨sm, h2⟩, hrows, ⟨fo, fb, fl, ⟨h5, h6, h7⟩, h8⟩, h9, ⟨n1, n2, n3⟩, h11, h12⟩ := id h1
      refine ⟨fun c => absurd (show nI 7 ≤ nI (3 + i) from c) (nI_ge (by omega) (by omega)), fun _ => gfR_i _ h2 rfl (alI_i h5 rfl (j := 3 + i) (by omega) (by omega) ?_)⟩
      rcases h8 (3 + i) (by omega) with ⟨e1, e2⟩ | ⟨r, b, n, e1, e2, e3, e4⟩
      · rw [e2]
        have hne : ¬ (-1 : Int32) = nI row := fun z => absurd (show nI row < 0 by rw [← z]; decide) (nI_pos (by omega))
        refine ⟨fun _ => ?_, fun z => absurd z hne⟩
        show w_X3_lay_59 K pk (k + 1) (some M.1.1) (nI row) (dpF S row i).2 (nI (3 + i) + 1) G1
        rw [nI_1]
        have := ih (i + 1) G1 (by omega) hf (by rw [dp_none e1]; exact h1)
        rw [dp_none e1] at this
        exact this
      · rw [e2]
        have hr3 : r < 3 := by
          rcases ((dp_sub S row i).2 (3 + i)).1 with q | q
          · rw [q] at e1; exact hb (3 + i) r b n (by omega) e1
          · rw [q.1] at e1; cases e1
        refine ⟨fun c => ?_, fun c => ?_⟩
        · have hne : ¬ r = row := fun q => c (by rw [q])
          show w_X3_lay_59 K pk (k + 1) (some M.1.1) (nI row) (dpF S row i).2 (nI (3 + i) + 1) G1
          rw [nI_1]
          have := ih (i + 1) G1 (by omega) hf (by rw [dp_no e1 hne]; exact h1)
          rw [dp_no e1 hne] at this
          exact this
        · have heq : r = row := (nI_eq (by omega) (by omega)).mp c
          refine gfR_i _ h2 rfl (asI_i (j := 3 + i) h5 rfl (by omega) (by omega) ?_)
          show w_X3_lay_59 K pk (k + 1) (some M.1.1) (nI row) ((dpF S row i).2 + 1) (nI (3 + i) + 1) _
          rw [nI_1]
          have := ih (i + 1) (tg_up G1 M.1.2.2.1 (eI 7 (upd fo (3 + i) (-1)))) (by omega) (fr_tr hf (fr_up _ (Or.inr (Or.inr (Or.inl rfl))))) (by
            rw [dp_yes e1 heq]
            refine MoC_lst h1 (by omega) (tg_s _ _ _) (tg_keep h6 (fun e => n1 e.symm)) (tg_keep h7 (fun e => n2 e.symm)) (fun t ht => ?_) (fun t t1 _ _ => tg_n _ _ t1)
            by_cases c : t = 3 + i
            · subst c
              refine Or.inl ⟨?_, upd_s⟩
              show (if 3 + i = 3 + i then none else _) = none
              rw [if_pos rfl]
            · rw [upd_n c]
              show (((if t = 3 + i then none else (dpF S row i).1.1 t) = none ∧ _) ∨ ∃ r' b' n', (if t = 3 + i then none else (dpF S row i).1.1 t) = _ ∧ _)
              rw [if_neg c]
              exact h8 t ht)
          rw [dp_yes e1 heq] at this
          exact this
  exact ⟨5, main 4 0 G (by omega) (fr_rf _ _) h⟩
end MON
end GRP21x12
section GRP21x13
/-! the model: lay -/
theorem S_map_ok {S : tS} (h : S_ok S) (r b : Nat) {x : Int32} (hx : okV x) : ∀ k, S_ok (S_map S r b (fun _ _ => x) k)
  | 0 => h
  | k + 1 => S_put_ok (S_map_ok h r b hx k) r (b + k) hx
section MOO
variable {K : tK} {G : tG} {M : tM} {S : tS} {th : Int32} {post : Int32 → tG → Prop}
theorem MoC_some (h : MoC G M S th) {x : Nat} (hx : moW M x) : ∃ e, G x = some e := by
  obtain ⟨⟨sm, h2⟩, ⟨mf, h3, -⟩, ⟨fo, fb, fl, ⟨h5, h6, h7⟩, -⟩, h9, -⟩ := h
  rcases hx with e | e | e | e | e | e | e | e <;> subst e
  · exact ⟨_, h2⟩
  · exact ⟨_, h3⟩
  · exact ⟨_, h5⟩
  · exact ⟨_, h6⟩
  · exact ⟨_, h7⟩
  · obtain ⟨f, g, -⟩ := h9 0 (by omega); exact ⟨_, g⟩
  · obtain ⟨f, g, -⟩ := h9 1 (by omega); exact ⟨_, g⟩
  · obtain ⟨f, g, -⟩ := h9 2 (by omega); exact ⟨_, g⟩
theorem MoC_no (h : MoC G M S th) {x : Nat} (hx : G x = none) : ¬ moW M x := fun c => by
  obtain ⟨e, he⟩ := MoC_some h c
  rw [hx] at he; cases he
/-- a row's new array is laid -/
theorem MoC_lay {r n m q : Nat} {G4 : tG} {mf : Nat → Option Nat} {fo fb fl : Nat → Int32} {sm : Int64} (h : MoR G M S th) (hr : r < 3) (hs : S.1 r = some (r, 0, n)) (hq : G q = none) (e2 : G4 M.1.1 = some (oMo M S.2.2.1 S.2.2.2 th sm)) (e3 : G4 M.1.2.1 = some (eR (va_up mf r (some q)))) (hmf : ∀ t, t < 3 → mf t = some (M.2 t)) (e5 : G4 M.1.2.2.1 = some (eI 7 fo)) (e6 : G4 M.1.2.2.2.1 = some (eI 7 fb)) (e7 : G4 M.1.2.2.2.2 = some (eI 7 (upd fl r (nI m)))) (hl : moL S fo fb fl) (eq : G4 q = some (eI m fun _ => 0)) (hk : ∀ t, t < 3 → G4 (M.2 t) = G (M.2 t)) : MoC G4 (M.1, fun t => if t = r then q else M.2 t) (S_lay S r m) th := by
  have hno := MoC_no (MoR_C h) hq
  obtain ⟨-, -, -, h9, n1, h11, h12⟩ := MoR_C h
  have e22 : (S_lay S r m).2.2 = S.2.2 := (S_map_1 S r 0 _ m).2
  have e1 : ∀ j, (S_lay S r m).1 j = if j = r then some (r, 0, m) else S.1 j := fun j => by
    show (if j = r then _ else (S_map S r 0 (fun _ _ => 0) m).1 j) = _
    rw [(S_map_1 S r 0 (fun _ _ => 0) m).1]
  have ev : ∀ r' i, (S_lay S r m).2.1 r' i = if r' = r ∧ 0 ≤ i ∧ i < 0 + m then 0 else S.2.1 r' i := fun r' i => S_map_v S r 0 (fun _ _ => 0) m r' i
  refine ⟨⟨sm, ?_⟩, ⟨_, e3, fun t ht => ?_⟩, ⟨fo, fb, _, ⟨e5, e6, e7⟩, fun j hj => ?_⟩, fun t ht => ?_, n1, fun t ht => ?_, fun t t' ht ht' e => ?_⟩
  · rw [e22]; exact e2
  · show va_up mf r (some q) t = some (if t = r then q else M.2 t)
    by_cases c : t = r
    · rw [c, va_up_s, if_pos rfl]
    · rw [va_up_n _ _ c, if_neg c]; exact hmf t ht
  · rw [e1]
    by_cases c : j = r
    · subst c
      rw [if_pos rfl]
      rcases hl j hj with ⟨z, -⟩ | ⟨r', b', n', c1, c2, c3, -⟩
      · rw [hs] at z; cases z
      · rw [hs] at c1; cases c1
        exact Or.inr ⟨j, 0, m, rfl, c2, c3, upd_s⟩
    · rw [if_neg c, upd_n c]
      exact hl j hj
  · show ∃ f, G4 (if t = r then q else M.2 t) = some (eI (lnF ((S_lay S r m).1 t)) f) ∧ ∀ i, i < lnF ((S_lay S r m).1 t) → f i = (S_lay S r m).2.1 t i
    rw [e1]
    by_cases c : t = r
    · subst c
      rw [if_pos rfl, if_pos rfl]
      refine ⟨_, eq, fun i hi => ?_⟩
      have hi : i < m := hi
      rw [ev, if_pos ⟨rfl, by omega, by omega⟩]
    · rw [if_neg c, if_neg c]
      obtain ⟨f, g1, g2⟩ := h9 t ht
      refine ⟨f, by rw [hk t ht]; exact g1, fun i hi => ?_⟩
      rw [ev, if_neg (fun z => c z.1)]; exact g2 i hi
  · show (if t = r then q else M.2 t) ≠ _ ∧ (if t = r then q else M.2 t) ≠ _ ∧ (if t = r then q else M.2 t) ≠ _
    by_cases c : t = r
    · rw [if_pos c]
      exact ⟨fun z => hno (Or.inr (Or.inr (Or.inl z))), fun z => hno (Or.inr (Or.inr (Or.inr (Or.inl z)))), fun z => hno (Or.inr (Or.inr (Or.inr (Or.inr (Or.inl z)))))⟩
    · rw [if_neg c]; exact h11 t ht
  · have e : (if t = r then q else M.2 t) = (if t' = r then q else M.2 t') := e
    by_cases c : t = r
    · by_cases c' : t' = r
      · rw [c, c']
      · rw [if_pos c, if_neg c'] at e
        exact absurd (e ▸ moW_r ht') hno
    · by_cases c' : t' = r
      · rw [if_neg c, if_pos c'] at e
        exact absurd (e ▸ moW_r ht) hno
      · rw [if_neg c, if_neg c'] at e
        exact h12 t t' ht ht' e
theorem m_lay {v w : Int32} (h : MoR G M S th) (hp : mRes M G post (sp_lay S v w)) : w_X3_lay K post (some M.1.1) v w G := by
  have e2 : (2 : Int32).toInt = 2 := rfl
  have e0 : (0 : Int32).toInt = 0 := rfl
  unfold sp_lay at hp
  refine m_isIn (fun q => ⟨fun _ => ?_, fun z => absurd z (by decide)⟩) (fun q => ⟨fun z => absurd rfl z, fun _ => ?_⟩)
  · obtain ⟨r, hr, rfl⟩ := nI_of2 (M := 2) (n := 2) rfl q.1 q.2
    obtain ⟨n, d1, d2⟩ := h.1.1 r (by omega)
    rw [S_tw_nI (by omega), d1] at hp
    refine m_isIn (fun hw => ⟨fun _ => ?_, fun z => absurd z (by decide)⟩) (fun hw => ⟨fun z => absurd rfl z, fun _ => ?_⟩)
    · simp only [if_pos hw] at hp
      obtain ⟨m, hm, rfl⟩ := nI_of2 (M := 12) (n := 12) rfl hw.1 hw.2
      rw [nI_nat (by omega)] at hp
      refine m_rcv h (m_fails h (fun G1 f1 h1 => ⟨fun _ => ?_, fun z => absurd (by decide) z⟩))
      obtain ⟨⟨sm, h2⟩, ⟨mf, h3, h4⟩, ⟨fo, fb, fl, ⟨h5, h6, h7⟩, h8⟩, h9, ⟨n1, n2, n3⟩, h11, h12⟩ := MoR_C h1
      refine gfR_i _ h2 rfl ⟨m, nI_toInt (by omega), by omega, fun q hq => ⟨(fun z => (by cases z)), ?_⟩⟩
      have hno := MoC_no (MoR_C h1) hq
      have k0 : ∀ {a : Nat} {e : tE}, G1 a = some e → a ≠ q := fun he c => by rw [c, hq] at he; cases he
      refine asR_i (j := r) (tg_keep h3 (k0 h3)) rfl (by omega) (by omega) (Or.inr ⟨q, _, rfl, tg_s _ _ _, ⟨_, rfl⟩⟩) ?_
      have d13 : M.1.1 ≠ M.1.2.1 := ne_OI h2 h3
      refine gfR_i _ (tg_keep (tg_keep h2 (k0 h2)) d13) rfl ?_
      have d73 : M.1.2.2.2.2 ≠ M.1.2.1 := ne_of_G h7 h3 (fun e => by cases e)
      have d63 : M.1.2.2.2.1 ≠ M.1.2.1 := ne_of_G h6 h3 (fun e => by cases e)
      have d53 : M.1.2.2.1 ≠ M.1.2.1 := ne_of_G h5 h3 (fun e => by cases e)
      refine asI_i (j := r) (tg_keep (tg_keep h7 (k0 h7)) d73) rfl (by omega) (by omega) ?_
      have dq3 : q ≠ M.1.2.1 := fun c => hno (Or.inr (Or.inl c))
      have dq7 : q ≠ M.1.2.2.2.2 := fun c => hno (Or.inr (Or.inr (Or.inr (Or.inr (Or.inl c)))))
      have hC := MoC_lay (m := m) (G4 := tg_up (tg_up (tg_up G1 q (eI m fun _ => 0)) M.1.2.1 (eR (va_up mf r (some q)))) M.1.2.2.2.2 (eI 7 (upd fl r (nI m)))) h1 (show r < 3 by omega) d1 hq (tg_keep (tg_keep (tg_keep h2 (k0 h2)) d13) (ne_OI h2 h7)) (tg_keep (tg_s _ _ _) d73.symm) h4 (tg_keep (tg_keep (tg_keep h5 (k0 h5)) d53) n2) (tg_keep (tg_keep (tg_keep h6 (k0 h6)) d63) n3) (tg_s _ _ _) h8 (tg_keep (tg_keep (tg_s _ _ _) dq3) dq7) (fun t ht => by
        obtain ⟨f, g1, -⟩ := h9 t ht
        rw [tg_n _ _ (h11 t ht).2.2, tg_n _ _ (ne_of_G g1 h3 (fun e => by cases e)), tg_n _ _ (k0 g1)])
      refine m_dropPartsOf (M := (M.1, fun t => if t = r then q else M.2 t)) rfl (show r < 3 by omega) (fun j r' b' n' hj e => ?_) hC (fun G5 f5 h5' => ?_)
      · have e : (if j = r then some (r, 0, m) else (S_map S r 0 (fun _ _ => 0) m).1 j) = some (r', b', n') := e
        by_cases c : j = r
        · rw [if_pos c] at e; cases e; omega
        · rw [if_neg c, (S_map_1 S r 0 (fun _ _ => 0) m).1] at e
          exact (h.1.2.1 j r' b' n' hj e).1
      · have hmw : ∀ x, moW (M.1, fun t => if t = r then q else M.2 t) x → moW M x ∨ x = q := by
          have hrow : ∀ t, t < 3 → ∀ x, x = (if t = r then q else M.2 t) → moW M x ∨ x = q := fun t ht x e => by
            by_cases c : t = r
            · rw [if_pos c] at e; exact Or.inr e
            · rw [if_neg c] at e; exact Or.inl (e ▸ moW_r ht)
          rintro x (e | e | e | e | e | e | e | e)
          · exact Or.inl (Or.inl e)
          · exact Or.inl (Or.inr (Or.inl e))
          · exact Or.inl (Or.inr (Or.inr (Or.inl e)))
          · exact Or.inl (Or.inr (Or.inr (Or.inr (Or.inl e))))
          · exact Or.inl (Or.inr (Or.inr (Or.inr (Or.inr (Or.inl e)))))
          · exact hrow 0 (by omega) x e
          · exact hrow 1 (by omega) x e
          · exact hrow 2 (by omega) x e
        have hGq : G q = none := fr_none f1 hq hno
        refine hp G5 (M.1, fun t => if t = r then q else M.2 t) rfl ?_ (fun x hx => (hmw x hx).elim Or.inl (fun e => Or.inr (e ▸ hGq))) (MoC_R h5' (S_lay_ok h.1 (S_map_ok h.1 r 0 (Or.inr ⟨by decide, by decide⟩) m) (by omega) hm))
        intro x e hx hn
        have hxq : x ≠ q := fun c => by rw [c, hGq] at hx; cases hx
        have hx1 := f1 x e hx hn
        have hx4 : tg_up (tg_up (tg_up G1 q (eI m fun _ => 0)) M.1.2.1 (eR (va_up mf r (some q)))) M.1.2.2.2.2 (eI 7 (upd fl r (nI m))) x = some e := by
          rw [tg_n _ _ (fun c => hn (Or.inr (Or.inr (Or.inr (Or.inr (Or.inl c)))))), tg_n _ _ (fun c => hn (Or.inr (Or.inl c))), tg_n _ _ hxq]
          exact hx1
        exact f5 x e hx4 (fun c => (hmw x c).elim hn hxq)
    · simp only [if_neg hw] at hp
      exact m_rcv h (m_fails h (fun G1 f1 h1 => ⟨fun z => absurd z (by decide), fun _ => mr hp f1 h1⟩))
  · have hc : S_tw S v = none := by
      unfold S_tw
      rw [if_neg]
      intro z
      exact q ⟨by rw [i32_lt]; omega, by rw [i32_le]; omega⟩
    rw [hc] at hp
    have hbad : ∀ u, w_X3_lay_30 K post (some M.1.1) v w (some M.1.1) 1 u G := fun u => m_rcv h (m_fails h (fun G1 f1 h1 => ⟨fun z => absurd (show (1 : Int32) = 0 from z) (by decide), fun _ => mr (a := (1, 0, S)) hp f1 h1⟩))
    exact m_isIn (fun hw => ⟨fun _ => hbad 0, fun z => absurd z (by decide)⟩) (fun hw => ⟨fun z => absurd rfl z, fun _ => hbad 1⟩)
end MOO
end GRP21x13
section GRP21x14
/-! the model: what changes values -/
theorem S_put_v (S : tS) (r k : Nat) (x : Int32) (r' i : Nat) : (S_put S r k x).2.1 r' i = if r' = r ∧ i = k then x else S.2.1 r' i := by
  show (if r' = r then upd (S.2.1 r) k x else S.2.1 r') i = _
  by_cases c : r' = r
  · subst c
    rw [if_pos rfl]
    by_cases d : i = k
    · subst d; rw [upd_s, if_pos ⟨rfl, rfl⟩]
    · rw [upd_n d, if_neg (fun z => d z.2)]
  · rw [if_neg c, if_neg (fun z => c z.1)]
theorem S_eq_of {S S' : tS} (h1 : S.1 = S'.1) (h2 : ∀ r i, S.2.1 r i = S'.2.1 r i) (h3 : S.2.2 = S'.2.2) : S_eq S S' := ⟨fun j _ => by rw [h1], fun r i _ _ => h2 r i, h3⟩
theorem roF_1 (S : tS) (r b : Nat) (old x : Int32) : ∀ k, (roF S r b old x k).1.1 = S.1 ∧ (roF S r b old x k).1.2.2 = S.2.2
  | 0 => ⟨rfl, rfl⟩
  | k + 1 => by
    have ih := roF_1 S r b old x k
    show (if _ then _ else _ : tS × Int32).1.1 = S.1 ∧ (if _ then _ else _ : tS × Int32).1.2.2 = S.2.2
    split
    · exact ih
    · exact ih
theorem roF_v (S : tS) (r b : Nat) (old x : Int32) : ∀ k, (∀ r' i, (roF S r b old x k).1.2.1 r' i = if r' = r ∧ (b ≤ i ∧ i < b + k) ∧ S.2.1 r i = old then x else S.2.1 r' i) ∧ (roF S r b old x k).2 = if cnF (S_v S r b) old k = 0 then 0 else 1
  | 0 => ⟨fun r' i => by rw [if_neg (by omega)]; rfl, rfl⟩
  | k + 1 => by
    obtain ⟨h1, h2⟩ := roF_v S r b old x k
    have e0 : (roF S r b old x k).1.2.1 r (b + k) = S.2.1 r (b + k) := by rw [h1, if_neg (by omega)]
    have ec : cnF (S_v S r b) old (k + 1) = cnF (S_v S r b) old k + (if S.2.1 r (b + k) = old then 1 else 0) := rfl
    by_cases c : S.2.1 r (b + k) = old
    · have e : roF S r b old x (k + 1) = (S_put (roF S r b old x k).1 r (b + k) x, 1) := by show (if _ then _ else _) = _; rw [if_pos (by rw [e0]; exact c)]
      rw [e]
      refine ⟨fun r' i => ?_, ?_⟩
      · show (S_put (roF S r b old x k).1 r (b + k) x).2.1 r' i = _
        rw [S_put_v]
        by_cases d : r' = r ∧ i = b + k
        · obtain ⟨d1, d2⟩ := d
          subst d1; subst d2
          rw [if_pos ⟨rfl, rfl⟩, if_pos ⟨rfl, by omega, c⟩]
        · rw [if_neg d, h1]
          by_cases d2 : r' = r ∧ (b ≤ i ∧ i < b + k) ∧ S.2.1 r i = old
          · rw [if_pos d2, if_pos ⟨d2.1, by omega, d2.2.2⟩]
          · rw [if_neg d2, if_neg]
            rintro ⟨z1, z2, z3⟩
            exact d2 ⟨z1, by have : i ≠ b + k := fun q => d ⟨z1, q⟩
                             omega, z3⟩
      · show (1 : Int32) = _
        rw [ec, if_pos c, if_neg (by omega)]
    · have e : roF S r b old x (k + 1) = roF S r b old x k := by show (if _ then _ else _) = _; rw [if_neg (by rw [e0]; exact c)]
      rw [e]
      refine ⟨fun r' i => ?_, ?_⟩
      · rw [h1]
        by_cases d2 : r' = r ∧ (b ≤ i ∧ i < b + k) ∧ S.2.1 r i = old
        · rw [if_pos d2, if_pos ⟨d2.1, by omega, d2.2.2⟩]
        · rw [if_neg d2, if_neg]
          rintro ⟨z1, z2, z3⟩
          refine d2 ⟨z1, ?_, z3⟩
          have : i ≠ b + k := fun q => c (q ▸ z3)
          omega
      · rw [ec, if_neg c, Nat.add_zero]; exact h2
theorem roF_ok {S : tS} (h : S_ok S) (r b : Nat) (old : Int32) {x : Int32} (hx : okV x) : ∀ k, S_ok (roF S r b old x k).1
  | 0 => h
  | k + 1 => by
    show S_ok (if _ then _ else _ : tS × Int32).1
    split
    · exact S_put_ok (roF_ok h r b old hx k) r (b + k) hx
    · exact roF_ok h r b old hx k
section MOP
variable {K : tK} {G : tG} {M : tM} {S : tS} {th : Int32} {post : Int32 → tG → Prop}
/-- an array's values are written behind one another -/
theorem m_writeAll {pv : tG → Prop} {j r b n q : Nat} {f : Nat → Int32} (h : MoR G M S th) (hj : j < 7) (hs : S.1 j = some (r, b, n)) (hq : G q = some (eI n f)) (hqm : ¬ moW M q) (hf : ∀ i, i < n → okV (f i)) (hp : ∀ G', fr (moW M) G G' → MoR G' M (S_map S r b (fun k _ => f k) n) th → pv G') : w_X3_writeAll K pv (some M.1.1) (nI j) (some q) G := by
  have hn12 := (S_12 h.1 hj hs).2
  have main : ∀ k i G1, i + k = n → fr (moW M) G G1 → MoR G1 M (S_map S r b (fun k _ => f k) i) th → w_X3_writeAll_2 K pv (k + 1) (some M.1.1) (nI j) (some q) (nI i) G1 := by
    intro k
    induction k with
    | zero =>
      intro i G1 hi f1 h1
      show w_X3_writeAll_2_b K pv (w_X3_writeAll_2 K pv 0) (some M.1.1) (nI j) (some q) (nI i) G1
      have e : i = n := by omega
      subst e
      exact lenA_i (f1 _ _ hq hqm) ⟨fun _ => hp G1 f1 h1, fun c => absurd (nI_le (by omega) (by omega)) c⟩
    | succ k ih =>
      intro i G1 hi f1 h1
      show w_X3_writeAll_2_b K pv (w_X3_writeAll_2 K pv (k + 1)) (some M.1.1) (nI j) (some q) (nI i) G1
      have hq1 := f1 _ _ hq hqm
      have hs1 : (S_map S r b (fun k _ => f k) i).1 j = some (r, b, n) := by rw [(S_map_1 S r b _ i).1]; exact hs
      refine lenA_i hq1 ⟨fun c => absurd c (nI_ge (by omega) (by omega)), fun _ => alI_i hq1 rfl (by omega) (by omega) (m_rcv h1 (m_write h1 hj hs1 (by omega) (hf i (by omega)) (fun G2 f2 h2 => ?_)))⟩
      rw [nI_1]
      exact ih (i + 1) G2 (by omega) (fr_tr f1 f2) h2
  exact ⟨n + 1, main n 0 G (by omega) (fr_rf _ _) h⟩
def rpF (old x y : Int32) : Int32 := if y = old then x else y
theorem rpF_ok {old x y : Int32} (hx : okV x) (hy : okV y) : okV (rpF old x y) := by
  unfold rpF; split
  · exact hx
  · exact hy
theorem m_replaceOld {v y x : Int32} (h : MoR G M S th) (hp : mRes M G post (sp_li S (S_at S v) fun r b n => if okV y ∧ okV x then (0, (roF S r b y x n).2, (roF S r b y x n).1) else (2, 0, S))) : w_X3_replaceOld K post (some M.1.1) v y x G := by
  refine m_rcv h (m_isNoList h (fun c => ?_) (fun j r b n hj ev hs => ?_))
  · rw [c] at hp
    have hbad : ∀ u, w_X3_replaceOld_25 K post (some M.1.1) v y x (some M.1.1) 1 u G := fun u => m_rcv h (m_fails h (fun G1 f1 h1 => ⟨fun z => absurd (show (1 : Int32) = 0 from z) (by decide), fun _ => mr (a := (1, 0, S)) hp f1 h1⟩))
    exact m_isNoValue (fun _ => ⟨fun _ => hbad 1, fun z => absurd z (by decide)⟩) (fun _ => ⟨fun z => absurd rfl z, fun _ => m_isNoValue (fun _ => ⟨fun z => absurd z (by decide), fun _ => hbad 1⟩) (fun _ => ⟨fun _ => hbad 0, fun z => absurd rfl z⟩)⟩)
  · subst ev
    rw [S_at_nI S hj, hs] at hp
    have hn12 := (S_12 h.1 hj hs).2
    have hr3 := (S_12 h.1 hj hs).1
    have hbad : ¬ (okV y ∧ okV x) → w_X3_replaceOld_25 K post (some M.1.1) (nI j) y x (some M.1.1) 0 1 G := fun e => by
      simp only [sp_li, if_neg e] at hp
      exact m_rcv h (m_fails h (fun G1 f1 h1 => ⟨fun z => absurd z (by decide), fun _ => mr hp f1 h1⟩))
    refine m_isNoValue (fun hy => ⟨fun _ => hbad (fun z => hy z.1), fun z => absurd z (by decide)⟩) (fun hy => ⟨fun z => absurd rfl z, fun _ => m_isNoValue (fun hx => ⟨fun z => absurd z (by decide), fun _ => hbad (fun z => hx z.2)⟩) (fun hx => ⟨fun _ => ?_, fun z => absurd rfl z⟩)⟩)
    simp only [sp_li, if_pos (And.intro hy hx)] at hp
    refine m_rcv h (m_fails h (fun G1 f1 h1 => ⟨fun _ => m_rcv h1 (m_all h1 hj hs (fun q f G2 q0 q1 q2 q3 h2 => m_oftenIn q1 (by omega) ?_)), fun z => absurd (by decide) z⟩))
    rw [cnF_cg n q2]
    have hqm := MoC_no (MoR_C h1) q0
    have main : ∀ k i G3 f', i + k = n → (∀ a, a ≠ q → G3 a = G1 a) → G3 q = some (eI n f') → (∀ t, t < i → f' t = rpF y x (S_v S r b t)) → (∀ t, i ≤ t → t < n → f' t = S_v S r b t) → w_X3_replaceOld_51 K post (k + 1) (some M.1.1) (nI j) y x (some q) (nI (cnF (S_v S r b) y n)) (nI i) G3 := by
      intro k
      induction k with
      | zero =>
        intro i G3 f' hi k3 e3 g1 g2
        show w_X3_replaceOld_51_b K post (w_X3_replaceOld_51 K post 0) (some M.1.1) (nI j) y x (some q) (nI (cnF (S_v S r b) y n)) (nI i) G3
        have e : i = n := by omega
        subst e
        have h3 := MoR_fresh h1 q0 k3
        refine lenA_i e3 ⟨fun _ => m_rcv h3 (m_writeAll h3 hj hs e3 hqm (fun t ht => ?_) (fun G4 f4 h4 => ?_)), fun c => absurd (nI_le (by omega) (by omega)) c⟩
        · rw [g1 t ht]; exact rpF_ok hx (h.1.2.2 r _ hr3 (by omega))
        · have rv := roF_v S r b y x i
          have r1 := roF_1 S r b y x i
          have h5 : MoR G4 M (roF S r b y x i).1 0 := by
            refine MoR_eq h4 (S_eq_of ((S_map_1 S r b _ i).1.trans r1.1.symm) (fun r' p => ?_) ((S_map_1 S r b _ i).2.trans r1.2.symm)) (roF_ok h.1 r b y hx i)
            rw [S_map_v, rv.1]
            by_cases c : r' = r ∧ b ≤ p ∧ p < b + i
            · rw [if_pos c, g1 (p - b) (by omega)]
              have ep : b + (p - b) = p := by omega
              show (if S.2.1 r (b + (p - b)) = y then x else S.2.1 r (b + (p - b))) = _
              rw [ep]
              by_cases d : S.2.1 r p = y
              · rw [if_pos d, if_pos ⟨c.1, c.2, d⟩]
              · rw [if_neg d, if_neg (fun z => d z.2.2), c.1]
            · rw [if_neg c, if_neg (fun z => c ⟨z.1, z.2.1⟩)]
          have hpost := mr hp (fr_tr (fr_al f1 q0 k3) f4) h5
          have hpost : post (roF S r b y x i).2 G4 := hpost
          rw [rv.2] at hpost
          have hle := cnF_le (S_v S r b) y i
          refine ⟨fun c => m_one (fun _ => ?_) (fun z => absurd rfl z), fun c => m_one (fun z => absurd z (by decide)) (fun _ => ?_)⟩
          · have hc : cnF (S_v S r b) y i = 0 := Decidable.byContradiction fun e => nI_nle (by omega) (by omega) c
            rw [if_pos hc] at hpost; exact hpost
          · have hc : ¬ cnF (S_v S r b) y i = 0 := fun e => c (by rw [e]; decide)
            rw [if_neg hc] at hpost; exact hpost
      | succ k ih =>
        intro i G3 f' hi k3 e3 g1 g2
        show w_X3_replaceOld_51_b K post (w_X3_replaceOld_51 K post (k + 1)) (some M.1.1) (nI j) y x (some q) (nI (cnF (S_v S r b) y n)) (nI i) G3
        have hst : ∀ z, rpF y x (S_v S r b i) = z → w_X3_replaceOld_81 K post (w_X3_replaceOld_51 K post (k + 1)) (some M.1.1) (nI j) y x (some q) (nI (cnF (S_v S r b) y n)) (nI i) (some q) (nI i) z G3 := fun z hz => by
          refine asI_i e3 rfl (by omega) (by omega) ?_
          rw [nI_1]
          refine ih (i + 1) _ _ (by omega) (fun a ha => by rw [tg_n _ _ ha]; exact k3 a ha) (tg_s _ _ _) (fun t ht => ?_) (fun t ht ht2 => ?_)
          · by_cases c : t = i
            · rw [c, upd_s]; exact hz.symm
            · rw [upd_n c]; exact g1 t (by omega)
          · rw [upd_n (by omega)]; exact g2 t (by omega) ht2
        have e5 : f' i = S_v S r b i := g2 i (by omega) (by omega)
        refine lenA_i e3 ⟨fun c => absurd c (nI_ge (by omega) (by omega)), fun _ => alI_i e3 rfl (by omega) (by omega) ⟨fun c => alI_i e3 rfl (by omega) (by omega) (hst _ ?_), fun c => hst _ ?_⟩⟩
        · rw [← e5]; unfold rpF; rw [if_neg c]
        · rw [← e5]; unfold rpF; rw [if_pos c]
    exact ⟨n + 1, main n 0 G2 f (by omega) q3 q1 (fun t ht => absurd ht (by omega)) (fun t _ ht => q2 t ht)⟩
theorem m_ruled {pk : Int32 → tG → Prop} {x rule w : Int32} (h : pk (ruF rule w x) G) : w_X3_ruled K pk rule x w G := by
  have h12 : w_X3_ruled_12 K pk rule w (nuF x) G := by
    unfold ruF at h
    refine ⟨fun c => ⟨fun c1 => ⟨fun c2 => ⟨fun d => ?_, fun d => ?_⟩, fun c2 => ?_⟩, fun c1 => ?_⟩, fun c => ?_⟩
    · rw [if_neg c, if_neg c1, if_neg c2, if_neg d] at h; exact h
    · rw [if_neg c, if_neg c1, if_neg c2, if_pos d] at h; exact h
    · rw [if_neg c, if_neg c1, if_pos c2] at h; exact h
    · rw [if_neg c, if_pos c1] at h; exact h
    · rw [if_pos c] at h; exact h
  refine ⟨fun c => ?_, fun c => ?_⟩
  · have e : nuF x = x := by unfold nuF; rw [if_neg c]
    rw [e] at h12; exact h12
  · have e : nuF x = 0 := by unfold nuF; rw [if_pos c]
    rw [e] at h12; exact h12
theorem wrF_1 (S : tS) (r b a : Nat) (back rule w : Int32) : ∀ k, (wrF S r b a back rule w k).1 = S.1 ∧ (wrF S r b a back rule w k).2.2 = S.2.2
  | 0 => ⟨rfl, rfl⟩
  | k + 1 => wrF_1 S r b a back rule w k
/-- a rule in the places from a on, up to e -/
theorem m_ruledAll {pk : Int32 → tG → Prop} {j r b n a e : Nat} {rule w : Int32} (h : MoR G M S th) (hj : j < 7) (hs : S.1 j = some (r, b, n)) (hae : a ≤ e) (hen : e ≤ n) (hw : inR w (-99) 99) (hp : ∀ G', fr (moW M) G G' → MoR G' M (wrF S r b a 0 rule w (e - a)) th → pk (nI (e - a)) G') : w_X3_ruledAll K pk (some M.1.1) (nI j) (nI a) (nI e) rule w G := by
  have hn12 := (S_12 h.1 hj hs).2
  have hr3 := (S_12 h.1 hj hs).1
  have main : ∀ k i G1, i + k = e - a → fr (moW M) G G1 → MoR G1 M (wrF S r b a 0 rule w i) th → w_X3_ruledAll_3 K pk (k + 1) (some M.1.1) (nI j) (nI a) (nI e) rule w (nI (a + i)) G1 := by
    intro k
    induction k with
    | zero =>
      intro i G1 hi f1 h1
      show w_X3_ruledAll_3_b K pk (w_X3_ruledAll_3 K pk 0) (some M.1.1) (nI j) (nI a) (nI e) rule w (nI (a + i)) G1
      have ei : i = e - a := by omega
      subst ei
      refine ⟨fun _ => ?_, fun c => absurd (nI_le (by omega) (by omega)) c⟩
      rw [nI_subN hae]
      exact hp G1 f1 h1
    | succ k ih =>
      intro i G1 hi f1 h1
      show w_X3_ruledAll_3_b K pk (w_X3_ruledAll_3 K pk (k + 1)) (some M.1.1) (nI j) (nI a) (nI e) rule w (nI (a + i)) G1
      have hs1 : (wrF S r b a 0 rule w i).1 j = some (r, b, n) := by rw [(wrF_1 S r b a 0 rule w i).1]; exact hs
      refine ⟨fun c => absurd c (nI_ge (by omega) (by omega)), fun _ => m_rcv h1 (m_value h1 hj hs1 (show a + i < n by omega) (m_ruled (m_rcv h1 (m_write h1 hj hs1 (show a + i < n by omega) (ruF_ok (h1.1.2.2 r _ hr3 (by omega)) hw) (fun G2 f2 h2 => ?_)))))⟩
      rw [nI_1]
      exact ih (i + 1) G2 (by omega) (fr_tr f1 f2) h2
  exact ⟨e - a + 1, main (e - a) 0 G (by omega) (fr_rf _ _) h⟩
theorem wrF_v0 (S : tS) (r b a : Nat) (rule w : Int32) : ∀ k r' i, (wrF S r b a 0 rule w k).2.1 r' i = if r' = r ∧ b + a ≤ i ∧ i < b + a + k then ruF rule w (S.2.1 r i) else S.2.1 r' i
  | 0, r', i => by rw [if_neg (by omega)]; rfl
  | k + 1, r', i => by
    have ih := wrF_v0 S r b a rule w k
    show (S_put (wrF S r b a 0 rule w k) r (b + (a + k)) (ruF rule w ((wrF S r b a 0 rule w k).2.1 r (b + (a + k))))).2.1 r' i = _
    have e0 : (wrF S r b a 0 rule w k).2.1 r (b + (a + k)) = S.2.1 r (b + (a + k)) := by rw [ih, if_neg (by omega)]
    rw [e0, S_put_v]
    by_cases d : r' = r ∧ i = b + (a + k)
    · rw [if_pos d, if_pos ⟨d.1, by omega⟩, d.2]
    · rw [if_neg d, ih]
      by_cases d2 : r' = r ∧ b + a ≤ i ∧ i < b + a + k
      · rw [if_pos d2, if_pos ⟨d2.1, by omega⟩]
      · rw [if_neg d2, if_neg]
        rintro ⟨z1, z2⟩
        have : i ≠ b + (a + k) := fun q => d ⟨z1, q⟩
        exact d2 ⟨z1, by omega⟩
theorem wrF_v1 (S : tS) (r b a : Nat) {back : Int32} (hb : ¬ back = 0) (rule w : Int32) : ∀ k r' i, k ≤ a → (wrF S r b a back rule w k).2.1 r' i = if r' = r ∧ b + (a - k) ≤ i ∧ i < b + a then ruF rule w (S.2.1 r i) else S.2.1 r' i
  | 0, r', i, _ => by rw [if_neg (by omega)]; rfl
  | k + 1, r', i, hk => by
    have ih := wrF_v1 S r b a hb rule w k
    have ep : plF a back k = a - 1 - k := by unfold plF; rw [if_neg hb]
    show (S_put (wrF S r b a back rule w k) r (b + plF a back k) (ruF rule w ((wrF S r b a back rule w k).2.1 r (b + plF a back k)))).2.1 r' i = _
    have e0 : (wrF S r b a back rule w k).2.1 r (b + (a - 1 - k)) = S.2.1 r (b + (a - 1 - k)) := by rw [ih _ _ (by omega), if_neg (by omega)]
    rw [ep, e0, S_put_v]
    by_cases d : r' = r ∧ i = b + (a - 1 - k)
    · rw [if_pos d, if_pos ⟨d.1, by omega⟩, d.2]
    · rw [if_neg d, ih r' i (by omega)]
      by_cases d2 : r' = r ∧ b + (a - k) ≤ i ∧ i < b + a
      · rw [if_pos d2, if_pos ⟨d2.1, by omega⟩]
      · rw [if_neg d2, if_neg]
        rintro ⟨z1, z2⟩
        have : i ≠ b + (a - 1 - k) := fun q => d ⟨z1, q⟩
        exact d2 ⟨z1, by omega⟩
theorem m_replaceAll {v rule w : Int32} (h : MoR G M S th) (hp : mRes M G post (sp_li S (S_at S v) fun r b n => if inR rule 0 3 ∧ inR w (-99) 99 then (0, nI (slF 0 n 0), wrF S r b 0 0 rule w (slF 0 n 0)) else (2, 0, S))) : w_X3_replaceAll K post (some M.1.1) v rule w G := by
  refine m_rcv h (m_isNoList h (fun c => ?_) (fun j r b n hj ev hs => ?_))
  · rw [c] at hp
    exact m_isNoRule (fun _ => m_rcv h (m_fails h (fun G1 f1 h1 => ⟨fun z => absurd z (by decide), fun _ => mr (a := (1, 0, S)) hp f1 h1⟩))) (fun _ _ => m_rcv h (m_fails h (fun G1 f1 h1 => ⟨fun z => absurd z (by decide), fun _ => mr (a := (1, 0, S)) hp f1 h1⟩)))
  · subst ev
    rw [S_at_nI S hj, hs] at hp
    refine m_isNoRule (fun hq => ?_) (fun q1 q2 => ?_)
    · simp only [sp_li, if_neg hq] at hp
      exact m_rcv h (m_fails h (fun G1 f1 h1 => ⟨fun z => absurd z (by decide), fun _ => mr hp f1 h1⟩))
    · simp only [sp_li, if_pos (And.intro q1 q2)] at hp
      exact m_rcv h (m_fails h (fun G1 f1 h1 => ⟨fun _ => m_len h1 hj hs (m_rcv h1 (m_ruledAll (a := 0) h1 hj hs (by omega) (by omega) q2 (fun G2 f2 h2 => mr hp (fr_tr f1 f2) h2))), fun z => absurd (by decide) z⟩))
theorem m_walkSet {v p rule w back : Int32} (h : MoR G M S th) (hp : mRes M G post (sp_li S (S_at S v) fun r b n => if inR p 0 (nI n) ∧ (inR rule 0 3 ∧ inR w (-99) 99) then (0, nI (slF p.toInt.toNat n back), wrF S r b p.toInt.toNat back rule w (slF p.toInt.toNat n back)) else (2, 0, S))) : w_X3_walkSet K post (some M.1.1) v p rule w back G := by
  refine m_rcv h (m_isNoList h (fun c => ?_) (fun j r b n hj ev hs => ?_))
  · rw [c] at hp
    have hbad : ∀ u, w_X3_walkSet_29 K post (some M.1.1) v p rule w back (some M.1.1) 1 u G := fun u => m_rcv h (m_fails h (fun G1 f1 h1 => ⟨fun z => absurd (show (1 : Int32) = 0 from z) (by decide), fun _ => mr (a := (1, 0, S)) hp f1 h1⟩))
    exact m_rcv h (m_isBeyond h (fun _ => ⟨fun z => absurd rfl z, fun _ => m_isNoRule (fun _ => ⟨fun z => absurd z (by decide), fun _ => hbad 1⟩) (fun _ _ => ⟨fun _ => hbad 0, fun z => absurd rfl z⟩)⟩) (fun j r b n hj ev hs _ => by subst ev; rw [S_at_nI S hj, hs] at c; cases c) (fun j r b n hj ev hs _ => by subst ev; rw [S_at_nI S hj, hs] at c; cases c))
  · have ec : S_at S v = some (r, b, n) := by rw [ev, S_at_nI S hj]; exact hs
    rw [ec] at hp
    have hn12 := (S_12 h.1 hj hs).2
    have hbad : ¬ (inR p 0 (nI n) ∧ (inR rule 0 3 ∧ inR w (-99) 99)) → w_X3_walkSet_29 K post (some M.1.1) v p rule w back (some M.1.1) 0 1 G := fun q => by
      simp only [sp_li, if_neg q] at hp
      exact m_rcv h (m_fails h (fun G1 f1 h1 => ⟨fun z => absurd z (by decide), fun _ => mr hp f1 h1⟩))
    have hgood : inR p 0 (nI n) → inR rule 0 3 → inR w (-99) 99 → w_X3_walkSet_29 K post (some M.1.1) v p rule w back (some M.1.1) 0 0 G := fun g1 g2 g3 => by
      simp only [sp_li, if_pos (And.intro g1 (And.intro g2 g3))] at hp
      obtain ⟨a, ha, rfl⟩ := nI_of2 (nI_toInt (n := n) (by omega)) g1.1 g1.2
      rw [nI_nat (by omega)] at hp
      subst ev
      refine m_rcv h (m_fails h (fun G1 f1 h1 => ⟨fun _ => ⟨fun cb => ⟨fun _ => m_len h1 hj hs (m_rcv h1 (m_ruledAll h1 hj hs ha (by omega) g3 (fun G2 f2 h2 => ?_))), fun z => absurd cb z⟩, fun cb => ⟨fun z => absurd z cb, fun _ => m_rcv h1 (m_ruledAll (a := 0) h1 hj hs (by omega) ha g3 (fun G2 f2 h2 => ?_))⟩⟩, fun z => absurd (by decide) z⟩))
      · subst cb
        have e : slF a n 0 = n - a := by unfold slF; rw [if_pos rfl]
        rw [e] at hp
        exact mr hp (fr_tr f1 f2) h2
      · have e : slF a n back = a := by unfold slF; rw [if_neg cb]
        rw [e] at hp
        refine mr hp (fr_tr f1 f2) ?_
        refine MoR_eq h2 (S_eq_of ((wrF_1 S r b 0 0 rule w (a - 0)).1.trans (wrF_1 S r b a back rule w a).1.symm) (fun r' i => ?_) ((wrF_1 S r b 0 0 rule w (a - 0)).2.trans (wrF_1 S r b a back rule w a).2.symm)) ?_
        · show _ = (wrF S r b a back rule w a).2.1 r' i
          rw [wrF_v0, wrF_v1 S r b a cb rule w a r' i (Nat.le_refl _)]
          by_cases d : r' = r ∧ b + 0 ≤ i ∧ i < b + 0 + (a - 0)
          · rw [if_pos d, if_pos ⟨d.1, by omega⟩]
          · rw [if_neg d, if_neg (fun z => d ⟨z.1, by omega⟩)]
        · have hr3 := (S_12 h.1 hj hs).1
          have : ∀ k, k ≤ a → S_ok (wrF S r b a back rule w k) := by
            intro k
            induction k with
            | zero => intro _; exact h.1
            | succ k ih =>
              intro hk
              have ep : plF a back k = a - 1 - k := by unfold plF; rw [if_neg cb]
              refine S_put_ok (ih (by omega)) r _ (ruF_ok ((ih (by omega)).2.2 r _ hr3 ?_) g3)
              rw [ep]; omega
          exact this a (Nat.le_refl _)
    have other : ∀ {j2 r2 b2 n2}, j2 < 7 → v = nI j2 → S.1 j2 = some (r2, b2, n2) → n2 = n := fun {j2 r2 b2 n2} hj2 ev2 hs2 => by
      have e2 : S_at S v = some (r2, b2, n2) := by rw [ev2, S_at_nI S hj2]; exact hs2
      rw [ec] at e2; cases e2; rfl
    refine m_rcv h (m_isBeyond h (fun c => ?_) (fun j2 r2 b2 n2 hj2 ev2 hs2 q => ⟨fun _ => hbad (fun z => q ?_), fun z => absurd z (by decide)⟩) (fun j2 r2 b2 n2 hj2 ev2 hs2 q => ⟨fun z => absurd rfl z, fun _ => m_isNoRule (fun hx => ⟨fun z => absurd z (by decide), fun _ => hbad (fun z => hx z.2)⟩) (fun g2 g3 => ⟨fun _ => hgood ?_ g2 g3, fun z => absurd rfl z⟩)⟩))
    · rw [ec] at c; cases c
    · rw [other hj2 ev2 hs2]; exact z.1
    · rw [other hj2 ev2 hs2] at q; exact q
end MOP
end GRP21x14
section GRP21x15
/-! the model: turning -/
theorem S_exch_v (S : tS) (r i j r' p : Nat) : (S_exch S r i j).2.1 r' p = if r' = r ∧ p = j then S.2.1 r i else if r' = r ∧ p = i then S.2.1 r j else S.2.1 r' p := by
  unfold S_exch
  rw [S_put_v, S_put_v]
theorem S_exch_ok {S : tS} (h : S_ok S) {r i j : Nat} (hr : r < 3) (hi : i < 12) (hj : j < 12) : S_ok (S_exch S r i j) :=
  S_put_ok (S_put_ok h r i (h.2.2 r j hr hj)) r j (h.2.2 r i hr hi)
theorem tuF_1 (r b : Nat) : ∀ k i e S, (tuF r b k i e S).1 = S.1 ∧ (tuF r b k i e S).2.2 = S.2.2
  | 0, _, _, _ => ⟨rfl, rfl⟩
  | k + 1, i, e, S => by
    show (if i + 1 < e then tuF r b k (i + 1) (e - 1) (S_exch S r (b + i) (b + (e - 1))) else S).1 = S.1 ∧ (if i + 1 < e then tuF r b k (i + 1) (e - 1) (S_exch S r (b + i) (b + (e - 1))) else S).2.2 = S.2.2
    split
    · have := tuF_1 r b k (i + 1) (e - 1) (S_exch S r (b + i) (b + (e - 1)))
      exact ⟨this.1, this.2⟩
    · exact ⟨rfl, rfl⟩
theorem tuF_ok {r b : Nat} (hr : r < 3) : ∀ k i e S, b + e ≤ 12 → S_ok S → S_ok (tuF r b k i e S)
  | 0, _, _, _, _, h => h
  | k + 1, i, e, S, he, h => by
    show S_ok (if i + 1 < e then tuF r b k (i + 1) (e - 1) (S_exch S r (b + i) (b + (e - 1))) else S)
    split
    · exact tuF_ok hr k (i + 1) (e - 1) _ (by omega) (S_exch_ok h hr (by omega) (by omega))
    · exact h
theorem S_cg {S : tS} {r p p' : Nat} (h : p = p') : S.2.1 r p = S.2.1 r p' := by rw [h]
theorem tuF_v (r b : Nat) : ∀ k i e S r' p, e ≤ i + 2 * k + 1 → (tuF r b k i e S).2.1 r' p = if r' = r ∧ b + i ≤ p ∧ p < b + e then S.2.1 r (b + i + (b + e - 1 - p)) else S.2.1 r' p
  | 0, i, e, S, r', p, h => by
    show S.2.1 r' p = _
    by_cases d : r' = r ∧ b + i ≤ p ∧ p < b + e
    · refine Eq.trans ?_ (if_pos d).symm
      obtain ⟨d1, d2, d3⟩ := d
      subst d1
      exact S_cg (by omega)
    · rw [if_neg d]
  | k + 1, i, e, S, r', p, h => by
    show (if i + 1 < e then tuF r b k (i + 1) (e - 1) (S_exch S r (b + i) (b + (e - 1))) else S).2.1 r' p = _
    by_cases c : i + 1 < e
    · rw [if_pos c, tuF_v r b k (i + 1) (e - 1) _ r' p (by omega)]
      by_cases d : r' = r ∧ b + i ≤ p ∧ p < b + e
      · refine Eq.trans ?_ (if_pos d).symm
        obtain ⟨d1, d2, d3⟩ := d
        subst d1
        by_cases p1 : p = b + i
        · rw [if_neg (by omega), S_exch_v, if_neg (by omega), if_pos ⟨rfl, p1⟩]
          exact S_cg (by omega)
        · by_cases p2 : p = b + (e - 1)
          · rw [if_neg (by omega), S_exch_v, if_pos ⟨rfl, p2⟩]
            exact S_cg (by omega)
          · rw [if_pos ⟨rfl, by omega, by omega⟩, S_exch_v, if_neg (by omega), if_neg (by omega)]
            exact S_cg (by omega)
      · refine Eq.trans ?_ (if_neg d).symm
        rw [if_neg (fun z => d ⟨z.1, by omega⟩), S_exch_v, if_neg (fun z => d ⟨z.1, by omega⟩), if_neg (fun z => d ⟨z.1, by omega⟩)]
    · rw [if_neg c]
      by_cases d : r' = r ∧ b + i ≤ p ∧ p < b + e
      · refine Eq.trans ?_ (if_pos d).symm
        obtain ⟨d1, d2, d3⟩ := d
        subst d1
        exact S_cg (by omega)
      · rw [if_neg d]
/-- values written to given places, one behind another -/
def pcF (S : tS) (r : Nat) (po : Nat → Nat) (f : Nat → Int32) : Nat → tS
  | 0 => S
  | k + 1 => S_put (pcF S r po f k) r (po k) (f k)
theorem pcF_1 (S : tS) (r : Nat) (po : Nat → Nat) (f : Nat → Int32) : ∀ k, (pcF S r po f k).1 = S.1 ∧ (pcF S r po f k).2.2 = S.2.2
  | 0 => ⟨rfl, rfl⟩
  | k + 1 => pcF_1 S r po f k
theorem pcF_miss (S : tS) (r : Nat) (po : Nat → Nat) (f : Nat → Int32) {r' i : Nat} : ∀ k, (r' ≠ r ∨ ∀ t, t < k → i ≠ po t) → (pcF S r po f k).2.1 r' i = S.2.1 r' i
  | 0, _ => rfl
  | k + 1, h => by
    show (S_put (pcF S r po f k) r (po k) (f k)).2.1 r' i = _
    rw [S_put_v, if_neg (fun z => h.elim (fun q => q z.1) (fun q => q k (by omega) z.2))]
    exact pcF_miss S r po f k (h.imp id (fun q t ht => q t (by omega)))
theorem pcF_hit (S : tS) (r : Nat) (po : Nat → Nat) (f : Nat → Int32) {n : Nat} (hi : ∀ t t', t < n → t' < n → po t = po t' → t = t') : ∀ k, k ≤ n → ∀ t, t < k → (pcF S r po f k).2.1 r (po t) = f t
  | 0, _, t, h => absurd h (by omega)
  | k + 1, hk, t, h => by
    show (S_put (pcF S r po f k) r (po k) (f k)).2.1 r (po t) = _
    rw [S_put_v]
    by_cases c : t = k
    · rw [c, if_pos ⟨rfl, rfl⟩]
    · rw [if_neg (fun z => c (hi t k (by omega) (by omega) z.2))]
      exact pcF_hit S r po f hi k (by omega) t (by omega)
def mdF (x y : Int32) : Int32 := ((x - x / y * y) + y) - ((x - x / y * y) + y) / y * y
set_option maxRecDepth 100000 in
theorem md_tab : ((List.range 210).all fun i => (List.range 12).all fun n => decide (mdF (nI i - nI 99) (nI (n + 1)) = nI ((i + 99 * n) % (n + 1)))) = true := by decide +kernel
set_option maxRecDepth 100000 in
theorem fm_tab2 : ((List.range 199).all fun i => (List.range 12).all fun n => decide (fmF (nI i - nI 99) (nI (n + 1)) = nI ((i + 99 * n) % (n + 1)))) = true := by decide +kernel
theorem md_at {x : Int32} {n : Nat} (hx : inR x (-99) 99) (h0 : 0 < n) (hn : n ≤ 12) : ∃ s, s < n ∧ fmF x (nI n) = nI s ∧ ∀ k, k < n → mdF (nI k + x) (nI n) = nI (if k + s < n then k + s else k + s - n) := by
  have e1 : (99 : Int32).toInt = 99 := rfl
  have e2 : (-99 : Int32).toInt = -99 := rfl
  have h1 := hx.1
  have h2 := hx.2
  rw [i32_lt] at h1
  rw [i32_le] at h2
  obtain ⟨i0, hi0, ex⟩ : ∃ i0, i0 < 199 ∧ x = nI i0 - nI 99 := by
    refine ⟨(x.toInt + 99).toNat, by omega, ?_⟩
    apply Int32.toInt_inj.mp
    rw [nI_sub (by omega) (by omega)]
    omega
  subst ex
  have t := List.all_eq_true.mp (List.all_eq_true.mp fm_tab2 i0 (List.mem_range.mpr (by omega))) (n - 1) (List.mem_range.mpr (by omega))
  have t := of_decide_eq_true t
  rw [show n - 1 + 1 = n by omega] at t
  refine ⟨_, Nat.mod_lt _ h0, t, fun k hk => ?_⟩
  have t2 := List.all_eq_true.mp (List.all_eq_true.mp md_tab (k + i0) (List.mem_range.mpr (by omega))) (n - 1) (List.mem_range.mpr (by omega))
  have t2 := of_decide_eq_true t2
  rw [show n - 1 + 1 = n by omega] at t2
  have e3 : nI k + (nI i0 - nI 99) = nI (k + i0) - nI 99 := by
    rw [Int32.sub_eq_add_neg, ← Int32.add_assoc, nI_add, ← Int32.sub_eq_add_neg]
  rw [e3, t2]
  congr 1
  have hs := Nat.mod_lt (i0 + 99 * (n - 1)) h0
  have e4 : (k + i0 + 99 * (n - 1)) % n = (k + (i0 + 99 * (n - 1)) % n) % n := by
    rw [show k + i0 + 99 * (n - 1) = k + (i0 + 99 * (n - 1)) by omega, Nat.add_mod, Nat.add_mod k ((i0 + 99 * (n - 1)) % n), Nat.mod_mod]
  rw [e4]
  by_cases c : k + (i0 + 99 * (n - 1)) % n < n
  · rw [if_pos c, Nat.mod_eq_of_lt c]
  · rw [if_neg c, Nat.mod_eq_sub_mod (by omega), Nat.mod_eq_of_lt (by omega)]
def poF (b n s k : Nat) : Nat := b + (if k + s < n then k + s else k + s - n)
theorem poF_inj {b n s : Nat} (hs : s < n) : ∀ t t', t < n → t' < n → poF b n s t = poF b n s t' → t = t' := by
  intro t t' ht ht' e
  unfold poF at e
  split at e <;> split at e <;> omega
section MOQ
variable {K : tK} {G : tG} {M : tM} {S : tS} {th : Int32} {post : Int32 → tG → Prop}
theorem m_reverse {v : Int32} (h : MoR G M S th) (hp : mRes M G post (sp_li S (S_at S v) fun r b n => (0, nI n, tuF r b n 0 n S))) : w_X3_reverse K post (some M.1.1) v G := by
  refine m_rcv h (m_isNoList h (fun c => ?_) (fun j r b n hj ev hs => ?_))
  · rw [c] at hp
    exact m_rcv h (m_fails h (fun G1 f1 h1 => ⟨fun z => absurd z (by decide), fun _ => mr (a := (1, 0, S)) hp f1 h1⟩))
  · subst ev
    rw [S_at_nI S hj, hs] at hp
    have hn12 := (S_12 h.1 hj hs).2
    have hr3 := (S_12 h.1 hj hs).1
    refine m_rcv h (m_fails h (fun G1 f1 h1 => ⟨fun _ => m_rcv h1 (m_all h1 hj hs (fun q f G2 q0 q1 q2 q3 h2 => ?_)), fun z => absurd (by decide) z⟩))
    have hqm := MoC_no (MoR_C h1) q0
    have main : ∀ k i G3, i + k = n → fr (moW M) G2 G3 → MoR G3 M (pcF S r (fun k => b + (n - 1 - k)) f i) 0 → w_X3_reverse_23 K post (k + 1) (some M.1.1) (nI j) (some q) (nI i) G3 := by
      intro k
      induction k with
      | zero =>
        intro i G3 hi f3 h3
        show w_X3_reverse_23_b K post (w_X3_reverse_23 K post 0) (some M.1.1) (nI j) (some q) (nI i) G3
        have e : i = n := by omega
        subst e
        have e3 := f3 _ _ q1 hqm
        refine lenA_i e3 ⟨fun _ => lenA_i e3 (mr hp (fr_tr (fr_al f1 q0 q3) f3) ?_), fun c => absurd (nI_le (by omega) (by omega)) c⟩
        refine MoR_eq h3 ⟨fun j' _ => ?_, fun r' p _ _ => ?_, (pcF_1 S r _ f i).2.trans (tuF_1 r b i 0 i S).2.symm⟩ (tuF_ok hr3 i 0 i S hn12 h.1)
        · rw [(pcF_1 S r _ f i).1]; show _ = (tuF r b i 0 i S).1 j'; rw [(tuF_1 r b i 0 i S).1]
        · show _ = (tuF r b i 0 i S).2.1 r' p
          rw [tuF_v r b i 0 i S r' p (by omega)]
          by_cases d : r' = r ∧ b + 0 ≤ p ∧ p < b + i
          · rw [if_pos d]
            obtain ⟨d1, d2, d3⟩ := d
            subst d1
            have hinj : ∀ t t', t < i → t' < i → (fun k => b + (i - 1 - k)) t = (fun k => b + (i - 1 - k)) t' → t = t' := fun t t' ht ht' e => by
              have e : b + (i - 1 - t) = b + (i - 1 - t') := e
              omega
            have hh := pcF_hit S r' (fun k => b + (i - 1 - k)) f hinj i (Nat.le_refl _) (b + i - 1 - p) (by omega)
            have ep : b + (i - 1 - (b + i - 1 - p)) = p := by omega
            have hh : (pcF S r' (fun k => b + (i - 1 - k)) f i).2.1 r' (b + (i - 1 - (b + i - 1 - p))) = f (b + i - 1 - p) := hh
            rw [ep] at hh
            rw [hh, q2 _ (by omega)]
            show S.2.1 r' (b + (b + i - 1 - p)) = _
            exact S_cg (by omega)
          · rw [if_neg d, pcF_miss]
            by_cases c : r' = r
            · exact Or.inr (fun t ht z => d ⟨c, by omega, by omega⟩)
            · exact Or.inl c
      | succ k ih =>
        intro i G3 hi f3 h3
        show w_X3_reverse_23_b K post (w_X3_reverse_23 K post (k + 1)) (some M.1.1) (nI j) (some q) (nI i) G3
        have e3 := f3 _ _ q1 hqm
        have hs3 : (pcF S r (fun k => b + (n - 1 - k)) f i).1 j = some (r, b, n) := by rw [(pcF_1 S r _ f i).1]; exact hs
        have eq : nI n - 1 = nI (n - 1) := by
          have q2 : n = n - 1 + 1 := by omega
          rw [q2, nI_pred]; congr 1
        refine lenA_i e3 ⟨fun c => absurd c (nI_ge (by omega) (by omega)), fun _ => lenA_i e3 (alI_i e3 rfl (by omega) (by omega) (m_rcv h3 ?_))⟩
        show w_X3_write K _ (some M.1.1) (nI j) (nI n - 1 - nI i) (f i) G3
        rw [eq, nI_subN (by omega)]
        refine m_write h3 hj hs3 (show n - 1 - i < n by omega) (by rw [q2 i (by omega)]; exact h.1.2.2 r _ hr3 (by omega)) (fun G4 f4 h4 => ?_)
        rw [nI_1]
        exact ih (i + 1) G4 (by omega) (fr_tr f3 f4) h4
    exact ⟨n + 1, main n 0 G2 (by omega) (fr_rf _ _) h2⟩
theorem roS_v {r b n s : Nat} (hs : s < n) (r' p : Nat) : (roS S r b n s).2.1 r' p = if r' = r ∧ b ≤ p ∧ p < b + n then (if p < b + s then S.2.1 r (p + (n - s)) else S.2.1 r (p - s)) else S.2.1 r' p := by
  unfold roS
  rw [tuF_v r b n s n _ r' p (by omega)]
  by_cases d : r' = r ∧ b ≤ p ∧ p < b + n
  · refine Eq.trans ?_ (if_pos d).symm
    obtain ⟨d1, d2, d3⟩ := d
    subst d1
    by_cases c : p < b + s
    · refine Eq.trans ?_ (if_pos c).symm
      rw [if_neg (by omega), tuF_v r' b s 0 s _ r' p (by omega), if_pos ⟨rfl, by omega, by omega⟩, tuF_v r' b n 0 n _ _ _ (by omega), if_pos ⟨rfl, by omega, by omega⟩]
      exact S_cg (by omega)
    · refine Eq.trans ?_ (if_neg c).symm
      rw [if_pos ⟨rfl, by omega, by omega⟩, tuF_v r' b s 0 s _ _ _ (by omega), if_neg (by omega), tuF_v r' b n 0 n _ _ _ (by omega), if_pos ⟨rfl, by omega, by omega⟩]
      exact S_cg (by omega)
  · refine Eq.trans ?_ (if_neg d).symm
    rw [if_neg (fun z => d ⟨z.1, by omega⟩), tuF_v r b s 0 s _ r' p (by omega), if_neg (fun z => d ⟨z.1, by omega⟩), tuF_v r b n 0 n _ r' p (by omega), if_neg (fun z => d ⟨z.1, by omega⟩)]
theorem roS_1 (r b n s : Nat) : (roS S r b n s).1 = S.1 ∧ (roS S r b n s).2.2 = S.2.2 := by
  unfold roS
  exact ⟨(tuF_1 r b n s n _).1.trans ((tuF_1 r b s 0 s _).1.trans (tuF_1 r b n 0 n S).1), (tuF_1 r b n s n _).2.trans ((tuF_1 r b s 0 s _).2.trans (tuF_1 r b n 0 n S).2)⟩
theorem roS_ok (h : S_ok S) {r b n s : Nat} (hr : r < 3) (hn : b + n ≤ 12) (hs : s ≤ n) : S_ok (roS S r b n s) :=
  tuF_ok hr n s n _ hn (tuF_ok hr s 0 s _ (by omega) (tuF_ok hr n 0 n S hn h))
theorem m_rotate {v x : Int32} (h : MoR G M S th) (hp : mRes M G post (sp_li S (S_at S v) fun r b n => if inR x (-99) 99 then (0, nI n, if n = 0 then S else roS S r b n (fmF x (nI n)).toInt.toNat) else (2, 0, S))) : w_X3_rotate K post (some M.1.1) v x G := by
  refine m_rcv h (m_isNoList h (fun c => ?_) (fun j r b n hj ev hs => ?_))
  · rw [c] at hp
    have hbad : ∀ u, w_X3_rotate_22 K post (some M.1.1) v x (some M.1.1) 1 u G := fun u => m_rcv h (m_fails h (fun G1 f1 h1 => ⟨fun z => absurd (show (1 : Int32) = 0 from z) (by decide), fun _ => mr (a := (1, 0, S)) hp f1 h1⟩))
    exact m_isIn (fun _ => ⟨fun _ => hbad 0, fun z => absurd z (by decide)⟩) (fun _ => ⟨fun z => absurd rfl z, fun _ => hbad 1⟩)
  · subst ev
    rw [S_at_nI S hj, hs] at hp
    have hn12 := (S_12 h.1 hj hs).2
    have hr3 := (S_12 h.1 hj hs).1
    refine m_isIn (fun hx => ⟨fun _ => ?_, fun z => absurd z (by decide)⟩) (fun hx => ⟨fun z => absurd rfl z, fun _ => ?_⟩)
    · simp only [sp_li, if_pos hx] at hp
      refine m_rcv h (m_fails h (fun G1 f1 h1 => ⟨fun _ => m_rcv h1 (m_all h1 hj hs (fun q f G2 q0 q1 q2 q3 h2 => ?_)), fun z => absurd (by decide) z⟩))
      have hqm := MoC_no (MoR_C h1) q0
      by_cases hn : n = 0
      · rw [if_pos hn] at hp
        subst hn
        refine ⟨1, ?_⟩
        show w_X3_rotate_39_b K post (w_X3_rotate_39 K post 0) (some M.1.1) (nI j) x (some q) 0 G2
        exact lenA_i q1 ⟨fun _ => lenA_i q1 (mr hp (fr_al f1 q0 q3) h2), fun c => absurd (show nI 0 ≤ 0 by decide) c⟩
      · rw [if_neg hn] at hp
        obtain ⟨s, hsn, es, emd⟩ := md_at hx (by omega) (show n ≤ 12 by omega)
        rw [es, nI_nat (by omega)] at hp
        have main : ∀ k i G3, i + k = n → fr (moW M) G2 G3 → MoR G3 M (pcF S r (poF b n s) f i) 0 → w_X3_rotate_39 K post (k + 1) (some M.1.1) (nI j) x (some q) (nI i) G3 := by
          intro k
          induction k with
          | zero =>
            intro i G3 hi f3 h3
            show w_X3_rotate_39_b K post (w_X3_rotate_39 K post 0) (some M.1.1) (nI j) x (some q) (nI i) G3
            have e : i = n := by omega
            subst e
            have e3 := f3 _ _ q1 hqm
            refine lenA_i e3 ⟨fun _ => lenA_i e3 (mr hp (fr_tr (fr_al f1 q0 q3) f3) ?_), fun c => absurd (nI_le (by omega) (by omega)) c⟩
            refine MoR_eq h3 ⟨fun j' _ => ?_, fun r' p _ _ => ?_, (pcF_1 S r _ f i).2.trans (roS_1 r b i s).2.symm⟩ (roS_ok h.1 hr3 hn12 (by omega))
            · rw [(pcF_1 S r _ f i).1]; show _ = (roS S r b i s).1 j'; rw [(roS_1 r b i s).1]
            · show _ = (roS S r b i s).2.1 r' p
              rw [roS_v hsn]
              by_cases d : r' = r ∧ b ≤ p ∧ p < b + i
              · rw [if_pos d]
                obtain ⟨d1, d2, d3⟩ := d
                subst d1
                have hh := fun t ht => pcF_hit S r' (poF b i s) f (n := i) (poF_inj hsn) i (Nat.le_refl _) t ht
                by_cases c : p < b + s
                · rw [if_pos c]
                  have hh := hh (p - b + (i - s)) (by omega)
                  have ep : poF b i s (p - b + (i - s)) = p := by unfold poF; rw [if_neg (by omega)]; omega
                  rw [ep] at hh
                  rw [hh, q2 _ (by omega)]
                  show S.2.1 r' (b + (p - b + (i - s))) = _
                  exact S_cg (by omega)
                · rw [if_neg c]
                  have hh := hh (p - b - s) (by omega)
                  have ep : poF b i s (p - b - s) = p := by unfold poF; rw [if_pos (by omega)]; omega
                  rw [ep] at hh
                  rw [hh, q2 _ (by omega)]
                  show S.2.1 r' (b + (p - b - s)) = _
                  exact S_cg (by omega)
              · rw [if_neg d, pcF_miss]
                by_cases c : r' = r
                · refine Or.inr (fun t ht z => d ⟨c, ?_⟩)
                  unfold poF at z
                  split at z <;> omega
                · exact Or.inl c
          | succ k ih =>
            intro i G3 hi f3 h3
            show w_X3_rotate_39_b K post (w_X3_rotate_39 K post (k + 1)) (some M.1.1) (nI j) x (some q) (nI i) G3
            have e3 := f3 _ _ q1 hqm
            have hs3 : (pcF S r (poF b n s) f i).1 j = some (r, b, n) := by rw [(pcF_1 S r _ f i).1]; exact hs
            refine lenA_i e3 ⟨fun c => absurd c (nI_ge (by omega) (by omega)), fun _ => lenA_i e3 ⟨nI_ne0 (by omega) (by omega), lenA_i e3 (lenA_i e3 ⟨nI_ne0 (by omega) (by omega), alI_i e3 rfl (by omega) (by omega) (m_rcv h3 ?_)⟩)⟩⟩
            show w_X3_write K _ (some M.1.1) (nI j) (mdF (nI i + x) (nI n)) (f i) G3
            rw [emd i (by omega)]
            refine m_write h3 hj hs3 (show (if i + s < n then i + s else i + s - n) < n by split <;> omega) (by rw [q2 i (by omega)]; exact h.1.2.2 r _ hr3 (by omega)) (fun G4 f4 h4 => ?_)
            rw [nI_1]
            exact ih (i + 1) G4 (by omega) (fr_tr f3 f4) h4
        exact ⟨n + 1, main n 0 G2 (by omega) (fr_rf _ _) h2⟩
    · simp only [sp_li, if_neg hx] at hp
      exact m_rcv h (m_fails h (fun G1 f1 h1 => ⟨fun z => absurd z (by decide), fun _ => mr hp f1 h1⟩))
end MOQ
end GRP21x15
section GRP21x16
/-! sorting: what the class's steps come to -/
def leF (fall x y : Int32) : Prop := if fall = 0 then x.toInt ≤ y.toInt else y.toInt ≤ x.toInt
theorem leF_tr {fall x y z : Int32} (h1 : leF fall x y) (h2 : leF fall y z) : leF fall x z := by
  unfold leF at *
  by_cases c : fall = 0
  · rw [if_pos c] at *; omega
  · rw [if_neg c] at *; omega
theorem goF_t {fall x y : Int32} (h : goF fall x y = true) : leF fall x y := by
  unfold goF at h; unfold leF
  by_cases c : fall = 0
  · rw [if_pos c] at *
    have := of_decide_eq_true h
    rw [i32_lt] at this; omega
  · rw [if_neg c] at *
    have := of_decide_eq_true h
    rw [i32_lt] at this; omega
theorem goF_f {fall x y : Int32} (h : ¬ goF fall x y = true) : leF fall y x := by
  unfold goF at h; unfold leF
  by_cases c : fall = 0
  · rw [if_pos c] at *
    have h : ¬ x < y := fun z => h (decide_eq_true z)
    rw [i32_lt] at h; omega
  · rw [if_neg c] at *
    have h : ¬ y < x := fun z => h (decide_eq_true z)
    rw [i32_lt] at h; omega
theorem ex_p (S : tS) (r b p : Nat) : S_v (S_exch S r (b + (p + 1)) (b + p)) r b p = S_v S r b (p + 1) ∧ S_v (S_exch S r (b + (p + 1)) (b + p)) r b (p + 1) = S_v S r b p ∧ ∀ t, t ≠ p → t ≠ p + 1 → S_v (S_exch S r (b + (p + 1)) (b + p)) r b t = S_v S r b t := by
  refine ⟨?_, ?_, fun t h1 h2 => ?_⟩
  · show (S_exch S r (b + (p + 1)) (b + p)).2.1 r (b + p) = _
    rw [S_exch_v, if_pos ⟨rfl, rfl⟩]
  · show (S_exch S r (b + (p + 1)) (b + p)).2.1 r (b + (p + 1)) = _
    rw [S_exch_v, if_neg (by omega), if_pos ⟨rfl, rfl⟩]
  · show (S_exch S r (b + (p + 1)) (b + p)).2.1 r (b + t) = _
    rw [S_exch_v, if_neg (by omega), if_neg (by omega)]
theorem skF_sorted (r b : Nat) (fall : Int32) (e : Nat) : ∀ p S, p ≤ e → (∀ i j, i < j → j ≤ e → i ≠ p → j ≠ p → leF fall (S_v S r b i) (S_v S r b j)) → (∀ j, p < j → j ≤ e → leF fall (S_v S r b p) (S_v S r b j)) → ∀ i j, i < j → j ≤ e → leF fall (S_v (skF r b fall p S) r b i) (S_v (skF r b fall p S) r b j)
  | 0, S, _, h1, h2, i, j, hij, hj => by
    show leF fall (S_v S r b i) (S_v S r b j)
    by_cases c : i = 0
    · subst c; exact h2 j hij hj
    · exact h1 i j hij hj c (by omega)
  | p + 1, S, hp, h1, h2, i, j, hij, hj => by
    show leF fall (S_v (if goF fall (S.2.1 r (b + (p + 1))) (S.2.1 r (b + p)) then skF r b fall p (S_exch S r (b + (p + 1)) (b + p)) else S) r b i) (S_v (if goF fall (S.2.1 r (b + (p + 1))) (S.2.1 r (b + p)) then skF r b fall p (S_exch S r (b + (p + 1)) (b + p)) else S) r b j)
    by_cases c : goF fall (S.2.1 r (b + (p + 1))) (S.2.1 r (b + p)) = true
    · rw [if_pos c]
      have hle : leF fall (S_v S r b (p + 1)) (S_v S r b p) := goF_t c
      obtain ⟨x1, x2, x3⟩ := ex_p S r b p
      refine skF_sorted r b fall e p _ (by omega) (fun i j hij hj hi hjp => ?_) (fun j hpj hj => ?_) i j hij hj
      · by_cases c1 : i = p + 1
        · rw [c1, x2, x3 j hjp (by omega)]
          exact h1 p j (by omega) hj (by omega) (by omega)
        · by_cases c2 : j = p + 1
          · rw [c2, x2, x3 i hi c1]
            exact h1 i p (by omega) (by omega) c1 (by omega)
          · rw [x3 i hi c1, x3 j hjp c2]
            exact h1 i j hij hj c1 c2
      · rw [x1]
        by_cases c2 : j = p + 1
        · rw [c2, x2]; exact hle
        · rw [x3 j (by omega) c2]
          exact h2 j (by omega) hj
    · rw [if_neg c]
      have hle : leF fall (S_v S r b p) (S_v S r b (p + 1)) := goF_f c
      by_cases c1 : i = p + 1
      · rw [c1]; exact h2 j (by omega) hj
      · by_cases c2 : j = p + 1
        · rw [c2]
          by_cases c3 : i = p
          · rw [c3]; exact hle
          · exact leF_tr (h1 i p (by omega) (by omega) c1 (by omega)) hle
        · exact h1 i j hij hj c1 c2
theorem soF_sorted (r b : Nat) (fall : Int32) (S : tS) : ∀ k i j, i < j → j ≤ k → leF fall (S_v (soF r b fall S k) r b i) (S_v (soF r b fall S k) r b j)
  | 0, i, j, h1, h2 => absurd h1 (by omega)
  | k + 1, i, j, h1, h2 => by
    refine skF_sorted r b fall (k + 1) (k + 1) (soF r b fall S k) (Nat.le_refl _) (fun i j hij hj _ hj2 => ?_) (fun j hj hj2 => absurd hj (by omega)) i j h1 h2
    exact soF_sorted r b fall S k i j hij (by omega)
theorem cn_swap {f g : Nat → Int32} {x : Int32} {p : Nat} (h1 : g p = f (p + 1)) (h2 : g (p + 1) = f p) (h3 : ∀ t, t ≠ p → t ≠ p + 1 → g t = f t) : ∀ n, p + 1 < n → cnF g x n = cnF f x n
  | 0, h => absurd h (by omega)
  | n + 1, h => by
    by_cases c : n = p + 1
    · subst c
      have e := cnF_cg (f := g) (g := f) (x := x) p (fun t ht => h3 t (by omega) (by omega))
      show cnF g x p + (if g p = x then 1 else 0) + (if g (p + 1) = x then 1 else 0) = cnF f x p + (if f p = x then 1 else 0) + (if f (p + 1) = x then 1 else 0)
      rw [h1, h2, e, Nat.add_right_comm]
    · show cnF g x n + (if g n = x then 1 else 0) = cnF f x n + (if f n = x then 1 else 0)
      rw [cn_swap h1 h2 h3 n (by omega), h3 n (by omega) c]
theorem skF_cn (r b : Nat) (fall x : Int32) (n : Nat) : ∀ p S, p < n → cnF (S_v (skF r b fall p S) r b) x n = cnF (S_v S r b) x n
  | 0, _, _ => rfl
  | p + 1, S, h => by
    show cnF (S_v (if goF fall (S.2.1 r (b + (p + 1))) (S.2.1 r (b + p)) then skF r b fall p (S_exch S r (b + (p + 1)) (b + p)) else S) r b) x n = _
    by_cases c : goF fall (S.2.1 r (b + (p + 1))) (S.2.1 r (b + p)) = true
    · rw [if_pos c, skF_cn r b fall x n p _ (by omega)]
      obtain ⟨x1, x2, x3⟩ := ex_p S r b p
      exact cn_swap x1 x2 x3 n h
    · rw [if_neg c]
theorem soF_cn (r b : Nat) (fall x : Int32) (S : tS) (n : Nat) : ∀ k, k < n ∨ k = 0 → cnF (S_v (soF r b fall S k) r b) x n = cnF (S_v S r b) x n
  | 0, _ => rfl
  | k + 1, h => by
    show cnF (S_v (skF r b fall (k + 1) (soF r b fall S k)) r b) x n = _
    rw [skF_cn r b fall x n (k + 1) _ (by omega), soF_cn r b fall x S n k (by omega)]
theorem skF_1 (r b : Nat) (fall : Int32) : ∀ p S, (skF r b fall p S).1 = S.1 ∧ (skF r b fall p S).2.2 = S.2.2 ∧ ∀ r' i, r' ≠ r → (skF r b fall p S).2.1 r' i = S.2.1 r' i
  | 0, _ => ⟨rfl, rfl, fun _ _ _ => rfl⟩
  | p + 1, S => by
    show (if goF fall (S.2.1 r (b + (p + 1))) (S.2.1 r (b + p)) then skF r b fall p (S_exch S r (b + (p + 1)) (b + p)) else S).1 = S.1 ∧ (if goF fall (S.2.1 r (b + (p + 1))) (S.2.1 r (b + p)) then skF r b fall p (S_exch S r (b + (p + 1)) (b + p)) else S).2.2 = S.2.2 ∧ ∀ r' i, r' ≠ r → (if goF fall (S.2.1 r (b + (p + 1))) (S.2.1 r (b + p)) then skF r b fall p (S_exch S r (b + (p + 1)) (b + p)) else S).2.1 r' i = S.2.1 r' i
    split
    · obtain ⟨h1, h2, h3⟩ := skF_1 r b fall p (S_exch S r (b + (p + 1)) (b + p))
      refine ⟨h1, h2, fun r' i hr => ?_⟩
      rw [h3 r' i hr, S_exch_v, if_neg (fun z => hr z.1), if_neg (fun z => hr z.1)]
    · exact ⟨rfl, rfl, fun _ _ _ => rfl⟩
theorem soF_1 (r b : Nat) (fall : Int32) (S : tS) : ∀ k, (soF r b fall S k).1 = S.1 ∧ (soF r b fall S k).2.2 = S.2.2 ∧ ∀ r' i, r' ≠ r → (soF r b fall S k).2.1 r' i = S.2.1 r' i
  | 0 => ⟨rfl, rfl, fun _ _ _ => rfl⟩
  | k + 1 => by
    obtain ⟨h1, h2, h3⟩ := skF_1 r b fall (k + 1) (soF r b fall S k)
    obtain ⟨g1, g2, g3⟩ := soF_1 r b fall S k
    exact ⟨h1.trans g1, h2.trans g2, fun r' i hr => (h3 r' i hr).trans (g3 r' i hr)⟩
theorem skF_ok {r b : Nat} (fall : Int32) (hr : r < 3) : ∀ p S, b + p < 12 → S_ok S → S_ok (skF r b fall p S)
  | 0, _, _, h => h
  | p + 1, S, hp, h => by
    show S_ok (if goF fall (S.2.1 r (b + (p + 1))) (S.2.1 r (b + p)) then skF r b fall p (S_exch S r (b + (p + 1)) (b + p)) else S)
    split
    · exact skF_ok fall hr p _ (by omega) (S_exch_ok h hr (by omega) (by omega))
    · exact h
theorem soF_ok {r b : Nat} (fall : Int32) {S : tS} (hr : r < 3) (h : S_ok S) : ∀ k, b + k < 12 ∨ k = 0 → S_ok (soF r b fall S k)
  | 0, _ => h
  | k + 1, hk => skF_ok fall hr (k + 1) _ (by omega) (soF_ok fall hr h k (by omega))
/-! counting up to a value -/
def ltF (f : Nat → Int32) (X : Int) : Nat → Nat
  | 0 => 0
  | k + 1 => ltF f X k + (if (f k).toInt < X then 1 else 0)
theorem ltF_le (f : Nat → Int32) (X : Int) : ∀ k, ltF f X k ≤ k
  | 0 => Nat.le_refl _
  | k + 1 => by
    have := ltF_le f X k
    show ltF f X k + (if (f k).toInt < X then 1 else 0) ≤ k + 1
    split <;> omega
theorem ltF_all {f : Nat → Int32} {X : Int} : ∀ k, (∀ t, t < k → (f t).toInt < X) → ltF f X k = k
  | 0, _ => rfl
  | k + 1, h => by
    show ltF f X k + (if (f k).toInt < X then 1 else 0) = k + 1
    rw [if_pos (h k (by omega)), ltF_all k (fun t ht => h t (by omega))]
theorem ltF_none {f : Nat → Int32} {X : Int} : ∀ k, (∀ t, t < k → ¬ (f t).toInt < X) → ltF f X k = 0
  | 0, _ => rfl
  | k + 1, h => by
    show ltF f X k + (if (f k).toInt < X then 1 else 0) = 0
    rw [if_neg (h k (by omega)), ltF_none k (fun t ht => h t (by omega))]
theorem ltF_at {f : Nat → Int32} {X : Int} : ∀ n, (∀ i j, i < j → j < n → (f i).toInt ≤ (f j).toInt) → ∀ t, t < n → (t < ltF f X n ↔ (f t).toInt < X)
  | 0, _, t, h => absurd h (by omega)
  | n + 1, hs, t, ht => by
    show t < ltF f X n + (if (f n).toInt < X then 1 else 0) ↔ _
    have ih := ltF_at (f := f) (X := X) n (fun i j hij hj => hs i j hij (by omega))
    by_cases c : (f n).toInt < X
    · have hall : ∀ t, t < n → (f t).toInt < X := fun t ht => by have := hs t n ht (by omega); omega
      rw [if_pos c, ltF_all n hall]
      refine ⟨fun _ => ?_, fun _ => ht⟩
      by_cases e : t = n
      · rw [e]; exact c
      · exact hall t (by omega)
    · rw [if_neg c, Nat.add_zero]
      by_cases e : t = n
      · subst e
        have := ltF_le f X t
        exact ⟨fun z => absurd z (by omega), fun z => absurd z c⟩
      · exact ih t (by omega)
theorem ltF_succ {f : Nat → Int32} {X : Int} {x : Int32} (hx : x.toInt = X) : ∀ k, ltF f (X + 1) k = ltF f X k + cnF f x k
  | 0 => rfl
  | k + 1 => by
    have ih := ltF_succ (f := f) hx k
    show ltF f (X + 1) k + (if (f k).toInt < X + 1 then 1 else 0) = ltF f X k + (if (f k).toInt < X then 1 else 0) + (cnF f x k + (if f k = x then 1 else 0))
    rw [ih]
    by_cases c : f k = x
    · rw [if_pos c, if_pos (by rw [c]; omega), if_neg (by rw [c]; omega)]; omega
    · have c2 : (f k).toInt ≠ X := fun z => c (Int32.toInt_inj.mp (z.trans hx.symm))
      rw [if_neg c]
      by_cases d : (f k).toInt < X
      · rw [if_pos d, if_pos (by omega)]; omega
      · rw [if_neg d, if_neg (by omega)]; omega
theorem cn_front (f : Nat → Int32) (x : Int32) : ∀ n, cnF f x (n + 1) = (if f 0 = x then 1 else 0) + cnF (fun t => f (t + 1)) x n
  | 0 => by
    show 0 + (if f 0 = x then 1 else 0) = (if f 0 = x then 1 else 0) + 0
    rw [Nat.zero_add, Nat.add_zero]
  | n + 1 => by
    show cnF f x (n + 1) + (if f (n + 1) = x then 1 else 0) = (if f 0 = x then 1 else 0) + (cnF (fun t => f (t + 1)) x n + (if f (n + 1) = x then 1 else 0))
    rw [cn_front f x n, Nat.add_assoc]
theorem cn_rev (f : Nat → Int32) (x : Int32) : ∀ n, cnF (fun t => f (n - 1 - t)) x n = cnF f x n
  | 0 => rfl
  | n + 1 => by
    rw [cn_front]
    show (if f (n + 1 - 1 - 0) = x then 1 else 0) + cnF (fun t => f (n + 1 - 1 - (t + 1))) x n = cnF f x n + (if f n = x then 1 else 0)
    have e := cnF_cg (f := fun t => f (n + 1 - 1 - (t + 1))) (g := fun t => f (n - 1 - t)) (x := x) n (fun t ht => by
      show f (n + 1 - 1 - (t + 1)) = f (n - 1 - t)
      rw [show n + 1 - 1 - (t + 1) = n - 1 - t by omega])
    rw [e, cn_rev f x n, show n + 1 - 1 - 0 = n by omega, Nat.add_comm]
end GRP21x16
section GRP21x17
/-! the model: sort -/
/-- the sorted values in rising order, and where each goes -/
def rsF (S : tS) (r : Nat) (fall : Int32) (n t : Nat) : Int32 := if fall = 0 then S_v S r 0 t else S_v S r 0 (n - 1 - t)
def psF (fall : Int32) (n t : Nat) : Nat := if fall = 0 then t else n - 1 - t
theorem rs_facts {S : tS} {r n : Nat} (fall : Int32) (h : S_ok S) (hr : r < 3) (hn : n ≤ 12) : (∀ i j, i < j → j < n → (rsF (soF r 0 fall S (n - 1)) r fall n i).toInt ≤ (rsF (soF r 0 fall S (n - 1)) r fall n j).toInt) ∧ (∀ x, cnF (rsF (soF r 0 fall S (n - 1)) r fall n) x n = cnF (S_v S r 0) x n) ∧ (∀ t, t < n → okV (rsF (soF r 0 fall S (n - 1)) r fall n t)) := by
  have hs := soF_sorted r 0 fall S (n - 1)
  have hok := soF_ok (r := r) (b := 0) fall hr h (n - 1) (by omega)
  refine ⟨fun i j hij hj => ?_, fun x => ?_, fun t ht => ?_⟩
  · unfold rsF
    by_cases c : fall = 0
    · rw [if_pos c, if_pos c]
      have := hs i j hij (by omega)
      unfold leF at this
      rw [if_pos c] at this; exact this
    · rw [if_neg c, if_neg c]
      have := hs (n - 1 - j) (n - 1 - i) (by omega) (by omega)
      unfold leF at this
      rw [if_neg c] at this; exact this
  · have e := soF_cn r 0 fall x S n (n - 1) (by omega)
    rw [← e]
    by_cases c : fall = 0
    · exact cnF_cg n (fun t _ => by unfold rsF; rw [if_pos c])
    · rw [← cn_rev (S_v (soF r 0 fall S (n - 1)) r 0) x n]
      exact cnF_cg n (fun t _ => by unfold rsF; rw [if_neg c])
  · unfold rsF
    split
    · exact hok.2.2 r _ hr (by omega)
    · exact hok.2.2 r _ hr (by omega)
theorem okV_rng {x : Int32} (h : okV x) : -1000 ≤ x.toInt ∧ x.toInt ≤ 99 := by
  have e1 : (99 : Int32).toInt = 99 := rfl
  have e2 : (-99 : Int32).toInt = -99 := rfl
  have e3 : (-1000 : Int32).toInt = -1000 := rfl
  rcases h with h | ⟨h1, h2⟩
  · rw [h, e3]; omega
  · rw [i32_lt] at h1; rw [i32_le] at h2; omega
theorem v_int {i : Nat} (h : i < 2000) : (nI i - nI 1000).toInt = (i : Int) - 1000 := nI_sub (by omega) (by omega)
theorem v_succ (i : Nat) : nI i - nI 1000 + 1 = nI (i + 1) - nI 1000 := by
  rw [Int32.sub_eq_add_neg, Int32.sub_eq_add_neg, Int32.add_assoc, Int32.add_comm (-nI 1000), ← Int32.add_assoc, nI_1]
section MOR
variable {K : tK} {G : tG} {M : tM} {S : tS} {th : Int32} {post : Int32 → tG → Prop}
theorem m_sort {v fall : Int32} (h : MoR G M S th) (hp : mRes M G post (sp_li S (S_tw S v) fun r b n => (0, nI n, soF r b fall S (n - 1)))) : w_X3_sort K post (some M.1.1) v fall G := by
  have e2 : (2 : Int32).toInt = 2 := rfl
  have e0 : (0 : Int32).toInt = 0 := rfl
  refine m_isIn (fun q => ⟨fun _ => ?_, fun z => absurd z (by decide)⟩) (fun q => ⟨fun z => absurd rfl z, fun _ => ?_⟩)
  · obtain ⟨r, hr2, rfl⟩ := nI_of2 (M := 2) (n := 2) rfl q.1 q.2
    have hr : r < 3 := by omega
    obtain ⟨n, hs, hn⟩ := h.1.1 r hr
    rw [S_tw_nI hr, hs] at hp
    have hp : mRes M G post (0, nI n, soF r 0 fall S (n - 1)) := hp
    obtain ⟨hsort, hcn, hrok⟩ := rs_facts (S := S) (r := r) (n := n) fall h.1 hr hn
    generalize hc : rsF (soF r 0 fall S (n - 1)) r fall n = c at hsort hcn hrok
    refine m_rcv h (m_fails h (fun G1 f1 h1 => ⟨fun _ => m_rcv h1 (m_all h1 (show r < 7 by omega) hs (fun q f G2 q0 q1 q2 q3 h2 => ?_)), fun z => absurd (by decide) z⟩))
    have hqm := MoC_no (MoR_C h1) q0
    have hpos : ∀ t, t < n → psF fall n t < n := fun t ht => by unfold psF; split <;> omega
    have hinj : ∀ t t', t < n → t' < n → psF fall n t = psF fall n t' → t = t' := fun t t' ht ht' e => by
      unfold psF at e
      split at e <;> omega
    have hs3 : ∀ k, (pcF S r (psF fall n) c k).1 r = some (r, 0, n) := fun k => by rw [(pcF_1 S r _ c k).1]; exact hs
    have outer : ∀ (k i : Nat) (G3 : tG), i + k = 1100 → fr (moW M) G2 G3 → MoR G3 M (pcF S r (psF fall n) c (ltF c ((i : Int) - 1000) n)) 0 → w_X3_sort_38 K post (k + 1) (some M.1.1) (nI r) fall (some q) (nI (ltF c ((i : Int) - 1000) n)) (nI i - nI 1000) G3 := by
      intro k
      induction k with
      | zero =>
        intro i G3 hi f3 h3
        show w_X3_sort_38_b K post (w_X3_sort_38 K post 0) (some M.1.1) (nI r) fall (some q) (nI (ltF c ((i : Int) - 1000) n)) (nI i - nI 1000) G3
        have e : i = 1100 := by omega
        subst e
        have e3 := f3 _ _ q1 hqm
        refine ⟨fun _ => lenA_i e3 (mr hp (fr_tr (fr_al f1 q0 q3) f3) ?_), fun z => absurd (by decide) z⟩
        have hall : ltF c (((1100 : Nat) : Int) - 1000) n = n := ltF_all n (fun t ht => by have := (okV_rng (hrok t ht)).2; omega)
        rw [hall] at h3
        obtain ⟨g1, g2, g3⟩ := soF_1 r 0 fall S (n - 1)
        refine MoR_eq h3 ⟨fun j' _ => ?_, fun r' p _ hpl => ?_, (pcF_1 S r _ c n).2.trans g2.symm⟩ (soF_ok fall hr h.1 (n - 1) (by omega))
        · rw [(pcF_1 S r _ c n).1]; show _ = (soF r 0 fall S (n - 1)).1 j'; rw [g1]
        · show _ = (soF r 0 fall S (n - 1)).2.1 r' p
          by_cases d : r' = r
          · subst d
            rw [hs3 n] at hpl
            have hpl : p < n := hpl
            have hh := fun t ht => pcF_hit S r' (psF fall n) c (n := n) hinj n (Nat.le_refl _) t ht
            by_cases cf : fall = 0
            · have hh := hh p hpl
              have e1 : psF fall n p = p := by unfold psF; rw [if_pos cf]
              rw [e1] at hh
              rw [hh, ← hc]
              unfold rsF
              rw [if_pos cf]
              show (soF r' 0 fall S (n - 1)).2.1 r' (0 + p) = _
              rw [Nat.zero_add]
            · have hh := hh (n - 1 - p) (by omega)
              have e1 : psF fall n (n - 1 - p) = p := by unfold psF; rw [if_neg cf]; omega
              rw [e1] at hh
              rw [hh, ← hc]
              unfold rsF
              rw [if_neg cf]
              show (soF r' 0 fall S (n - 1)).2.1 r' (0 + (n - 1 - (n - 1 - p))) = _
              exact S_cg (by omega)
          · rw [g3 r' p d, pcF_miss _ _ _ _ n (Or.inl d)]
      | succ k ih =>
        intro i G3 hi f3 h3
        show w_X3_sort_38_b K post (w_X3_sort_38 K post (k + 1)) (some M.1.1) (nI r) fall (some q) (nI (ltF c ((i : Int) - 1000) n)) (nI i - nI 1000) G3
        have e3 := f3 _ _ q1 hqm
        have vi := v_int (i := i) (by omega)
        have hsu := ltF_succ (f := c) (X := (i : Int) - 1000) vi n
        refine ⟨fun z => ?_, fun _ => m_oftenIn e3 (by omega) ?_⟩
        · rw [i32_lt, vi] at z
          have : (99 : Int32).toInt = 99 := rfl
          omega
        · rw [cnF_cg n q2, ← hcn]
          have inner : ∀ (m d : Nat) (G4 : tG), d + m = cnF c (nI i - nI 1000) n → fr (moW M) G2 G4 → MoR G4 M (pcF S r (psF fall n) c (ltF c ((i : Int) - 1000) n + d)) 0 → w_X3_sort_53 K post (w_X3_sort_38 K post (k + 1)) (m + 1) (some M.1.1) (nI r) fall (some q) (nI (ltF c ((i : Int) - 1000) n + d)) (nI i - nI 1000) (nI m) G4 := by
            intro m
            induction m with
            | zero =>
              intro d G4 hd f4 h4
              show w_X3_sort_53_b K post (w_X3_sort_38 K post (k + 1)) (w_X3_sort_53 K post (w_X3_sort_38 K post (k + 1)) 0) (some M.1.1) (nI r) fall (some q) (nI (ltF c ((i : Int) - 1000) n + d)) (nI i - nI 1000) (nI 0) G4
              refine ⟨fun _ => ?_, fun z => absurd (by decide) z⟩
              have ed : ltF c ((i : Int) - 1000) n + d = ltF c (((i + 1 : Nat) : Int) - 1000) n := by
                rw [show (((i + 1 : Nat) : Int) - 1000) = (i : Int) - 1000 + 1 by omega, hsu]; omega
              rw [ed] at h4 ⊢
              rw [v_succ]
              exact ih (i + 1) G4 (by omega) f4 h4
            | succ m ihm =>
              intro d G4 hd f4 h4
              show w_X3_sort_53_b K post (w_X3_sort_38 K post (k + 1)) (w_X3_sort_53 K post (w_X3_sort_38 K post (k + 1)) (m + 1)) (some M.1.1) (nI r) fall (some q) (nI (ltF c ((i : Int) - 1000) n + d)) (nI i - nI 1000) (nI (m + 1)) G4
              have hle := ltF_le c ((i : Int) - 1000 + 1) n
              have e4 := f4 _ _ q1 hqm
              have hat : ltF c ((i : Int) - 1000) n + d < n := by omega
              have hcn12 := cnF_le c (nI i - nI 1000) n
              have hca : c (ltF c ((i : Int) - 1000) n + d) = nI i - nI 1000 := by
                have a1 := (ltF_at (X := (i : Int) - 1000) n hsort _ hat)
                have a2 := (ltF_at (X := (i : Int) - 1000 + 1) n hsort _ hat)
                have b1 : ¬ (c (ltF c ((i : Int) - 1000) n + d)).toInt < (i : Int) - 1000 := fun z => absurd (a1.mpr z) (by omega)
                have b2 := a2.mp (by omega)
                apply Int32.toInt_inj.mp
                rw [vi]; omega
              have step : ∀ u, u = nI (psF fall n (ltF c ((i : Int) - 1000) n + d)) → w_X3_sort_76 K post (w_X3_sort_38 K post (k + 1)) (w_X3_sort_53 K post (w_X3_sort_38 K post (k + 1)) (m + 1)) (some M.1.1) (nI r) fall (some q) (nI (ltF c ((i : Int) - 1000) n + d)) (nI i - nI 1000) (nI (m + 1)) (some M.1.1) (nI r) u G4 := fun u hu => by
                subst hu
                refine m_rcv h4 (m_write h4 (show r < 7 by omega) (hs3 _) (hpos _ hat) (by rw [← hca]; exact hrok _ hat) (fun G5 f5 h5 => ?_))
                rw [nI_1, nI_m1, nI_pred]
                refine ihm (d + 1) G5 (by omega) (fr_tr f4 f5) ?_
                rw [Nat.zero_add, ← hca] at h5
                exact h5
              refine ⟨fun z => absurd z (nI_nle (by omega) (by omega)), fun _ => ⟨fun cf => step _ ?_, fun cf => lenA_i e4 (step _ ?_)⟩⟩
              · unfold psF; rw [if_pos cf]
              · unfold psF; rw [if_neg cf]
                have eq : nI n - 1 = nI (n - 1) := by
                  have q2 : n = n - 1 + 1 := by omega
                  rw [q2, nI_pred]; congr 1
                show nI n - 1 - nI (ltF c ((i : Int) - 1000) n + d) = _
                rw [eq, nI_subN (by omega)]
          exact ⟨_, inner (cnF c (nI i - nI 1000) n) 0 G3 (by omega) f3 h3⟩
    have h0 : ltF c (((0 : Nat) : Int) - 1000) n = 0 := ltF_none n (fun t ht => by have := (okV_rng (hrok t ht)).1; omega)
    have fin := outer 1100 0 G2 (by omega) (fr_rf _ _) (by rw [h0]; exact h2)
    rw [h0] at fin
    exact ⟨_, fin⟩
  · have hc : S_tw S v = none := by
      unfold S_tw
      rw [if_neg]
      intro z
      exact q ⟨by rw [i32_lt]; omega, by rw [i32_le]; omega⟩
    rw [hc] at hp
    exact m_rcv h (m_fails h (fun G1 f1 h1 => ⟨fun z => absurd z (by decide), fun _ => mr (a := (1, 0, S)) hp f1 h1⟩))
end MOR
end GRP21x17
