/-! THE MODEL's cells: the object; rows; rowsOf, begins, lengths; the rows' own arrays -/
abbrev tM : Type := (Nat × Nat × Nat × Nat × Nat) × (Nat → Nat)
abbrev oMo (M : tM) (k rf th : Int32) (sm : Int64) : tE := .inr (5, [.ref M.1.2.1, .ref M.1.2.2.1, .ref M.1.2.2.2.1, .ref M.1.2.2.2.2, .int k, .int rf, .int th, .long sm])
abbrev eR (mf : Nat → Option Nat) : tE := .inl (.array .int, 3, .inr (.inr (.inr (.inr mf))))
def moW (M : tM) (q : Nat) : Prop := q = M.1.1 ∨ q = M.1.2.1 ∨ q = M.1.2.2.1 ∨ q = M.1.2.2.2.1 ∨ q = M.1.2.2.2.2 ∨ q = M.2 0 ∨ q = M.2 1 ∨ q = M.2 2
/-- the three arrays by lists stand for the lists -/
def moL (S : tS) (fo fb fl : Nat → Int32) : Prop := ∀ j, j < 7 → (S.1 j = none ∧ fo j = -1) ∨ ∃ r b n, S.1 j = some (r, b, n) ∧ fo j = nI r ∧ fb j = nI b ∧ fl j = nI n
def MoR (G : tG) (M : tM) (S : tS) (th : Int32) : Prop := S_ok S ∧ (∃ sm, G M.1.1 = some (oMo M S.2.2.1 S.2.2.2 th sm)) ∧ (∃ mf, G M.1.2.1 = some (eR mf) ∧ ∀ r, r < 3 → mf r = some (M.2 r)) ∧
  (∃ fo fb fl, (G M.1.2.2.1 = some (eI 7 fo) ∧ G M.1.2.2.2.1 = some (eI 7 fb) ∧ G M.1.2.2.2.2 = some (eI 7 fl)) ∧ moL S fo fb fl) ∧
  (∀ r, r < 3 → ∃ f, G (M.2 r) = some (eI (lnF (S.1 r)) f) ∧ ∀ i, i < lnF (S.1 r) → f i = S.2.1 r i) ∧
  (M.1.2.2.1 ≠ M.1.2.2.2.1 ∧ M.1.2.2.1 ≠ M.1.2.2.2.2 ∧ M.1.2.2.2.1 ≠ M.1.2.2.2.2) ∧ (∀ r, r < 3 → M.2 r ≠ M.1.2.2.1 ∧ M.2 r ≠ M.1.2.2.2.1 ∧ M.2 r ≠ M.1.2.2.2.2) ∧ (∀ r r', r < 3 → r' < 3 → M.2 r = M.2 r' → r = r')
/-- the model's own fields: knocks, refusals, thrown -/
theorem MoR_own {G : tG} {M : tM} {S : tS} {th : Int32} (h : MoR G M S th) (k rf th2 : Int32) (sm : Int64) : MoR (tg_up G M.1.1 (oMo M k rf th2 sm)) M (S.1, S.2.1, k, rf) th2 := by
  obtain ⟨h1, ⟨sm0, h2⟩, ⟨mf, h3, h4⟩, ⟨fo, fb, fl, ⟨h5, h6, h7⟩, h8⟩, h9, h10, h11, h12⟩ := h
  refine ⟨h1, ⟨sm, tg_s _ _ _⟩, ⟨mf, tg_keep h3 (fun e => ne_OI h2 h3 e.symm), h4⟩, ⟨fo, fb, fl, ⟨tg_keep h5 (fun e => ne_OI h2 h5 e.symm), tg_keep h6 (fun e => ne_OI h2 h6 e.symm), tg_keep h7 (fun e => ne_OI h2 h7 e.symm)⟩, h8⟩, fun r hr => ?_, h10, h11, h12⟩
  obtain ⟨f, g1, g2⟩ := h9 r hr
  exact ⟨f, tg_keep g1 (fun e => ne_OI h2 g1 e.symm), g2⟩
/-- what the model's step leaves: nothing else is written; what it makes was free -/
def mRes (M : tM) (G : tG) (post : Int32 → tG → Prop) (a : tA) : Prop := ∀ (G' : tG) (M' : tM), M'.1 = M.1 → fr (moW M) G G' → (∀ q, moW M' q → moW M q ∨ G q = none) → MoR G' M' a.2.2 (nI a.1) → post a.2.1 G'
