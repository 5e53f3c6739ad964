/-! the constructor -/
def S_0 : tS := ((fun j => if j < 3 then some (j, 0, 4) else none), (fun _ _ => 0), 0, 0)
theorem S_0_ok : S_ok S_0 := by
  refine ⟨fun r hr => ⟨4, if_pos hr, by omega⟩, fun j r b n hj e => ?_, fun r i _ _ => (show okV 0 from Or.inr ⟨by decide, by decide⟩)⟩
  have e : (if j < 3 then some (j, 0, 4) else none) = some (r, b, n) := e
  by_cases c : j < 3
  · rw [if_pos c] at e; cases e
    exact ⟨c, 4, if_pos c, by omega⟩
  · rw [if_neg c] at e; cases e
def iniI (G0 G : tG) (x la sp i : Nat) (va : Nat → Nat) (lf : Nat → Option Nat) : Prop := fr (fun q => q = x) G0 G ∧ (G0 la = none ∧ G0 sp = none) ∧ G x = some (oTw la sp 0 0) ∧ G la = some (eL lf) ∧ G sp = some (eI 12 fun _ => 0) ∧ (∀ r, r < i → G0 (va r) = none ∧ G (va r) = some (eI 12 fun _ => 0) ∧ va r ≠ sp ∧ ∃ o, lf r = some o ∧ G o = some (oRL (nI r) (va r) 0 4)) ∧ (∀ r r', r < i → r' < i → va r = va r' → r = r') ∧ ∀ j, i ≤ j → lf j = none
theorem fr_none {P : Nat → Prop} {G G1 : tG} (h : fr P G G1) {q : Nat} (hq : G1 q = none) (hp : ¬ P q) : G q = none := by
  cases e : G q with
  | none => rfl
  | some v => rw [h q v e hp] at hq; cases hq
theorem iniI_R {G0 G : tG} {x la sp : Nat} {va : Nat → Nat} {lf : Nat → Option Nat} (h : iniI G0 G x la sp 3 va lf) : TwR G (x, la, sp, va) S_0 := by
  obtain ⟨-, -, h1, h2, h3, h4, h5, h6⟩ := h
  refine ⟨S_0_ok, ⟨lf, h1, h2, fun j hj => ?_⟩, ⟨_, h3⟩, fun r hr => (h4 r hr).2.1, fun r hr => (h4 r hr).2.2.1, h5⟩
  by_cases c : j < 3
  · obtain ⟨o, e1, e2⟩ := (h4 j c).2.2.2
    exact Or.inr ⟨o, j, 0, 4, e1, if_pos c, e2⟩
  · exact Or.inl ⟨h6 j (by omega), if_neg c⟩
theorem c_init1 {K : tK} {G : tG} {x : Nat} {pv : tG → Prop} (hx : G x = some (.inr (3, [.null, .null, .int 0, .int 0]))) (hp : ∀ G' L, L.1 = x → TwR G' L S_0 → fr (fun q => q = x) G G' → (∀ q, clsW L q → q = x ∨ G q = none) → pv G') : w_X1_init K pv (some x) G := by
  have main : ∀ k i G1 la sp va lf, i + k = 3 → iniI G G1 x la sp i va lf → w_X1_init_33 K pv (k + 1) (2 + 2 * i) (19 + 16 * i) (some x) (nI i) G1 := by
    intro k
    induction k with
    | zero =>
      intro i G1 la sp va lf hi h
      show w_X1_init_33_b K pv (w_X1_init_33 K pv 0) (2 + 2 * i) (19 + 16 * i) (some x) (nI i) G1
      have e : i = 3 := by omega
      subst e
      refine ⟨fun _ => hp G1 (x, la, sp, va) rfl (iniI_R h) h.1 ?_, fun c => absurd (by decide) c⟩
      rintro q (c | c | c | c | c | c)
      · exact Or.inl c
      · exact Or.inr (c ▸ h.2.1.1)
      · exact Or.inr (c ▸ h.2.1.2)
      · exact Or.inr (c ▸ (h.2.2.2.2.2.1 0 (by omega)).1)
      · exact Or.inr (c ▸ (h.2.2.2.2.2.1 1 (by omega)).1)
      · exact Or.inr (c ▸ (h.2.2.2.2.2.1 2 (by omega)).1)
    | succ k ih =>
      intro i G1 la sp va lf hi h
      show w_X1_init_33_b K pv (w_X1_init_33 K pv (k + 1)) (2 + 2 * i) (19 + 16 * i) (some x) (nI i) G1
      obtain ⟨f0, ⟨n1, n2⟩, h1, h2, h3, h4, h5, h6⟩ := h
      refine ⟨fun c => absurd (show nI 3 ≤ nI i from c) (nI_ge (by omega) (by omega)), fun _ => gfR_i _ h1 rfl (lenA_i h2 ⟨fun c => absurd (show nI 7 ≤ nI i from c) (nI_ge (by omega) (by omega)), fun _ => gfR_i _ h1 rfl ⟨⟨by omega, by omega⟩, fun q hq => ⟨⟨by omega, by omega⟩, 12, rfl, by omega, fun a ha => ⟨⟨q, rfl⟩, ?_⟩⟩⟩⟩)⟩
      have hqa : a ≠ q := fun c => by rw [c, tg_s] at ha; cases ha
      have ha1 : G1 a = none := by rw [tg_n _ _ hqa] at ha; exact ha
      have hqx : q ≠ x := fun c => by rw [c, h1] at hq; cases hq
      have hax : a ≠ x := fun c => by rw [c, h1] at ha1; cases ha1
      refine c_initRL (tg_keep (tg_s _ _ _) (fun c => hqa c.symm)) (fun G2 q1 q2 => ?_)
      have k2 : ∀ y e, G1 y = some e → G2 y = some e := fun y e hy => by
        have y1 : y ≠ q := fun c => by rw [c, hq] at hy; cases hy
        have y2 : y ≠ a := fun c => by rw [c, ha1] at hy; cases hy
        rw [q2 y y1, tg_n _ _ y2, tg_n _ _ y1]; exact hy
      have ka : G2 a = some (eI 12 fun _ => 0) := by rw [q2 a hqa, tg_s]
      have q1 : G2 q = some (oRL (nI i) a 0 4) := q1
      have h22 := k2 _ _ h2
      refine asR_i h22 rfl (j := i) (by omega) (by omega) (Or.inr ⟨q, _, rfl, q1, ⟨_, rfl⟩⟩) ?_
      have kk : ∀ y e, G2 y = some e → y ≠ la → tg_up G2 la (eL (va_up lf i (some q))) y = some e := fun y e hy hn => tg_keep hy hn
      have goal := ih (i + 1) (tg_up G2 la (eL (va_up lf i (some q)))) la sp (fun r => if r = i then a else va r) (va_up lf i (some q)) (by omega) ?_
      · rw [show 2 + 2 * i + 1 + 1 = 2 + 2 * (i + 1) by omega, show 19 + 16 * i + 4 + 12 = 19 + 16 * (i + 1) by omega, nI_1]
        exact goal
      · have hasp : a ≠ sp := fun c => by rw [c, h3] at ha1; cases ha1
        refine ⟨?_, ⟨n1, n2⟩, kk _ _ (k2 _ _ h1) (ne_OI h1 h2), tg_s _ _ _, kk _ _ (k2 _ _ h3) (ne_of_G h3 h2 (fun e => by cases e)), fun r hr => ?_, fun r r' hr hr' e => ?_, fun j hj => ?_⟩
        · intro y e hy hn
          have hy1 := f0 y e hy hn
          exact kk _ _ (k2 _ _ hy1) (fun c => by rw [c, n1] at hy; cases hy)
        · show G (if r = i then a else va r) = none ∧ tg_up G2 la _ (if r = i then a else va r) = _ ∧ (if r = i then a else va r) ≠ sp ∧ ∃ o, va_up lf i (some q) r = some o ∧ tg_up G2 la _ o = some (oRL (nI r) (if r = i then a else va r) 0 4)
          by_cases c : r = i
          · subst c
            simp only [if_true]
            refine ⟨fr_none f0 ha1 hax, kk _ _ ka (ne_of_G ka h22 (fun e => by cases e)), hasp, q, va_up_s _ _ _, kk _ _ q1 (ne_OI q1 h22)⟩
          · simp only [if_neg c]
            obtain ⟨g1, g2, g3, o, g4, g5⟩ := h4 r (by omega)
            exact ⟨g1, kk _ _ (k2 _ _ g2) (ne_of_G g2 h2 (fun e => by cases e)), g3, o, by rw [va_up_n _ _ c]; exact g4, kk _ _ (k2 _ _ g5) (ne_OI g5 h2)⟩
        · have e : (if r = i then a else va r) = (if r' = i then a else va r') := e
          have hva : ∀ s, s < i → va s ≠ a := fun s hs c => by
            have g2 := (h4 s hs).2.1
            rw [c, ha1] at g2; cases g2
          by_cases c : r = i
          · by_cases c' : r' = i
            · rw [c, c']
            · rw [if_pos c, if_neg c'] at e
              exact absurd e.symm (hva r' (by omega))
          · by_cases c' : r' = i
            · rw [if_neg c, if_pos c'] at e
              exact absurd e (hva r (by omega))
            · rw [if_neg c, if_neg c'] at e
              exact h5 r r' (by omega) (by omega) e
        · rw [va_up_n _ _ (by omega)]; exact h6 j (by omega)
  refine ⟨⟨x, rfl⟩, ⟨by omega, by omega⟩, 7, rfl, by omega, fun la hla => ?_⟩
  have x1 : x ≠ la := fun c => by rw [← c, hx] at hla; cases hla
  refine pfV_i (tg_keep hx x1) (Nat.le_of_ble_eq_true rfl) ⟨⟨by omega, by omega⟩, 12, rfl, by omega, fun sp hsp => ?_⟩
  have x2 : x ≠ sp := fun c => by rw [← c, tg_s] at hsp; cases hsp
  have s1 : sp ≠ la := fun c => by rw [c, tg_n _ _ (fun z => x1 z.symm), tg_s] at hsp; cases hsp
  have sp0 : G sp = none := by rw [tg_n _ _ (fun z => x2 z.symm), tg_n _ _ s1] at hsp; exact hsp
  refine pfV_i (tg_keep (tg_s _ _ _) x2) (Nat.le_of_ble_eq_true rfl) (pfV_i (tg_s _ _ _) (Nat.le_of_ble_eq_true rfl) (pfV_i (tg_s _ _ _) (Nat.le_of_ble_eq_true rfl) ⟨4, ?_⟩))
  refine main 3 0 _ la sp (fun _ => 0) (fun _ => none) (by omega) ⟨?_, ⟨hla, sp0⟩, tg_s _ _ _, ?_, ?_, fun r hr => absurd hr (by omega), fun r r' hr => absurd hr (by omega), fun _ _ => rfl⟩
  · intro y e hy hn
    have hn : y ≠ x := hn
    have y1 : y ≠ la := fun c => by rw [c, hla] at hy; cases hy
    have y2 : y ≠ sp := fun c => by rw [c, sp0] at hy; cases hy
    rw [tg_n _ _ hn, tg_n _ _ hn, tg_n _ _ hn, tg_n _ _ y2, tg_n _ _ hn, tg_n _ _ y1]; exact hy
  · have l1 : la ≠ x := fun c => x1 c.symm
    have l2 : la ≠ sp := fun c => s1 c.symm
    rw [tg_n _ _ l1, tg_n _ _ l1, tg_n _ _ l1, tg_n _ _ l2, tg_n _ _ l1, tg_s]
  · have l1 : sp ≠ x := fun c => x2 c.symm
    rw [tg_n _ _ l1, tg_n _ _ l1, tg_n _ _ l1, tg_s]
