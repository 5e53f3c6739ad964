/-! the class, the model and the law's own cell together -/
theorem tg_none {G : tG} {a b : Nat} {e : tE} (h : tg_up G a e b = none) : b ≠ a ∧ G b = none := by
  by_cases c : b = a
  · rw [c, tg_s] at h; cases h
  · rw [tg_n _ _ c] at h; exact ⟨c, h⟩
theorem tg_up_up (G : tG) (a : Nat) (e e' : tE) : tg_up (tg_up G a e) a e' = tg_up G a e' := by
  funext b
  by_cases c : b = a
  · rw [c, tg_s, tg_s]
  · rw [tg_n _ _ c, tg_n _ _ c, tg_n _ _ c]
theorem TwR_some {G : tG} {L : tL} {S : tS} (h : TwR G L S) {q : Nat} (hq : clsW L q) : ∃ e, G q = some e := by
  obtain ⟨h1, ⟨lf, h2, h3, h4⟩, ⟨g, h5⟩, h6, -, -⟩ := h
  rcases hq with e | e | e | e | e | e <;> subst e
  · exact ⟨_, h2⟩
  · exact ⟨_, h3⟩
  · exact ⟨_, h5⟩
  · exact ⟨_, h6 0 (by omega)⟩
  · exact ⟨_, h6 1 (by omega)⟩
  · exact ⟨_, h6 2 (by omega)⟩
theorem MoC_obj {G : tG} {M : tM} {S : tS} {th : Int32} (h : MoC G M S th) {q ci : Nat} {fs : List Value} (hq : G q = some (.inr (ci, fs))) (hci : ci ≠ 5) : ¬ moW M q := by
  obtain ⟨⟨sm, h2⟩, ⟨mf, h3, -⟩, ⟨fo, fb, fl, ⟨h5, h6, h7⟩, -⟩, h9, -⟩ := h
  rintro (e | e | e | e | e | e | e | e) <;> subst e
  · rw [h2] at hq; cases hq; exact hci rfl
  · rw [h3] at hq; cases hq
  · rw [h5] at hq; cases hq
  · rw [h6] at hq; cases hq
  · rw [h7] at hq; cases hq
  · obtain ⟨f, g, -⟩ := h9 0 (by omega); rw [g] at hq; cases hq
  · obtain ⟨f, g, -⟩ := h9 1 (by omega); rw [g] at hq; cases hq
  · obtain ⟨f, g, -⟩ := h9 2 (by omega); rw [g] at hq; cases hq
abbrev oOut (n : Int64) (s : Value) : tE := .inr (4, [.long n, s])
/-- the class's rows S, the model's rows S', what the model threw, what Out holds -/
def Bo (G : tG) (L : tL) (M : tM) (S S' : tS) (th : Int32) (u : Nat) (n : Int64) (s : Value) : Prop := TwR G L S ∧ MoR G M S' th ∧ G u = some (oOut n s) ∧ ∀ q, clsW L q → ¬ moW M q
section BOA
variable {G : tG} {L : tL} {M : tM} {S S' : tS} {th : Int32} {u : Nat} {n : Int64} {s : Value}
theorem Bo_cls {G' : tG} {S2 : tS} (h : Bo G L M S S' th u n s) (hf : fr (clsW L) G G') (ht : TwR G' L S2) : Bo G' L M S2 S' th u n s := by
  obtain ⟨h1, h2, h3, h4⟩ := h
  exact ⟨ht, MoR_fr h2 hf (fun q hq hc => h4 q hc hq), hf _ _ h3 (TwR_obj h1 h3 (by decide)), h4⟩
theorem Bo_mod {G' : tG} {M' : tM} {S2 : tS} {th2 : Int32} (h : Bo G L M S S' th u n s) (hf : fr (moW M) G G') (hw : ∀ q, moW M' q → moW M q ∨ G q = none) (ht : MoR G' M' S2 th2) : Bo G' L M' S S2 th2 u n s := by
  obtain ⟨h1, h2, h3, h4⟩ := h
  refine ⟨TwR_fr h1 hf h4 (fun q fs hq hg => MoC_obj (MoR_C h2) hg (by decide) hq), ht, hf _ _ h3 (MoC_obj (MoR_C h2) h3 (by decide)), fun q hq hm => ?_⟩
  rcases hw q hm with c | c
  · exact h4 q hq c
  · obtain ⟨e, he⟩ := TwR_some h1 hq
    rw [c] at he; cases he
theorem Bo_out (h : Bo G L M S S' th u n s) (n2 : Int64) (s2 : Value) : Bo (tg_up G u (oOut n2 s2)) L M S S' th u n2 s2 := by
  obtain ⟨h1, h2, h3, h4⟩ := h
  have hu : ¬ clsW L u := TwR_obj h1 h3 (by decide)
  have hm : ¬ moW M u := MoC_obj (MoR_C h2) h3 (by decide)
  refine ⟨TwR_fr (P := fun q => q = u) h1 (fr_up _ rfl) (fun q hq e => hu (e ▸ hq)) (fun q fs e hg => ?_), MoR_fr (P := fun q => q = u) h2 (fr_up _ rfl) (fun q hq e => hm (e ▸ hq)), tg_s _ _ _, h4⟩
  rw [e, h3] at hg; cases hg
/-- what a wrapper makes of the class's answer: an int -/
theorem L_res {a : tA} {post : Int32 → tG → Prop} (h : Bo G L M S S' th u n s) (ha : a.1 < 3) (hp : ∀ G' n', Bo G' L M a.2.2 S' th u n' s → (a.1 = 0 → n' = a.2.1.toInt64) → post (nI a.1) G') : tRes L G (fun x G_6 => pfV G_6 (some u) 4 0 (.long x.toInt64) (fun G_10 => post 0 G_10)) (fun E GX => ((E = "java/lang/IndexOutOfBoundsException" → post 1 GX) ∧ (¬ E = "java/lang/IndexOutOfBoundsException" → ((E = "java/lang/IllegalArgumentException" → post 2 GX) ∧ (¬ E = "java/lang/IllegalArgumentException" → False))))) a := by
  intro G' f h'
  have hb := Bo_cls h f h'
  refine ⟨fun e => ?_, fun e => ⟨fun _ => ?_, fun z => absurd rfl z⟩, fun e => ⟨fun z => absurd z (by decide), fun _ => ⟨fun _ => ?_, fun z => absurd rfl z⟩⟩⟩
  · refine pfV_i hb.2.2.1 (Nat.le_of_ble_eq_true rfl) ?_
    have := hp _ _ (Bo_out hb a.2.1.toInt64 s) (fun _ => rfl)
    rw [e] at this; exact this
  · have := hp _ _ hb (fun z => absurd (e.symm.trans z) (by decide))
    rw [e] at this; exact this
  · have := hp _ _ hb (fun z => absurd (e.symm.trans z) (by decide))
    rw [e] at this; exact this
/-- an int, one kind of refusal alone -/
theorem L_res1 {a : tA} {post : Int32 → tG → Prop} (h : Bo G L M S S' th u n s) (ha : a.1 < 2) (hp : ∀ G' n', Bo G' L M a.2.2 S' th u n' s → (a.1 = 0 → n' = a.2.1.toInt64) → post (nI a.1) G') : tRes L G (fun x G_6 => pfV G_6 (some u) 4 0 (.long x.toInt64) (fun G_10 => post 0 G_10)) (fun E GX => ((E = "java/lang/IndexOutOfBoundsException" → post 1 GX) ∧ (¬ E = "java/lang/IndexOutOfBoundsException" → False))) a := by
  intro G' f h'
  have hb := Bo_cls h f h'
  refine ⟨fun e => ?_, fun e => ⟨fun _ => ?_, fun z => absurd rfl z⟩, fun e => absurd e (by omega)⟩
  · refine pfV_i hb.2.2.1 (Nat.le_of_ble_eq_true rfl) ?_
    have := hp _ _ (Bo_out hb a.2.1.toInt64 s) (fun _ => rfl)
    rw [e] at this; exact this
  · have := hp _ _ hb (fun z => absurd (e.symm.trans z) (by decide))
    rw [e] at this; exact this
/-- an int, the other kind of refusal alone, told as 1 -/
theorem L_res2 {a : tA} {post : Int32 → tG → Prop} (h : Bo G L M S S' th u n s) (ha : a.1 = 0 ∨ a.1 = 2) (hp : ∀ G' n', Bo G' L M a.2.2 S' th u n' s → (a.1 = 0 → n' = a.2.1.toInt64) → post (if a.1 = 0 then 0 else 1) G') : tRes L G (fun x G_6 => pfV G_6 (some u) 4 0 (.long x.toInt64) (fun G_10 => post 0 G_10)) (fun E GX => ((E = "java/lang/IllegalArgumentException" → post 1 GX) ∧ (¬ E = "java/lang/IllegalArgumentException" → False))) a := by
  intro G' f h'
  have hb := Bo_cls h f h'
  refine ⟨fun e => ?_, fun e => absurd e (by omega), fun e => ⟨fun _ => ?_, fun z => absurd rfl z⟩⟩
  · refine pfV_i hb.2.2.1 (Nat.le_of_ble_eq_true rfl) ?_
    have := hp _ _ (Bo_out hb a.2.1.toInt64 s) (fun _ => rfl)
    rw [e] at this; exact this
  · have := hp _ _ hb (fun z => absurd (e.symm.trans z) (by decide))
    rw [e] at this; exact this
/-- a truth value -/
theorem L_resB {a : tA} {post : Int32 → tG → Prop} (h : Bo G L M S S' th u n s) (ha : a.1 < 3) (hp : ∀ G' n', Bo G' L M a.2.2 S' th u n' s → (a.1 = 0 → n' = if a.2.1 = 0 then 0 else 1) → post (nI a.1) G') : tRes L G (fun x G_4 => ((x = 0 → pfV G_4 (some u) 4 0 (.long 0) (fun G_15 => post 0 G_15)) ∧ (¬ x = 0 → pfV G_4 (some u) 4 0 (.long 1) (fun G_15 => post 0 G_15)))) (fun E GX => ((E = "java/lang/IndexOutOfBoundsException" → post 1 GX) ∧ (¬ E = "java/lang/IndexOutOfBoundsException" → ((E = "java/lang/IllegalArgumentException" → post 2 GX) ∧ (¬ E = "java/lang/IllegalArgumentException" → False))))) a := by
  intro G' f h'
  have hb := Bo_cls h f h'
  refine ⟨fun e => ⟨fun c => ?_, fun c => ?_⟩, fun e => ⟨fun _ => ?_, fun z => absurd rfl z⟩, fun e => ⟨fun z => absurd z (by decide), fun _ => ⟨fun _ => ?_, fun z => absurd rfl z⟩⟩⟩
  · refine pfV_i hb.2.2.1 (Nat.le_of_ble_eq_true rfl) ?_
    have := hp _ _ (Bo_out hb 0 s) (fun _ => by rw [if_pos c])
    rw [e] at this; exact this
  · refine pfV_i hb.2.2.1 (Nat.le_of_ble_eq_true rfl) ?_
    have := hp _ _ (Bo_out hb 1 s) (fun _ => by rw [if_neg c])
    rw [e] at this; exact this
  · have := hp _ _ hb (fun z => absurd (e.symm.trans z) (by decide))
    rw [e] at this; exact this
  · have := hp _ _ hb (fun z => absurd (e.symm.trans z) (by decide))
    rw [e] at this; exact this
theorem L_resB1 {a : tA} {post : Int32 → tG → Prop} (h : Bo G L M S S' th u n s) (ha : a.1 < 2) (hp : ∀ G' n', Bo G' L M a.2.2 S' th u n' s → (a.1 = 0 → n' = if a.2.1 = 0 then 0 else 1) → post (nI a.1) G') : tRes L G (fun x G_4 => ((x = 0 → pfV G_4 (some u) 4 0 (.long 0) (fun G_15 => post 0 G_15)) ∧ (¬ x = 0 → pfV G_4 (some u) 4 0 (.long 1) (fun G_15 => post 0 G_15)))) (fun E GX => ((E = "java/lang/IndexOutOfBoundsException" → post 1 GX) ∧ (¬ E = "java/lang/IndexOutOfBoundsException" → False))) a := by
  intro G' f h'
  have hb := Bo_cls h f h'
  refine ⟨fun e => ⟨fun c => ?_, fun c => ?_⟩, fun e => ⟨fun _ => ?_, fun z => absurd rfl z⟩, fun e => absurd e (by omega)⟩
  · refine pfV_i hb.2.2.1 (Nat.le_of_ble_eq_true rfl) ?_
    have := hp _ _ (Bo_out hb 0 s) (fun _ => by rw [if_pos c])
    rw [e] at this; exact this
  · refine pfV_i hb.2.2.1 (Nat.le_of_ble_eq_true rfl) ?_
    have := hp _ _ (Bo_out hb 1 s) (fun _ => by rw [if_neg c])
    rw [e] at this; exact this
  · have := hp _ _ hb (fun z => absurd (e.symm.trans z) (by decide))
    rw [e] at this; exact this
/-- the model's answer -/
theorem L_mod {a : tA} {post : Int32 → tG → Prop} (h : Bo G L M S S' th u n s) (hp : ∀ G' M', M'.1 = M.1 → Bo G' L M' S a.2.2 (nI a.1) u n s → post a.2.1 G') : mRes M G post a := by
  intro G' M' e f w h'
  exact hp G' M' e (Bo_mod h f w h')
end BOA
/-! the model's constructor -/
def foI : Nat → Int32 := upd (upd (upd (upd (upd (upd (upd (fun _ => 0) 0 0) 1 1) 2 2) 3 (-1)) 4 (-1)) 5 (-1)) 6 (-1)
def flI : Nat → Int32 := upd (upd (upd (upd (upd (upd (upd (fun _ => 0) 0 4) 1 4) 2 4) 3 0) 4 0) 5 0) 6 0
theorem m_init {K : tK} {G : tG} {x : Nat} {pv : tG → Prop} (hx : G x = some (.inr (5, [.null, .null, .null, .null, .int 0, .int 0, .int 0, .long 0]))) (hp : ∀ G' M, M.1.1 = x → MoR G' M S_0 0 → fr (fun q => q = x) G G' → (∀ q, moW M q → q = x ∨ G q = none) → pv G') : w_X3_init K pv (some x) G := by
  refine ⟨⟨x, rfl⟩, 3, rfl, by omega, fun A hA => ?_⟩
  have xA : x ≠ A := fun z => by rw [← z, hx] at hA; cases hA
  refine ⟨4, rfl, by omega, fun p0 hp0 => ⟨(fun z => (by cases z)), ?_⟩⟩
  obtain ⟨a0, g0⟩ := tg_none hp0
  have x0 : x ≠ p0 := fun z => by rw [← z, hx] at g0; cases g0
  refine asR_i (j := 0) (tg_keep (tg_s _ _ _) (fun z => a0 z.symm)) rfl (by omega) (by omega) (Or.inr ⟨p0, _, rfl, tg_s _ _ _, ⟨_, rfl⟩⟩) ?_
  refine ⟨4, rfl, by omega, fun p1 hp1 => ⟨(fun z => (by cases z)), ?_⟩⟩
  obtain ⟨a1, b1⟩ := tg_none hp1
  obtain ⟨n10, b1⟩ := tg_none b1
  obtain ⟨-, g1⟩ := tg_none b1
  have x1 : x ≠ p1 := fun z => by rw [← z, hx] at g1; cases g1
  refine asR_i (j := 1) (tg_keep (tg_s _ _ _) (fun z => a1 z.symm)) rfl (by omega) (by omega) (Or.inr ⟨p1, _, rfl, tg_s _ _ _, ⟨_, rfl⟩⟩) ?_
  refine ⟨4, rfl, by omega, fun p2 hp2 => ⟨(fun z => (by cases z)), ?_⟩⟩
  obtain ⟨a2, b2⟩ := tg_none hp2
  obtain ⟨n21, b2⟩ := tg_none b2
  obtain ⟨-, b2⟩ := tg_none b2
  obtain ⟨n20, b2⟩ := tg_none b2
  obtain ⟨-, g2⟩ := tg_none b2
  have x2 : x ≠ p2 := fun z => by rw [← z, hx] at g2; cases g2
  refine asR_i (j := 2) (tg_keep (tg_s _ _ _) (fun z => a2 z.symm)) rfl (by omega) (by omega) (Or.inr ⟨p2, _, rfl, tg_s _ _ _, ⟨_, rfl⟩⟩) ?_
  -- what stands now
  generalize hG7 : tg_up (tg_up (tg_up (tg_up (tg_up (tg_up (tg_up G A _) p0 _) A _) p1 _) A _) p2 _) A _ = G7
  have kx : G7 x = some (.inr (5, [.null, .null, .null, .null, .int 0, .int 0, .int 0, .long 0])) := by
    rw [← hG7, tg_n _ _ xA, tg_n _ _ x2, tg_n _ _ xA, tg_n _ _ x1, tg_n _ _ xA, tg_n _ _ x0, tg_n _ _ xA]; exact hx
  have kA : ∃ mf, G7 A = some (eR mf) ∧ mf 0 = some p0 ∧ mf 1 = some p1 ∧ mf 2 = some p2 := by
    rw [← hG7, tg_s]
    exact ⟨_, rfl, rfl, rfl, rfl⟩
  have k0 : G7 p0 = some (eI 4 fun _ => 0) := by
    rw [← hG7, tg_n _ _ a0, tg_n _ _ n20.symm, tg_n _ _ a0, tg_n _ _ n10.symm, tg_n _ _ a0, tg_s]
  have k1 : G7 p1 = some (eI 4 fun _ => 0) := by
    rw [← hG7, tg_n _ _ a1, tg_n _ _ n21.symm, tg_n _ _ a1, tg_s]
  have k2 : G7 p2 = some (eI 4 fun _ => 0) := by
    rw [← hG7, tg_n _ _ a2, tg_s]
  have kf : fr (fun q => q = x) G G7 := fun q e hq _ => by
    have hn : ∀ y, G y = none → q ≠ y := fun y hy z => by rw [z, hy] at hq; cases hq
    rw [← hG7, tg_n _ _ (hn A hA), tg_n _ _ (hn p2 g2), tg_n _ _ (hn A hA), tg_n _ _ (hn p1 g1), tg_n _ _ (hn A hA), tg_n _ _ (hn p0 g0), tg_n _ _ (hn A hA)]; exact hq
  have kn : ∀ q, G7 q = none → G q = none := fun q hq => by
    rw [← hG7] at hq
    obtain ⟨-, hq⟩ := tg_none hq
    obtain ⟨-, hq⟩ := tg_none hq
    obtain ⟨-, hq⟩ := tg_none hq
    obtain ⟨-, hq⟩ := tg_none hq
    obtain ⟨-, hq⟩ := tg_none hq
    obtain ⟨-, hq⟩ := tg_none hq
    exact (tg_none hq).2
  clear hG7 hp0 hp1 hp2
  obtain ⟨mf, kA, m0, m1, m2⟩ := kA
  refine pfV_i kx (Nat.le_of_ble_eq_true rfl) ⟨7, rfl, by omega, fun fo hfo => ?_⟩
  obtain ⟨xfo, hfo⟩ := tg_none hfo
  have nefo : ∀ {y e}, G7 y = some e → y ≠ fo := fun hy z => by rw [z, hfo] at hy; cases hy
  refine asI_i (j := 0) (tg_s _ _ _) rfl (by omega) (by omega) ?_
  rw [tg_up_up]
  refine asI_i (j := 1) (tg_s _ _ _) rfl (by omega) (by omega) ?_
  rw [tg_up_up]
  refine asI_i (j := 2) (tg_s _ _ _) rfl (by omega) (by omega) ?_
  rw [tg_up_up]
  refine asI_i (j := 3) (tg_s _ _ _) rfl (by omega) (by omega) ?_
  rw [tg_up_up]
  refine asI_i (j := 4) (tg_s _ _ _) rfl (by omega) (by omega) ?_
  rw [tg_up_up]
  refine asI_i (j := 5) (tg_s _ _ _) rfl (by omega) (by omega) ?_
  rw [tg_up_up]
  refine asI_i (j := 6) (tg_s _ _ _) rfl (by omega) (by omega) ?_
  rw [tg_up_up]
  refine pfV_i (tg_keep (tg_s _ _ _) (fun z => xfo z.symm)) (Nat.le_of_ble_eq_true rfl) ⟨7, rfl, by omega, fun fb hfb => ?_⟩
  obtain ⟨xfb, hfb⟩ := tg_none hfb
  obtain ⟨nfbfo, hfb⟩ := tg_none hfb
  obtain ⟨-, hfb⟩ := tg_none hfb
  have nefb : ∀ {y e}, G7 y = some e → y ≠ fb := fun hy z => by rw [z, hfb] at hy; cases hy
  refine pfV_i (tg_keep (tg_s _ _ _) (fun z => xfb z.symm)) (Nat.le_of_ble_eq_true rfl) ⟨7, rfl, by omega, fun fl hfl => ?_⟩
  obtain ⟨xfl, hfl⟩ := tg_none hfl
  obtain ⟨nflfb, hfl⟩ := tg_none hfl
  obtain ⟨-, hfl⟩ := tg_none hfl
  obtain ⟨nflfo, hfl⟩ := tg_none hfl
  obtain ⟨-, hfl⟩ := tg_none hfl
  have nefl : ∀ {y e}, G7 y = some e → y ≠ fl := fun hy z => by rw [z, hfl] at hy; cases hy
  refine asI_i (j := 0) (tg_s _ _ _) rfl (by omega) (by omega) ?_
  rw [tg_up_up]
  refine asI_i (j := 1) (tg_s _ _ _) rfl (by omega) (by omega) ?_
  rw [tg_up_up]
  refine asI_i (j := 2) (tg_s _ _ _) rfl (by omega) (by omega) ?_
  rw [tg_up_up]
  refine asI_i (j := 3) (tg_s _ _ _) rfl (by omega) (by omega) ?_
  rw [tg_up_up]
  refine asI_i (j := 4) (tg_s _ _ _) rfl (by omega) (by omega) ?_
  rw [tg_up_up]
  refine asI_i (j := 5) (tg_s _ _ _) rfl (by omega) (by omega) ?_
  rw [tg_up_up]
  refine asI_i (j := 6) (tg_s _ _ _) rfl (by omega) (by omega) ?_
  rw [tg_up_up]
  refine pfV_i (tg_keep (tg_s _ _ _) (fun z => xfl z.symm)) (Nat.le_of_ble_eq_true rfl) ?_
  have keep : ∀ {y : Nat} {e e1 e2 e3 e4 e5 e6 e7 : tE}, G7 y = some e → y ≠ x → tg_up (tg_up (tg_up (tg_up (tg_up (tg_up (tg_up G7 x e1) fo e2) x e3) fb e4) x e5) fl e6) x e7 y = some e := fun {y e e1 e2 e3 e4 e5 e6 e7} hy hyx => by
    rw [tg_n _ _ hyx, tg_n _ _ (nefl hy), tg_n _ _ hyx, tg_n _ _ (nefb hy), tg_n _ _ hyx, tg_n _ _ (nefo hy), tg_n _ _ hyx]; exact hy
  refine hp _ ((x, A, fo, fb, fl), fun r => if r = 0 then p0 else if r = 1 then p1 else p2) rfl ⟨S_0_ok, ⟨0, tg_s _ _ _⟩, ⟨mf, keep kA (fun z => xA z.symm), fun r hr => ?_⟩, ⟨foI, fun _ => 0, flI, ⟨?_, ?_, ?_⟩, ?_⟩, fun r hr => ?_, ⟨fun z => nfbfo z.symm, fun z => nflfo z.symm, fun z => nflfb z.symm⟩, fun r hr => ?_, fun r r' hr hr' e => ?_⟩ (fun q e hq hn => ?_) (fun q hq => ?_)
  · rcases (show r = 0 ∨ r = 1 ∨ r = 2 by omega) with rfl | rfl | rfl
    · exact m0
    · exact m1
    · exact m2
  · show tg_up _ _ _ fo = _
    rw [tg_n _ _ xfo, tg_n _ _ (fun z => nflfo z.symm), tg_n _ _ xfo, tg_n _ _ (fun z => nfbfo z.symm), tg_n _ _ xfo, tg_s]
    rfl
  · show tg_up _ _ _ fb = _
    rw [tg_n _ _ xfb, tg_n _ _ (fun z => nflfb z.symm), tg_n _ _ xfb, tg_s]
  · show tg_up _ _ _ fl = _
    rw [tg_n _ _ xfl, tg_s]
    rfl
  · intro j hj
    rcases (show j = 0 ∨ j = 1 ∨ j = 2 ∨ j = 3 ∨ j = 4 ∨ j = 5 ∨ j = 6 by omega) with rfl | rfl | rfl | rfl | rfl | rfl | rfl
    · exact Or.inr ⟨0, 0, 4, rfl, rfl, rfl, rfl⟩
    · exact Or.inr ⟨1, 0, 4, rfl, rfl, rfl, rfl⟩
    · exact Or.inr ⟨2, 0, 4, rfl, rfl, rfl, rfl⟩
    · exact Or.inl ⟨rfl, rfl⟩
    · exact Or.inl ⟨rfl, rfl⟩
    · exact Or.inl ⟨rfl, rfl⟩
    · exact Or.inl ⟨rfl, rfl⟩
  · rcases (show r = 0 ∨ r = 1 ∨ r = 2 by omega) with rfl | rfl | rfl
    · exact ⟨_, keep k0 (fun z => x0 z.symm), fun _ _ => rfl⟩
    · exact ⟨_, keep k1 (fun z => x1 z.symm), fun _ _ => rfl⟩
    · exact ⟨_, keep k2 (fun z => x2 z.symm), fun _ _ => rfl⟩
  · rcases (show r = 0 ∨ r = 1 ∨ r = 2 by omega) with rfl | rfl | rfl
    · exact ⟨nefo k0, nefb k0, nefl k0⟩
    · exact ⟨nefo k1, nefb k1, nefl k1⟩
    · exact ⟨nefo k2, nefb k2, nefl k2⟩
  · rcases (show r = 0 ∨ r = 1 ∨ r = 2 by omega) with rfl | rfl | rfl <;> rcases (show r' = 0 ∨ r' = 1 ∨ r' = 2 by omega) with rfl | rfl | rfl
    · rfl
    · exact absurd e.symm n10
    · exact absurd e.symm n20
    · exact absurd e n10
    · rfl
    · exact absurd e.symm n21
    · exact absurd e n20
    · exact absurd e n21
    · rfl
  · exact keep (kf q e hq hn) hn
  · rcases hq with e | e | e | e | e | e | e | e
    · exact Or.inl e
    · exact Or.inr (e ▸ hA)
    · exact Or.inr (e ▸ kn _ hfo)
    · exact Or.inr (e ▸ kn _ hfb)
    · exact Or.inr (e ▸ kn _ hfl)
    · exact Or.inr (e ▸ g0)
    · exact Or.inr (e ▸ g1)
    · exact Or.inr (e ▸ g2)
