section TCA
variable {p : Program} {l : Launch} {e : Env} {R : Room} {s : State} {m : MethodId} {args : Array Value} {below : List Frame} {meth : Method} {c : Code} {H : Heap} {locs : List Loc} {cells slots : Nat} {Q : State → Prop}
variable {D : va_G} {K : tK} {A : Nat → Prop} {Ts : List Cond} {own : String} {cc : ByteArray} {nL : Nat} {pc : Nat} {ls : Array Slot} {rest : List Value} {G : tG}
variable {y : MethodName} {ws : List Cond} {rm : Room} {mc ms n index maxL : Nat} {bytes : ByteArray} {ret : Option FieldType} {As : List Value} {pr : Option Value → tG → Prop} {px : String → tG → Prop} {wp : tG → Prop} {st0 : List Value}
section TXU
variable {Qc : Array Value → State → Outcome → State → Prop} {MC MS : Nat}
theorem tr_iret (C : tc_B p l s m args meth c D K A Ts own cc nL) (hr : meth.sig.returnType = some .int) (hdg : decode cc pc = .ok (.ireturn, 1)) (hc : cells ≤ MC) (hs : slots ≤ MS) (hW : tg_W D A s H G) (hS : va_S A s.heap H locs) {x : Int32} {post : Int32 → tG → Prop} (hw : post x G) : W p l e R s m args below meth c H locs cells slots (MQ below (tc_Qc D A (retI post)) args s MC MS A) (F0 m pc ls [.int x]) :=
  W.widen hc hs (W.iret C.1.1 C.1.2.1 hr (fun t ht hWm => ⟨⟨_, G, rfl, ⟨x, rfl, hw⟩, by rw [ht]; exact hW.moved hWm.alike⟩, hS.F ht⟩) hS.2.2 hdg C.2.1)
theorem tr_zret (C : tc_B p l s m args meth c D K A Ts own cc nL) {ty : FieldType} (hr : meth.sig.returnType = some ty) (hdg : decode cc pc = .ok (.ireturn, 1)) (hc : cells ≤ MC) (hs : slots ≤ MS) (hW : tg_W D A s H G) (hS : va_S A s.heap H locs) {x : Int32} {post : Int32 → tG → Prop} (hw : narrow ty (.int x) = .int x ∧ post x G) : W p l e R s m args below meth c H locs cells slots (MQ below (tc_Qc D A (retI post)) args s MC MS A) (F0 m pc ls [.int x]) :=
  W.widen hc hs (W.zret C.1.1 C.1.2.1 hr hw.1 (fun t ht hWm => ⟨⟨_, G, rfl, ⟨x, rfl, hw.2⟩, by rw [ht]; exact hW.moved hWm.alike⟩, hS.F ht⟩) hS.2.2 hdg C.2.1)
theorem tr_lret (C : tc_B p l s m args meth c D K A Ts own cc nL) (hr : meth.sig.returnType = some .long) (hdg : decode cc pc = .ok (.lreturn, 1)) (hc : cells ≤ MC) (hs : slots ≤ MS) (hW : tg_W D A s H G) (hS : va_S A s.heap H locs) {x : Int64} {post : Int64 → tG → Prop} (hw : post x G) : W p l e R s m args below meth c H locs cells slots (MQ below (tc_Qc D A (retL post)) args s MC MS A) (F0 m pc ls [.long x]) :=
  W.widen hc hs (W.lret C.1.1 C.1.2.1 hr (fun t ht hWm => ⟨⟨_, G, rfl, ⟨x, rfl, hw⟩, by rw [ht]; exact hW.moved hWm.alike⟩, hS.F ht⟩) hS.2.2 hdg C.2.1)
theorem tr_vret (C : tc_B p l s m args meth c D K A Ts own cc nL) (hr : meth.sig.returnType = none) (hdg : decode cc pc = .ok (.return_, 1)) (hc : cells ≤ MC) (hs : slots ≤ MS) (hW : tg_W D A s H G) (hS : va_S A s.heap H locs) {post : tG → Prop} (hw : post G) : W p l e R s m args below meth c H locs cells slots (MQ below (tc_Qc D A (retV post)) args s MC MS A) (F0 m pc ls []) :=
  W.widen hc hs (W.vret C.1.1 C.1.2.1 hr (fun t ht hWm => ⟨⟨_, G, rfl, ⟨rfl, hw⟩, by rw [ht]; exact hW.moved hWm.alike⟩, hS.F ht⟩) hS.2.2 hdg C.2.1)
theorem va_rf_is (r : Option Nat) : va_rf r = .null ∨ ∃ a, va_rf r = .ref a := by
  cases r with
  | none => exact Or.inl rfl
  | some a => exact Or.inr ⟨a, rfl⟩
theorem tr_aret (C : tc_B p l s m args meth c D K A Ts own cc nL) {rt : FieldType} (hr : meth.sig.returnType = some rt) (hrt : (∃ n, rt = .object n) ∨ ∃ t, rt = .array t) (hdg : decode cc pc = .ok (.areturn, 1)) (hc : cells ≤ MC) (hs : slots ≤ MS) (hW : tg_W D A s H G) (hS : va_S A s.heap H locs) {x : Option Nat} {post : Option Nat → tG → Prop} (hw : post x G) : W p l e R s m args below meth c H locs cells slots (MQ below (tc_Qc D A (retR post)) args s MC MS A) (F0 m pc ls [va_rf x]) :=
  W.widen hc hs (W.aret C.1.1 C.1.2.1 hr hrt (va_rf_is x) (fun t ht hWm => ⟨⟨_, G, rfl, ⟨x, rfl, hw⟩, by rw [ht]; exact hW.moved hWm.alike⟩, hS.F ht⟩) hS.2.2 hdg C.2.1)
end TXU
/-! String constants, statics, arraycopy, Math -/
end TCA
