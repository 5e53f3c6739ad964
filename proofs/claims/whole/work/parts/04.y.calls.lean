/-! ROWS for texts that are compared -/
/-- a byte of an own array or of a constant -/
def alQ (K : tK) (G : tG) (r : Option Nat) (i : Int32) (P : Int32 → Prop) : Prop := alI G r i .byte P ∨ alK K r i P
section TRQ
variable {p : Program} {l : Launch} {e : Env} {R : Room} {s : State} {m : MethodId} {args : Array Value} {below : List Frame} {meth : Method} {c : Code} {H : Heap} {locs : List Loc} {cells slots : Nat} {Q : State → Prop}
variable {D : va_G} {K : tK} {A : Nat → Prop} {Ts : List Cond} {own : String} {cc : ByteArray} {nL : Nat} {pc : Nat} {ls : Array Slot} {rest : List Value} {G : tG}
theorem tr_alQ (C : tc_B p l s m args meth c D K A Ts own cc nL) (hdg : decode cc pc = .ok (.baload, 1)) (hW : tg_W D A s H G) (hS : va_S A s.heap H locs) {r : Option Nat} {i : Int32} {P : Int32 → Prop} (hw : alQ K G r i P) (kk : ∀ x : Int32, P x → W p l e R s m args below meth c H locs cells slots Q (F0 m (pc + 1) ls (.int x :: rest))) : W p l e R s m args below meth c H locs cells slots Q (F0 m pc ls (.int i :: va_rf r :: rest)) := by
  rcases hw with hw | hw
  · exact tr_alB C hdg hW hw kk
  · exact tr_alK C hdg hS hw kk
theorem tr_strC (C : tc_B p l s m args meth c D K A Ts own cc nL) {T : u_T} {N ci a : Nat} (hc : vwCl[ci]? = some ("java/lang/String", T, N)) (hW : tg_W D A s H G) (hS : va_S A s.heap H locs) (hr : (∃ fs, G a = some (.inr (ci, fs))) ∨ ∃ v, K.1 a = some v) : ∃ cell : Cell, H[a]? = some cell ∧ cell.vm.isStatics = false ∧ s.vm.findClass "java/lang/String" = some cell.cls := by
  rcases hr with ⟨fs, hG⟩ | ⟨v, hK⟩
  · exact tc_recv C hW hc hG
  · obtain ⟨cell, h1, h2, h3, -⟩ := va_O.kept (C.2.2.2.1.2.2.2.2.2.1 a v hK).1 hS.2.1
    exact ⟨cell, h1, h2, h3⟩
theorem tr_instS (C : tc_B p l s m args meth c D K A Ts own cc nL) {T : u_T} {N ci index : Nat} (hlink : Cond.classLink own index "java/lang/String" ∈ Ts) (hc : vwCl[ci]? = some ("java/lang/String", T, N)) (hdg : decode cc pc = .ok (.instanceof index, 3)) (hW : tg_W D A s H G) (hS : va_S A s.heap H locs) {r : Option Nat} {P : Prop} (hw : rcvS K G r ci P) (kk : P → W p l e R s m args below meth c H locs cells slots Q (F0 m (pc + 3) ls (.int 1 :: rest))) : W p l e R s m args below meth c H locs cells slots Q (F0 m pc ls (va_rf r :: rest)) := by
  obtain ⟨a, rfl, hr, hP⟩ := hw
  exact va_instE C.1.1 C.1.2.1 C.1.2.2.2.1 (C.1.2.2.2.2 _ hlink) (tr_strC C hc hW hS hr) hdg (kk hP)
theorem tr_castS (C : tc_B p l s m args meth c D K A Ts own cc nL) {T : u_T} {N ci index : Nat} (hlink : Cond.classLink own index "java/lang/String" ∈ Ts) (hc : vwCl[ci]? = some ("java/lang/String", T, N)) (hdg : decode cc pc = .ok (.checkcast index, 3)) (hW : tg_W D A s H G) (hS : va_S A s.heap H locs) {r : Option Nat} {P : Prop} (hw : rcvS K G r ci P) (kk : P → W p l e R s m args below meth c H locs cells slots Q (F0 m (pc + 3) ls (va_rf r :: rest))) : W p l e R s m args below meth c H locs cells slots Q (F0 m pc ls (va_rf r :: rest)) := by
  obtain ⟨a, rfl, hr, hP⟩ := hw
  exact va_castE C.1.1 C.1.2.1 C.1.2.2.2.1 (C.1.2.2.2.2 _ hlink) (tr_strC C hc hW hS hr) hdg (kk hP)
theorem tr_gfRN (C : tc_B p l s m args meth c D K A Ts own cc nL) {ref C0 host : String} {T : u_T} {N ci index : Nat} (hin : ∀ w ∈ u_ws C0 T N, w ∈ Ts) (hc : vwCl[ci]? = some (C0, T, N)) {k : Nat} (hk : k < N) (hlink : va_Nw (.fieldLinkNest own index ref (T k).2.1 (T k).2.2.1 host) s) (href : (T k).1 = ref) (hdg : decode cc pc = .ok (.getfield index, 3)) (hW : tg_W D A s H G)
    {r : Option Nat} {P : Option Nat → Prop} (hw : gfR G r ci k P) (kk : ∀ x : Option Nat, P x → W p l e R s m args below meth c H locs cells slots Q (F0 m (pc + 3) ls (va_rf x :: rest))) : W p l e R s m args below meth c H locs cells slots Q (F0 m pc ls (va_rf r :: rest)) := by
  obtain ⟨a, fs, x, rfl, hG, hx, hP⟩ := hw
  have hp : va_P D vwCl [(a, .inr (ci, fs))] H := fun k q hk => by
    cases k with
    | zero => cases hk; exact (hW a _ hG).2
    | succ k => simp at hk
  exact va_getN C.1.1 C.1.2.1 C.1.2.2.2.2 hin C.1.2.2.2.1 C.2.2.1 hp 0 rfl hc k hk (va_Nw.use rfl hlink) (fun _ h => by rw [← href]; exact h) hx hdg (kk x hP)
end TRQ
