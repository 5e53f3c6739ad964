section TCA
variable {p : Program} {l : Launch} {e : Env} {R : Room} {s : State} {m : MethodId} {args : Array Value} {below : List Frame} {meth : Method} {c : Code} {H : Heap} {locs : List Loc} {cells slots : Nat} {Q : State → Prop}
variable {D : va_G} {K : tK} {A : Nat → Prop} {Ts : List Cond} {own : String} {cc : ByteArray} {nL : Nat} {pc : Nat} {ls : Array Slot} {rest : List Value} {G : tG}
variable {y : MethodName} {ws : List Cond} {rm : Room} {mc ms n index maxL : Nat} {bytes : ByteArray} {ret : Option FieldType} {As : List Value} {pr : Option Value → tG → Prop} {px : String → tG → Prop} {wp : tG → Prop} {st0 : List Value}
theorem tr_backI {a : Array Value} {post : Int32 → tG → Prop} (hr : va_Run p l e R s m args below meth c H locs cells slots mc ms (F0 m pc ls st0) rest (tc_Qc D A (retI post) a) A) (hS : va_S A s.heap H locs)
    (kk : ∀ (x : Int32) (G : tG) (H : Heap) (locs : List Loc), post x G → tg_W D A s H G → va_S A s.heap H locs → W p l e R s m args below meth c H locs (cells + mc) (slots + ms) Q (F0 m (pc + 3) ls (.int x :: rest))) : W p l e R s m args below meth c H locs cells slots Q (F0 m pc ls st0) :=
  tr_back hr hS (fun v G H1 locs1 hp => by obtain ⟨x, rfl, hp⟩ := hp; exact kk x G H1 locs1 hp)
theorem tr_backL {a : Array Value} {post : Int64 → tG → Prop} (hr : va_Run p l e R s m args below meth c H locs cells slots mc ms (F0 m pc ls st0) rest (tc_Qc D A (retL post) a) A) (hS : va_S A s.heap H locs)
    (kk : ∀ (x : Int64) (G : tG) (H : Heap) (locs : List Loc), post x G → tg_W D A s H G → va_S A s.heap H locs → W p l e R s m args below meth c H locs (cells + mc) (slots + ms) Q (F0 m (pc + 3) ls (.long x :: rest))) : W p l e R s m args below meth c H locs cells slots Q (F0 m pc ls st0) :=
  tr_back hr hS (fun v G H1 locs1 hp => by obtain ⟨x, rfl, hp⟩ := hp; exact kk x G H1 locs1 hp)
theorem tr_backR {a : Array Value} {post : Option Nat → tG → Prop} (hr : va_Run p l e R s m args below meth c H locs cells slots mc ms (F0 m pc ls st0) rest (tc_Qc D A (retR post) a) A) (hS : va_S A s.heap H locs)
    (kk : ∀ (x : Option Nat) (G : tG) (H : Heap) (locs : List Loc), post x G → tg_W D A s H G → va_S A s.heap H locs → W p l e R s m args below meth c H locs (cells + mc) (slots + ms) Q (F0 m (pc + 3) ls (va_rf x :: rest))) : W p l e R s m args below meth c H locs cells slots Q (F0 m pc ls st0) :=
  tr_back hr hS (fun v G H1 locs1 hp => by obtain ⟨x, rfl, hp⟩ := hp; exact kk x G H1 locs1 hp)
theorem tr_backV {a : Array Value} {post : tG → Prop} (hr : va_Run p l e R s m args below meth c H locs cells slots mc ms (F0 m pc ls st0) rest (tc_Qc D A (retV post) a) A) (hS : va_S A s.heap H locs)
    (kk : ∀ (G : tG) (H : Heap) (locs : List Loc), post G → tg_W D A s H G → va_S A s.heap H locs → W p l e R s m args below meth c H locs (cells + mc) (slots + ms) Q (F0 m (pc + 3) ls rest)) : W p l e R s m args below meth c H locs cells slots Q (F0 m pc ls st0) :=
  tr_back hr hS (fun v G H1 locs1 hp => by obtain ⟨rfl, hp⟩ := hp; exact kk G H1 locs1 hp)
section TXU
variable {Qc : Array Value → State → Outcome → State → Prop} {MC MS : Nat}
/-- what the callee throws goes on to the caller -/
theorem tx_pass (hlocks : meth.locks = false) (ht : ∀ x ∈ c.exceptionTable.toList, False) (hc : cells + mc ≤ MC) (hs : slots + ms ≤ MS) : ∀ (E : String) (ce : Cell) (q9 : Addr) (G : tG) (H1 : Heap) (locs1 : List Loc), px E G → tg_W D A s H1 G → va_S A s.heap H1 locs1 → H1[q9]? = some ce → ce.vm = .none → s.vm.findClass E = some ce.cls → vx_W p l e R s m args below meth c H1 locs1 (cells + mc) (slots + ms) (vx_MQ below Qc (tc_XC D A px) args s MC MS A) (F0 m pc ls rest) q9 := by
  intro E ce q9 G H1 locs1 hp hW hS hce hcv hcl
  exact vx_out (fun x hx => (ht x hx).elim) hlocks hce hcv hcl (fun t ht hal => ⟨⟨G, hp, by rw [ht]; exact hW.moved hal⟩, hS.F ht⟩) hS.2.2 hc hs
theorem tx_backI {a : Array Value} {post : Int32 → tG → Prop} (hr : vx_Run p l e R s m args below meth c H locs cells slots mc ms (F0 m pc ls st0) rest (tc_Qc D A (retI post) a) (tc_XC D A px) A) (hS : va_S A s.heap H locs) (hlocks : meth.locks = false) (ht : ∀ x ∈ c.exceptionTable.toList, False) (hc : cells + mc ≤ MC) (hs : slots + ms ≤ MS)
    (kk : ∀ (x : Int32) (G : tG) (H : Heap) (locs : List Loc), post x G → tg_W D A s H G → va_S A s.heap H locs → W p l e R s m args below meth c H locs (cells + mc) (slots + ms) (vx_MQ below Qc (tc_XC D A px) args s MC MS A) (F0 m (pc + 3) ls (.int x :: rest))) : W p l e R s m args below meth c H locs cells slots (vx_MQ below Qc (tc_XC D A px) args s MC MS A) (F0 m pc ls st0) :=
  tx_back hr hS (tx_pass hlocks ht hc hs) (fun v G H1 locs1 hp => by obtain ⟨x, rfl, hp⟩ := hp; exact kk x G H1 locs1 hp)
theorem tx_backL {a : Array Value} {post : Int64 → tG → Prop} (hr : vx_Run p l e R s m args below meth c H locs cells slots mc ms (F0 m pc ls st0) rest (tc_Qc D A (retL post) a) (tc_XC D A px) A) (hS : va_S A s.heap H locs) (hlocks : meth.locks = false) (ht : ∀ x ∈ c.exceptionTable.toList, False) (hc : cells + mc ≤ MC) (hs : slots + ms ≤ MS)
    (kk : ∀ (x : Int64) (G : tG) (H : Heap) (locs : List Loc), post x G → tg_W D A s H G → va_S A s.heap H locs → W p l e R s m args below meth c H locs (cells + mc) (slots + ms) (vx_MQ below Qc (tc_XC D A px) args s MC MS A) (F0 m (pc + 3) ls (.long x :: rest))) : W p l e R s m args below meth c H locs cells slots (vx_MQ below Qc (tc_XC D A px) args s MC MS A) (F0 m pc ls st0) :=
  tx_back hr hS (tx_pass hlocks ht hc hs) (fun v G H1 locs1 hp => by obtain ⟨x, rfl, hp⟩ := hp; exact kk x G H1 locs1 hp)
theorem tx_backR {a : Array Value} {post : Option Nat → tG → Prop} (hr : vx_Run p l e R s m args below meth c H locs cells slots mc ms (F0 m pc ls st0) rest (tc_Qc D A (retR post) a) (tc_XC D A px) A) (hS : va_S A s.heap H locs) (hlocks : meth.locks = false) (ht : ∀ x ∈ c.exceptionTable.toList, False) (hc : cells + mc ≤ MC) (hs : slots + ms ≤ MS)
    (kk : ∀ (x : Option Nat) (G : tG) (H : Heap) (locs : List Loc), post x G → tg_W D A s H G → va_S A s.heap H locs → W p l e R s m args below meth c H locs (cells + mc) (slots + ms) (vx_MQ below Qc (tc_XC D A px) args s MC MS A) (F0 m (pc + 3) ls (va_rf x :: rest))) : W p l e R s m args below meth c H locs cells slots (vx_MQ below Qc (tc_XC D A px) args s MC MS A) (F0 m pc ls st0) :=
  tx_back hr hS (tx_pass hlocks ht hc hs) (fun v G H1 locs1 hp => by obtain ⟨x, rfl, hp⟩ := hp; exact kk x G H1 locs1 hp)
theorem tx_backV {a : Array Value} {post : tG → Prop} (hr : vx_Run p l e R s m args below meth c H locs cells slots mc ms (F0 m pc ls st0) rest (tc_Qc D A (retV post) a) (tc_XC D A px) A) (hS : va_S A s.heap H locs) (hlocks : meth.locks = false) (ht : ∀ x ∈ c.exceptionTable.toList, False) (hc : cells + mc ≤ MC) (hs : slots + ms ≤ MS)
    (kk : ∀ (G : tG) (H : Heap) (locs : List Loc), post G → tg_W D A s H G → va_S A s.heap H locs → W p l e R s m args below meth c H locs (cells + mc) (slots + ms) (vx_MQ below Qc (tc_XC D A px) args s MC MS A) (F0 m (pc + 3) ls rest)) : W p l e R s m args below meth c H locs cells slots (vx_MQ below Qc (tc_XC D A px) args s MC MS A) (F0 m pc ls st0) :=
  tx_back hr hS (tx_pass hlocks ht hc hs) (fun v G H1 locs1 hp => by obtain ⟨rfl, hp⟩ := hp; exact kk G H1 locs1 hp)
/-- 'throw new E("..")' that leaves the method -/
theorem tx_throw (C : tc_B p l s m args meth c D K A Ts own cc nL) (hl : ls.size = nL) (ht : ∀ x ∈ c.exceptionTable.toList, False) {cls text : String} {names : List String} {ik is ic cn : Nat} (hcls : Bundle.fit cls = true) (hnames : ∀ n ∈ names, Bundle.fit n = true) (hk : Cond.classLink own ik cls ∈ Ts) (hini : Cond.initialized cls ∈ Ts) (hstr : (own, is, text, cn) ∈ tk_strs) (hat1 : ∀ w ∈ (vx_atS own ic cls names).filter goodWord, w ∈ Ts) (hat2 : ∀ w ∈ (vx_atS own ic cls names).filter (fun w => !goodWord w), w ∈ [Cond.castable cls cls, kx_d1, kx_d2, kx_d3]) (hcast : va_Nw (.castable cls cls) s) (hgood : ∀ w ∈ Cond.classLink own ik cls :: Cond.initialized cls :: vx_atS own ic cls names, vx_ot w = true)
    (d0 : decode cc pc = .ok (.new ik, 3)) (d3 : decode cc (pc + 3) = .ok (.dup, 1)) (d4 : decode cc (pc + 4) = .ok (.ldc is, 2)) (d6 : decode cc (pc + 6) = .ok (.invokespecial ic, 3)) (d9 : decode cc (pc + 9) = .ok (.athrow, 1)) (hRframes : names.length + 3 < R.frames) (hRlocals : 0 + (13 * (names.length + 1) + 43) ≤ R.locals) (hRcells : cells + 1 ≤ R.cells) (hRslots : slots + 6 ≤ R.slots) (hc : cells + 1 ≤ MC) (hs : slots + 6 ≤ MS)
    (hW : tg_W D A s H G) (hS : va_S A s.heap H locs) (hw : px cls G) : W p l e R s m args below meth c H locs cells slots (vx_MQ below Qc (tc_XC D A px) args s MC MS A) (F0 m pc ls []) := by
  refine vx_throwS (A := A) (text := text) (sa := K.2.2 cn) (names := names) C.1.1 C.1.2.1 C.2.2.2.2.2 C.1.2.2.2.1 hcls hnames (C.1.2.2.2.2 _ hk) (C.1.2.2.2.2 _ hini) (C.2.2.2.1.2.2.2.2.1 _ hstr)
    (vx_hat (B := [Cond.castable cls cls, kx_d1, kx_d2, kx_d3]) (fun w h => C.1.2.2.2.2 _ (hat1 w h)) hat2 (vx_c (va_Nw.use rfl hcast) (vx_c (va_Nw.use rfl (tc_kx C).2.2.2.2.2.1) (vx_c (va_Nw.use rfl (tc_kx C).2.2.2.2.2.2.1) (vx_c (va_Nw.use rfl (tc_kx C).2.2.2.2.2.2.2.1) vx_n))))) hgood C.2.2.2.1.1 C.2.2.2.1.2.1 hS (by rw [hl, C.1.2.2.1]) d0 d3 d4 d6 d9 (fun x hx => (ht x hx).elim) hRframes hRlocals hRcells hRslots C.2.1 (fun t hal h1 h2 => ⟨⟨G, hw, ?_⟩, ?_⟩) hS.2.2 hc hs
  · exact fun q e9 hq => ⟨(hW q e9 hq).1, ((hW q e9 hq).2.kept (h2 q (hW q e9 hq).2.lt)).moved hal⟩
  · exact ⟨Nat.le_trans hS.1 h1, fun q g1 g2 => by rw [h2 q (Nat.lt_of_lt_of_le g1 hS.1)]; exact hS.2.1 q g1 g2⟩
/-! ends -/
theorem tr_iret (C : tc_B p l s m args meth c D K A Ts own cc nL) (hr : meth.sig.returnType = some .int) (hdg : decode cc pc = .ok (.ireturn, 1)) (hc : cells ≤ MC) (hs : slots ≤ MS) (hW : tg_W D A s H G) (hS : va_S A s.heap H locs) {x : Int32} {post : Int32 → tG → Prop} (hw : post x G) : W p l e R s m args below meth c H locs cells slots (MQ below (tc_Qc D A (retI post)) args s MC MS A) (F0 m pc ls [.int x]) :=
  W.widen hc hs (W.iret C.1.1 C.1.2.1 hr (fun t ht hWm => ⟨⟨_, G, rfl, ⟨x, rfl, hw⟩, by rw [ht]; exact hW.moved hWm.alike⟩, hS.F ht⟩) hS.2.2 hdg C.2.1)
theorem tr_zret (C : tc_B p l s m args meth c D K A Ts own cc nL) {ty : FieldType} (hr : meth.sig.returnType = some ty) (hdg : decode cc pc = .ok (.ireturn, 1)) (hc : cells ≤ MC) (hs : slots ≤ MS) (hW : tg_W D A s H G) (hS : va_S A s.heap H locs) {x : Int32} {post : Int32 → tG → Prop} (hw : narrow ty (.int x) = .int x ∧ post x G) : W p l e R s m args below meth c H locs cells slots (MQ below (tc_Qc D A (retI post)) args s MC MS A) (F0 m pc ls [.int x]) :=
  W.widen hc hs (W.zret C.1.1 C.1.2.1 hr hw.1 (fun t ht hWm => ⟨⟨_, G, rfl, ⟨x, rfl, hw.2⟩, by rw [ht]; exact hW.moved hWm.alike⟩, hS.F ht⟩) hS.2.2 hdg C.2.1)
theorem tr_lret (C : tc_B p l s m args meth c D K A Ts own cc nL) (hr : meth.sig.returnType = some .long) (hdg : decode cc pc = .ok (.lreturn, 1)) (hc : cells ≤ MC) (hs : slots ≤ MS) (hW : tg_W D A s H G) (hS : va_S A s.heap H locs) {x : Int64} {post : Int64 → tG → Prop} (hw : post x G) : W p l e R s m args below meth c H locs cells slots (MQ below (tc_Qc D A (retL post)) args s MC MS A) (F0 m pc ls [.long x]) :=
  W.widen hc hs (W.lret C.1.1 C.1.2.1 hr (fun t ht hWm => ⟨⟨_, G, rfl, ⟨x, rfl, hw⟩, by rw [ht]; exact hW.moved hWm.alike⟩, hS.F ht⟩) hS.2.2 hdg C.2.1)
theorem tr_vret (C : tc_B p l s m args meth c D K A Ts own cc nL) (hr : meth.sig.returnType = none) (hdg : decode cc pc = .ok (.return_, 1)) (hc : cells ≤ MC) (hs : slots ≤ MS) (hW : tg_W D A s H G) (hS : va_S A s.heap H locs) {post : tG → Prop} (hw : post G) : W p l e R s m args below meth c H locs cells slots (MQ below (tc_Qc D A (retV post)) args s MC MS A) (F0 m pc ls []) :=
  W.widen hc hs (W.vret C.1.1 C.1.2.1 hr (fun t ht hWm => ⟨⟨_, G, rfl, ⟨rfl, hw⟩, by rw [ht]; exact hW.moved hWm.alike⟩, hS.F ht⟩) hS.2.2 hdg C.2.1)
theorem va_rf_is (r : Option Nat) : va_rf r = .null ∨ ∃ a, va_rf r = .ref a := by
  cases r with
  | none => exact Or.inl rfl
  | some a => exact Or.inr ⟨a, rfl⟩
theorem tr_aret (C : tc_B p l s m args meth c D K A Ts own cc nL) {rt : FieldType} (hr : meth.sig.returnType = some rt) (hrt : (∃ n, rt = .object n) ∨ ∃ t, rt = .array t) (hdg : decode cc pc = .ok (.areturn, 1)) (hc : cells ≤ MC) (hs : slots ≤ MS) (hW : tg_W D A s H G) (hS : va_S A s.heap H locs) {x : Option Nat} {post : Option Nat → tG → Prop} (hw : post x G) : W p l e R s m args below meth c H locs cells slots (MQ below (tc_Qc D A (retR post)) args s MC MS A) (F0 m pc ls [va_rf x]) :=
  W.widen hc hs (W.aret C.1.1 C.1.2.1 hr hrt (va_rf_is x) (fun t ht hWm => ⟨⟨_, G, rfl, ⟨x, rfl, hw⟩, by rw [ht]; exact hW.moved hWm.alike⟩, hS.F ht⟩) hS.2.2 hdg C.2.1)
end TXU
/-! String constants, statics, arraycopy, Math -/
theorem tr_ldcS (C : tc_B p l s m args meth c D K A Ts own cc nL) {index cn : Nat} {tx : String} (hstr : (own, index, tx, cn) ∈ tk_strs) (hdg : decode cc pc = .ok (.ldc index, 2)) (kk : W p l e R s m args below meth c H locs cells slots Q (F0 m (pc + 2) ls (va_rf (some (K.2.2 cn)) :: rest))) : W p l e R s m args below meth c H locs cells slots Q (F0 m pc ls rest) :=
  va_ldcS C.1.1 C.1.2.1 C.1.2.2.2.1 (C.2.2.2.1.2.2.2.2.1 _ hstr) hdg kk
theorem tr_getCS (C : tc_B p l s m args meth c D K A Ts own cc nL) {index : Nat} (hlink : Cond.fieldLink own index "java/lang/String" "COMPACT_STRINGS" "Z" ∈ Ts) (hdg : decode cc pc = .ok (.getstatic index, 3)) (hS : va_S A s.heap H locs) (kk : W p l e R s m args below meth c H locs cells slots Q (F0 m (pc + 3) ls (.int 1 :: rest))) : W p l e R s m args below meth c H locs cells slots Q (F0 m pc ls rest) :=
  va_gets C.1.1 C.1.2.1 C.2.2.2.1.2.2.2.2.2.2.2.1 hS C.1.2.2.2.1 (C.1.2.2.2.2 _ hlink) (fun _ h => h) hdg kk
theorem tr_getDT (C : tc_B p l s m args meth c D K A Ts own cc nL) {index : Nat} (hlink : Cond.fieldLink own index "java/lang/Integer" "DigitTens" "[B" ∈ Ts) (hdg : decode cc pc = .ok (.getstatic index, 3)) (hS : va_S A s.heap H locs) (kk : W p l e R s m args below meth c H locs cells slots Q (F0 m (pc + 3) ls (va_rf (some (K.2.2 20)) :: rest))) : W p l e R s m args below meth c H locs cells slots Q (F0 m pc ls rest) :=
  va_gets C.1.1 C.1.2.1 C.2.2.2.1.2.2.2.2.2.2.2.2.1 hS C.1.2.2.2.1 (C.1.2.2.2.2 _ hlink) (fun _ h => h) hdg kk
theorem tr_getDO (C : tc_B p l s m args meth c D K A Ts own cc nL) {index : Nat} (hlink : Cond.fieldLink own index "java/lang/Integer" "DigitOnes" "[B" ∈ Ts) (hdg : decode cc pc = .ok (.getstatic index, 3)) (hS : va_S A s.heap H locs) (kk : W p l e R s m args below meth c H locs cells slots Q (F0 m (pc + 3) ls (va_rf (some (K.2.2 21)) :: rest))) : W p l e R s m args below meth c H locs cells slots Q (F0 m pc ls rest) :=
  va_gets C.1.1 C.1.2.1 C.2.2.2.1.2.2.2.2.2.2.2.2.2.1 hS C.1.2.2.2.1 (C.1.2.2.2.2 _ hlink) (fun _ h => h) hdg kk
theorem tr_max (C : tc_B p l s m args meth c D K A Ts own cc nL) (hl : ls.size = nL) {index : Nat} (hlink : Cond.methodLink own index Lib.Math.max.name ∈ Ts) (hstat : Cond.static Lib.Math.max.name ∈ Ts) (hini : Cond.initialized "java/lang/Math" ∈ Ts) (hcode : Cond.code Lib.Math.max.name Lib.Math.max.code 2 (some .int) ∈ Ts) (vs : List tV) (hrest : rest = vs.map tv_v) (hframes : 1 ≤ R.frames) (hlocals : (vs.map fun v => if tv_2 v then 2 else 1).sum + 13 ≤ R.locals) (hc : cells ≤ R.cells) (hs : slots ≤ R.slots) {x y : Int32} (hdg : decode cc pc = .ok (.invokestatic index, 3))
    (kk : W p l e R s m args below meth c H locs cells slots Q (F0 m (pc + 3) ls (.int (if x < y then y else x) :: rest))) : W p l e R s m args below meth c H locs cells slots Q (F0 m pc ls (.int y :: .int x :: rest)) := by
  refine va_mmax C.1.1 C.1.2.1 (by rw [hl, C.1.2.2.1]) C.1.2.2.2.1 (C.1.2.2.2.2 _ hlink) (C.1.2.2.2.2 _ hstat) (C.1.2.2.2.2 _ hini) (C.1.2.2.2.2 _ hcode) hframes ?_ hc hs hdg kk
  have e1 : (rest.map fun v => v.category) = vs.map fun v => if tv_2 v then 2 else 1 := by
    rw [hrest, List.map_map]
    apply List.map_congr_left
    intro a _
    exact tv_cat a
  rw [e1]
  exact hlocals
theorem tr_min (C : tc_B p l s m args meth c D K A Ts own cc nL) (hl : ls.size = nL) {index : Nat} (hlink : Cond.methodLink own index Lib.Math.min.name ∈ Ts) (hstat : Cond.static Lib.Math.min.name ∈ Ts) (hini : Cond.initialized "java/lang/Math" ∈ Ts) (hcode : Cond.code Lib.Math.min.name Lib.Math.min.code 2 (some .int) ∈ Ts) (vs : List tV) (hrest : rest = vs.map tv_v) (hframes : 1 ≤ R.frames) (hlocals : (vs.map fun v => if tv_2 v then 2 else 1).sum + 13 ≤ R.locals) (hc : cells ≤ R.cells) (hs : slots ≤ R.slots) {x y : Int32} (hdg : decode cc pc = .ok (.invokestatic index, 3))
    (kk : W p l e R s m args below meth c H locs cells slots Q (F0 m (pc + 3) ls (.int (if y < x then y else x) :: rest))) : W p l e R s m args below meth c H locs cells slots Q (F0 m pc ls (.int y :: .int x :: rest)) := by
  refine va_mmin C.1.1 C.1.2.1 (by rw [hl, C.1.2.2.1]) C.1.2.2.2.1 (C.1.2.2.2.2 _ hlink) (C.1.2.2.2.2 _ hstat) (C.1.2.2.2.2 _ hini) (C.1.2.2.2.2 _ hcode) hframes ?_ hc hs hdg kk
  have e1 : (rest.map fun v => v.category) = vs.map fun v => if tv_2 v then 2 else 1 := by
    rw [hrest, List.map_map]
    apply List.map_congr_left
    intro a _
    exact tv_cat a
  rw [e1]
  exact hlocals
theorem tc_nn {z : Int32} {n : Nat} (h : z.toInt = (n : Int)) : ¬ z < 0 ∧ z.toNatClampNeg = n := by
  refine ⟨fun h1 => ?_, by show z.toInt.toNat = n; rw [h]; rfl⟩
  have h2 := Int32.lt_iff_toInt_lt.mp h1
  rw [h] at h2
  have h0 : (0 : Int32).toInt = 0 := by decide
  rw [h0] at h2
  omega
end TCA
