/-! CALLS, RETURNS, THROWS over the world as a map -/
section TCA
variable {p : Program} {l : Launch} {e : Env} {R : Room} {s : State} {m : MethodId} {args : Array Value} {below : List Frame} {meth : Method} {c : Code} {H : Heap} {locs : List Loc} {cells slots : Nat} {Q : State → Prop}
variable {D : va_G} {K : tK} {A : Nat → Prop} {Ts : List Cond} {own : String} {cc : ByteArray} {nL : Nat} {pc : Nat} {ls : Array Slot} {rest : List Value} {G : tG}
theorem tc_kx (C : tc_B p l s m args meth c D K A Ts own cc nL) : kx_C s := C.2.2.2.1.2.2.2.2.2.2.2.2.2.2
theorem tc_pre (C : tc_B p l s m args meth c D K A Ts own cc nL) (hW : tg_W D A s H G) (hS : va_S A s.heap H locs) (av : List Value) : ∀ U : State, U.heap = H → s.WarmedH U.vm → tc_Pc D K A H.size G av av.toArray U := by
  intro U hU hWm
  have hvm := hWm.alike
  refine ⟨rfl, by rw [hU], ?_, va_K.moved hvm C.2.2.1, ?_, fun q hq => C.2.2.2.2.1 q (Nat.le_trans hS.1 hq)⟩
  · rw [hU]
    exact hW.moved hvm
  · rw [hU]
    exact (C.2.2.2.1.kept hS.2.1).moved hWm
theorem tc_room {vs : List tV} (hrest : rest = vs.map tv_v) (h : (vs.map fun v => if tv_2 v then 2 else 1).sum ≤ 8) : 2 * (F0 m pc ls rest).monitorRoom + (rest.map fun v => v.category).sum ≤ 8 := by
  have e1 : (rest.map fun v => v.category) = vs.map fun v => if tv_2 v then 2 else 1 := by
    rw [hrest, List.map_map]
    apply List.map_congr_left
    intro a _
    exact tv_cat a
  have h2 : (rest.map fun v => v.category).sum ≤ 8 := by rw [e1]; exact h
  exact lv_room h2
theorem tc_recv (C : tc_B p l s m args meth c D K A Ts own cc nL) (hW : tg_W D A s H G) {a ci : Nat} {q : vw_C} {fs : List Value} (hc : vwCl[ci]? = some q) (hG : G a = some (.inr (ci, fs))) : ∃ cell : Cell, H[a]? = some cell ∧ cell.vm.isStatics = false ∧ s.vm.findClass q.1 = some cell.cls := by
  obtain ⟨-, r, h1, cell, h2, h3, h4, -⟩ := hW a _ hG
  have hr : r = q := Option.some.inj (h1.symm.trans hc)
  subst hr
  exact ⟨cell, h2, by rw [h4]; rfl, by rw [h3]; exact (C.2.2.1.1 ci _ hc).2.1⟩
variable {y : MethodName} {ws : List Cond} {rm : Room} {mc ms n index maxL : Nat} {bytes : ByteArray} {ret : Option FieldType} {As : List Value} {pr : Option Value → tG → Prop} {px : String → tG → Prop} {wp : tG → Prop} {st0 : List Value}
theorem tr_runV {C0 : String} {T : u_T} {N ci : Nat} {r : Option Nat} (C : tc_B p l s m args meth c D K A Ts own cc nL) (hl : ls.size = nL) (hct : Ct l y ws rm mc ms (va_rf r :: As) K pr wp) (cw : CallW R s args own C0 index y bytes maxL ret ws rm mc ms n) (hc : vwCl[ci]? = some (C0, T, N)) (hn : As.length = n) (hdg : decode cc pc = .ok (.invokevirtual index, 3)) (hf : cells + mc ≤ R.cells ∧ slots + ms ≤ R.slots) (vs : List tV) (hrest : rest = vs.map tv_v) (h8 : (vs.map fun v => if tv_2 v then 2 else 1).sum ≤ 8) (hst : st0 = As.reverse ++ va_rf r :: rest) (hW : tg_W D A s H G) (hS : va_S A s.heap H locs) (hw : rcv G r ci (wp G)) :
    va_Run p l e R s m args below meth c H locs cells slots mc ms (F0 m pc ls st0) rest (tc_Qc D A pr (va_rf r :: As).toArray) A := by
  obtain ⟨a, fs, rfl, hG, hw⟩ := hw
  subst hst
  exact va_runV (C := C0) (As := As) (b := a) (rest := rest) C.1 (hct D A H.size G hw) cw ⟨tc_blind _ _ _ _ _ _, tc_recv C hW hc hG, tc_pre C hW hS _⟩ rfl hn hl rfl (tc_room (pc := pc) (m := m) (ls := ls) hrest h8) hdg hf
theorem tr_runVS {T : u_T} {N ci : Nat} {r : Option Nat} (C : tc_B p l s m args meth c D K A Ts own cc nL) (hl : ls.size = nL) (hct : Ct l y ws rm mc ms (va_rf r :: As) K pr wp) (cw : CallW R s args own "java/lang/String" index y bytes maxL ret ws rm mc ms n) (hc : vwCl[ci]? = some ("java/lang/String", T, N)) (hn : As.length = n) (hdg : decode cc pc = .ok (.invokevirtual index, 3)) (hf : cells + mc ≤ R.cells ∧ slots + ms ≤ R.slots) (vs : List tV) (hrest : rest = vs.map tv_v) (h8 : (vs.map fun v => if tv_2 v then 2 else 1).sum ≤ 8) (hst : st0 = As.reverse ++ va_rf r :: rest) (hW : tg_W D A s H G) (hS : va_S A s.heap H locs) (hw : rcvS K G r ci (wp G)) :
    va_Run p l e R s m args below meth c H locs cells slots mc ms (F0 m pc ls st0) rest (tc_Qc D A pr (va_rf r :: As).toArray) A := by
  obtain ⟨a, rfl, hr, hw⟩ := hw
  subst hst
  have hrecv : ∃ cell : Cell, H[a]? = some cell ∧ cell.vm.isStatics = false ∧ s.vm.findClass "java/lang/String" = some cell.cls := by
    rcases hr with ⟨fs, hG⟩ | ⟨v, hK⟩
    · exact tc_recv C hW hc hG
    · obtain ⟨cell, h1, h2, h3, -⟩ := va_O.kept (C.2.2.2.1.2.2.2.2.2.1 a v hK).1 hS.2.1
      exact ⟨cell, h1, h2, h3⟩
  exact va_runV (C := "java/lang/String") (As := As) (b := a) (rest := rest) C.1 (hct D A H.size G hw) cw ⟨tc_blind _ _ _ _ _ _, hrecv, tc_pre C hW hS _⟩ rfl hn hl rfl (tc_room (pc := pc) (m := m) (ls := ls) hrest h8) hdg hf
theorem tr_runU {C0 owner : String} {x : MethodName} {T : u_T} {N ci : Nat} {r : Option Nat} (C : tc_B p l s m args meth c D K A Ts own cc nL) (hl : ls.size = nL) (hct : Ct l y ws rm mc ms (va_rf r :: As) K pr wp) (cw : va_CU R s args own C0 owner index x y bytes maxL ret ws rm mc ms n) (hc : vwCl[ci]? = some (C0, T, N)) (hn : As.length = n) (hdg : decode cc pc = .ok (.invokevirtual index, 3)) (hf : cells + mc ≤ R.cells ∧ slots + ms ≤ R.slots) (vs : List tV) (hrest : rest = vs.map tv_v) (h8 : (vs.map fun v => if tv_2 v then 2 else 1).sum ≤ 8) (hst : st0 = As.reverse ++ va_rf r :: rest) (hW : tg_W D A s H G) (hS : va_S A s.heap H locs) (hw : rcv G r ci (wp G)) :
    va_Run p l e R s m args below meth c H locs cells slots mc ms (F0 m pc ls st0) rest (tc_Qc D A pr (va_rf r :: As).toArray) A := by
  obtain ⟨a, fs, rfl, hG, hw⟩ := hw
  subst hst
  exact va_runU (C := C0) (As := As) (b := a) (rest := rest) C.1 (hct D A H.size G hw) cw ⟨tc_blind _ _ _ _ _ _, tc_recv C hW hc hG, tc_pre C hW hS _⟩ rfl hn hl rfl (tc_room (pc := pc) (m := m) (ls := ls) hrest h8) hdg hf
theorem tr_runSU {C0 : String} {T : u_T} {N ci : Nat} {r : Option Nat} (C : tc_B p l s m args meth c D K A Ts own cc nL) (hl : ls.size = nL) (hct : Ct l y ws rm mc ms (va_rf r :: As) K pr wp) (cw : va_CS R s args own index y bytes maxL ret ws rm mc ms n) (hc : vwCl[ci]? = some (C0, T, N)) (hn : As.length = n) (hdg : decode cc pc = .ok (.invokespecial index, 3)) (hf : cells + mc ≤ R.cells ∧ slots + ms ≤ R.slots) (vs : List tV) (hrest : rest = vs.map tv_v) (h8 : (vs.map fun v => if tv_2 v then 2 else 1).sum ≤ 8) (hst : st0 = As.reverse ++ va_rf r :: rest) (hW : tg_W D A s H G) (hS : va_S A s.heap H locs) (hw : rcv G r ci (wp G)) :
    va_Run p l e R s m args below meth c H locs cells slots mc ms (F0 m pc ls st0) rest (tc_Qc D A pr (va_rf r :: As).toArray) A := by
  obtain ⟨a, fs, rfl, hG, hw⟩ := hw
  subst hst
  exact va_runSU (C := C0) (As := As) (b := a) (rest := rest) (C.2.2.1.1 ci _ hc).2 C.1 (hct D A H.size G hw) cw ⟨tc_blind _ _ _ _ _ _, tc_recv C hW hc hG, tc_pre C hW hS _⟩ rfl hn hl rfl (tc_room (pc := pc) (m := m) (ls := ls) hrest h8) hdg hf
theorem tr_runS (C : tc_B p l s m args meth c D K A Ts own cc nL) (hl : ls.size = nL) (hct : Ct l y ws rm mc ms As K pr wp) (cw : CallB R s args own index y bytes maxL ret ws rm mc ms n ∧ (Cond.static y).before args s = true) (hn : As.length = n) (hdg : decode cc pc = .ok (.invokestatic index, 3)) (hf : cells + mc ≤ R.cells ∧ slots + ms ≤ R.slots) (vs : List tV) (hrest : rest = vs.map tv_v) (h8 : (vs.map fun v => if tv_2 v then 2 else 1).sum ≤ 8) (hst : st0 = As.reverse ++ rest) (hW : tg_W D A s H G) (hS : va_S A s.heap H locs) (hw : wp G) :
    va_Run p l e R s m args below meth c H locs cells slots mc ms (F0 m pc ls st0) rest (tc_Qc D A pr As.toArray) A := by
  subst hst
  exact va_runS (As := As) (rest := rest) C.1 (hct D A H.size G hw) cw ⟨tc_blind _ _ _ _ _ _, tc_pre C hW hS _⟩ rfl hn hl rfl (tc_room (pc := pc) (m := m) (ls := ls) hrest h8) hdg hf
theorem tr_runI {r : Option Nat} (C : tc_B p l s m args meth c D K A Ts own cc nL) (hl : ls.size = nL) (hct : Ct l y ws rm mc ms (va_rf r :: As) K pr wp) (cw : CallB R s args own index y bytes maxL none ws rm mc ms n ∧ y.name = "<init>" ∧ (Cond.instanceMethod y).before args s = true) (hn : As.length = n) (hdg : decode cc pc = .ok (.invokespecial index, 3)) (hf : cells + mc ≤ R.cells ∧ slots + ms ≤ R.slots) (vs : List tV) (hrest : rest = vs.map tv_v) (h8 : (vs.map fun v => if tv_2 v then 2 else 1).sum ≤ 8) (hst : st0 = As.reverse ++ va_rf r :: rest) (hW : tg_W D A s H G) (hS : va_S A s.heap H locs) (hw : (∃ a : Nat, r = some a) ∧ wp G) :
    va_Run p l e R s m args below meth c H locs cells slots mc ms (F0 m pc ls st0) rest (tc_Qc D A pr (va_rf r :: As).toArray) A := by
  obtain ⟨⟨a, rfl⟩, hw⟩ := hw
  subst hst
  exact va_runI (As := As) (b := a) (rest := rest) C.1 (hct D A H.size G hw) cw ⟨tc_blind _ _ _ _ _ _, tc_pre C hW hS _⟩ rfl hn hl rfl (tc_room (pc := pc) (m := m) (ls := ls) hrest h8) hdg hf
theorem tx_runV {C0 : String} {T : u_T} {N ci : Nat} {r : Option Nat} (C : tc_B p l s m args meth c D K A Ts own cc nL) (hl : ls.size = nL) (hct : Cx l y ws rm mc ms (va_rf r :: As) K pr px wp) (cw : CallW R s args own C0 index y bytes maxL ret ws rm mc ms n) (hc : vwCl[ci]? = some (C0, T, N)) (hn : As.length = n) (hdg : decode cc pc = .ok (.invokevirtual index, 3)) (hf : cells + mc ≤ R.cells ∧ slots + ms ≤ R.slots) (vs : List tV) (hrest : rest = vs.map tv_v) (h8 : (vs.map fun v => if tv_2 v then 2 else 1).sum ≤ 8) (hst : st0 = As.reverse ++ va_rf r :: rest) (hW : tg_W D A s H G) (hS : va_S A s.heap H locs) (hw : rcv G r ci (wp G)) :
    vx_Run p l e R s m args below meth c H locs cells slots mc ms (F0 m pc ls st0) rest (tc_Qc D A pr (va_rf r :: As).toArray) (tc_XC D A px) A := by
  obtain ⟨a, fs, rfl, hG, hw⟩ := hw
  subst hst
  exact vx_runV (C := C0) (As := As) (b := a) (rest := rest) C.1 (hct D A H.size G hw) cw ⟨tc_blind _ _ _ _ _ _, tc_recv C hW hc hG, tc_pre C hW hS _⟩ rfl hn hl rfl (tc_room (pc := pc) (m := m) (ls := ls) hrest h8) hdg hf
theorem tx_runS (C : tc_B p l s m args meth c D K A Ts own cc nL) (hl : ls.size = nL) (hct : Cx l y ws rm mc ms As K pr px wp) (cw : CallB R s args own index y bytes maxL ret ws rm mc ms n ∧ (Cond.static y).before args s = true) (hn : As.length = n) (hdg : decode cc pc = .ok (.invokestatic index, 3)) (hf : cells + mc ≤ R.cells ∧ slots + ms ≤ R.slots) (vs : List tV) (hrest : rest = vs.map tv_v) (h8 : (vs.map fun v => if tv_2 v then 2 else 1).sum ≤ 8) (hst : st0 = As.reverse ++ rest) (hW : tg_W D A s H G) (hS : va_S A s.heap H locs) (hw : wp G) :
    vx_Run p l e R s m args below meth c H locs cells slots mc ms (F0 m pc ls st0) rest (tc_Qc D A pr As.toArray) (tc_XC D A px) A := by
  subst hst
  exact vx_runS (As := As) (rest := rest) C.1 (hct D A H.size G hw) cw ⟨tc_blind _ _ _ _ _ _, tc_pre C hW hS _⟩ rfl hn hl rfl (tc_room (pc := pc) (m := m) (ls := ls) hrest h8) hdg hf
/-- a byte array's clone() -/
theorem tr_clone (C : tc_B p l s m args meth c D K A Ts own cc nL) (hl : ls.size = nL) (hlink : Cond.methodLink own index ⟨"[B", "clone", "()Ljava/lang/Object;"⟩ ∈ Ts) (hsame : Cond.sameMethod "[B" "java/lang/Object" "clone" "()Ljava/lang/Object;" ∈ Ts) (hnat : Cond.native ⟨"java/lang/Object", "clone", "()Ljava/lang/Object;"⟩ ∈ Ts) (hinst : Cond.instanceMethod ⟨"java/lang/Object", "clone", "()Ljava/lang/Object;"⟩ ∈ Ts) (hsel : Cond.selects "[B" ⟨"[B", "clone", "()Ljava/lang/Object;"⟩ ⟨"java/lang/Object", "clone", "()Ljava/lang/Object;"⟩ ∈ Ts) {lim : Nat} (hcells : cells + 1 ≤ R.cells) (hslots : slots + lim ≤ R.slots) (hframes : 1 ≤ R.frames) (hlocals : 14 ≤ R.locals) (hdg : decode cc pc = .ok (.invokevirtual index, 3)) (hW : tg_W D A s H G) (hS : va_S A s.heap H locs) {r : Option Nat} {P : Option Nat → tG → Prop} (hw : clB G r lim P)
    (kk : ∀ (r : Option Nat) (G : tG) (H : Heap), P r G → tg_W D A s H G → va_S A s.heap H locs → W p l e R s m args below meth c H locs (cells + 1) (slots + lim) Q (F0 m (pc + 3) ls [va_rf r])) : W p l e R s m args below meth c H locs cells slots Q (F0 m pc ls [va_rf r]) := by
  obtain ⟨a, n, f, rfl, hG, hn, hfit, hP⟩ := hw
  obtain ⟨hA, cA, hty, hcell⟩ := hW a _ hG
  obtain ⟨c0, t0, f1, f2, f3⟩ := Cond.castable_spec (va_Nw.use (A := args) rfl (tc_kx C).2.2.2.2.2.2.2.2)
  have hnm : s.vm.findClass "[B" = some cA := va_nm_byte hty.2
  cases hnm.symm.trans f1
  have hsz : (vp_cell cA (n, .inl f)).slots.size = n := arrV_size _ _ _
  intro T hT X
  have hcellT : T.heap[a]? = some (vp_cell cA (n, .inl f)) := by rw [hT]; exact hcell
  obtain ⟨-, kA, hkA, comp, hkind⟩ := State.isArrayOf_alike X.warmed.alike (hty.1 0 (fun _ => .null))
  obtain ⟨-, kS, hkS, compS, hkindS⟩ := hty.1 0 (fun _ => .null)
  obtain ⟨vm', X', st⟩ := X.cloneArray C.1.1 C.1.2.2.2.1 (C.1.2.2.2.2 _ hlink) (C.1.2.2.2.2 _ hsame) (C.1.2.2.2.2 _ hnat) (C.1.2.2.2.2 _ hinst) (C.1.2.2.2.2 _ hsel) (a := a) (cell := vp_cell cA (n, .inl f)) hcellT (fun k h => by cases h) (fun h => by cases h) hnm f2 f3
    (fun i v hv => by
      have hk' : T.vm.classes[cA]? = some kA := hkA
      have hf := va_fit (cA := cA) (n := n) (F := fun j => .int (f j)) (ty := .byte) hfit i v hv
      show T.fitsSlot cA .none i v = true
      simpa [State.fitsSlot, State.slotType?, hk', hkind] using hf)
    (g := F0 m pc ls [va_rf (some a)]) rfl (by rw [C.1.2.2.1]; exact hl) rfl (by rw [C.1.2.1]; exact hdg) hframes (by show 2 * 0 + 0 + 14 ≤ _; omega) hcells (by rw [hsz]; omega) (hloader := Vm.clonesLoader_of_array hkS hkindS)
  have hcellE : ({ cls := (vp_cell cA (n, .inl f)).cls, slots := (vp_cell cA (n, .inl f)).slots } : Cell) = vp_cell cA (n, .inl f) := rfl
  rw [hcellE, hsz] at X'
  generalize hH1 : H.push (vp_cell cA (n, .inl f)) = H1
  have z1 : H1.size = H.size + 1 := by rw [← hH1, Array.size_push]
  have e1 : H1[H.size]? = some (vp_cell cA (n, .inl f)) := by rw [← hH1, Array.getElem?_push_size]
  have o1 : ∀ q : Nat, q < H.size → H1[q]? = H[q]? := fun q hq => by rw [← hH1, Array.getElem?_push, if_neg (Nat.ne_of_lt hq)]
  have hk := W.widen (Nat.le_refl _) (by omega : slots + n ≤ slots + lim) (kk (some H.size) _ H1 (hP _ hW.fresh) (hW.make (C.2.2.2.2.1 _ hS.1) ⟨cA, hty, e1⟩ o1) (ts_make hS z1 o1))
  obtain ⟨t, b1, b2⟩ := hk ((T.setVm vm').pushCell (vp_cell cA (n, .inl f))) (by rw [← hH1, ← hT]; rfl) X'
  refine ⟨t, st t ?_, b2⟩
  rw [hcellE, hT]
  exact b1
theorem tr_castB (C : tc_B p l s m args meth c D K A Ts own cc nL) (hlink : Cond.classLink own index "[B" ∈ Ts) (hdg : decode cc pc = .ok (.checkcast index, 3)) (hW : tg_W D A s H G) {r : Option Nat} {P : Prop} (hw : isB G r P) (kk : P → W p l e R s m args below meth c H locs cells slots Q (F0 m (pc + 3) ls (va_rf r :: rest))) : W p l e R s m args below meth c H locs cells slots Q (F0 m pc ls (va_rf r :: rest)) := by
  obtain ⟨a, x, rfl, hG, hP⟩ := hw
  obtain ⟨hA, cA, hty, hcell⟩ := hW a _ hG
  have hp : va_P D vwCl [(a, .inl (cA, x))] H := fun k q hk => by
    cases k with
    | zero => cases hk; exact hcell
    | succ k => simp at hk
  exact va_castA C.1.1 C.1.2.1 C.1.2.2.2.1 (C.1.2.2.2.2 _ hlink) hp 0 rfl (va_nm_byte hty.2) hdg (kk hP)
/-- a field of a nest mate's object -/
theorem tr_gfLN (C : tc_B p l s m args meth c D K A Ts own cc nL) {ref C0 host : String} {T : u_T} {N ci index : Nat} (hin : ∀ w ∈ u_ws C0 T N, w ∈ Ts) (hc : vwCl[ci]? = some (C0, T, N)) {k : Nat} (hk : k < N) (hlink : va_Nw (.fieldLinkNest own index ref (T k).2.1 (T k).2.2.1 host) s) (href : (T k).1 = ref) (hdg : decode cc pc = .ok (.getfield index, 3)) (hW : tg_W D A s H G)
    {r : Option Nat} {P : Int64 → Prop} (hw : gfL G r ci k P) (kk : ∀ x : Int64, P x → W p l e R s m args below meth c H locs cells slots Q (F0 m (pc + 3) ls (.long x :: rest))) : W p l e R s m args below meth c H locs cells slots Q (F0 m pc ls (va_rf r :: rest)) := by
  obtain ⟨a, fs, x, rfl, hG, hx, hP⟩ := hw
  have hp : va_P D vwCl [(a, .inr (ci, fs))] H := fun k q hk => by
    cases k with
    | zero => cases hk; exact (hW a _ hG).2
    | succ k => simp at hk
  exact va_getN C.1.1 C.1.2.1 C.1.2.2.2.2 hin C.1.2.2.2.1 C.2.2.1 hp 0 rfl hc k hk (va_Nw.use rfl hlink) (fun _ h => by rw [← href]; exact h) hx hdg (kk x hP)
/-- behind a call that returns -/
theorem tr_back {a : Array Value} (hr : va_Run p l e R s m args below meth c H locs cells slots mc ms (F0 m pc ls st0) rest (tc_Qc D A pr a) A) (hS : va_S A s.heap H locs)
    (kk : ∀ (v : Option Value) (G : tG) (H1 : Heap) (locs1 : List Loc), pr v G → tg_W D A s H1 G → va_S A s.heap H1 locs1 → W p l e R s m args below meth c H1 locs1 (cells + mc) (slots + ms) Q (F0 m (pc + 3) ls (v.toList ++ rest))) : W p l e R s m args below meth c H locs cells slots Q (F0 m pc ls st0) := by
  intro T hT X
  obtain ⟨v, st₀, t, T', L, h0, X', hL, e1, e2, ⟨⟨v', G', hv, hp, hG⟩, hF⟩, st⟩ := hr T hT X
  cases hv
  obtain ⟨k1, k2, k3⟩ := vx_keep h0 e1 hS (fun _ _ h => h) (fun _ h => h) hL hF
  have hal : t.vm.Alike s.vm := by
    rw [← e2]
    exact X'.warmed.alike.symm
  obtain ⟨t2, a1, b1⟩ := kk v G' T'.heap (locs ++ L) hp (by rw [e1]; exact hG.moved hal) k3 T' rfl X'
  exact ⟨t2, st t2 a1, b1⟩
theorem tx_back {a : Array Value} (hr : vx_Run p l e R s m args below meth c H locs cells slots mc ms (F0 m pc ls st0) rest (tc_Qc D A pr a) (tc_XC D A px) A) (hS : va_S A s.heap H locs)
    (kx : ∀ (E : String) (ce : Cell) (q9 : Addr) (G : tG) (H1 : Heap) (locs1 : List Loc), px E G → tg_W D A s H1 G → va_S A s.heap H1 locs1 → H1[q9]? = some ce → ce.vm = .none → s.vm.findClass E = some ce.cls → vx_W p l e R s m args below meth c H1 locs1 (cells + mc) (slots + ms) Q (F0 m pc ls rest) q9)
    (kk : ∀ (v : Option Value) (G : tG) (H1 : Heap) (locs1 : List Loc), pr v G → tg_W D A s H1 G → va_S A s.heap H1 locs1 → W p l e R s m args below meth c H1 locs1 (cells + mc) (slots + ms) Q (F0 m (pc + 3) ls (v.toList ++ rest))) : W p l e R s m args below meth c H locs cells slots Q (F0 m pc ls st0) := by
  intro T hT X
  rcases hr T hT X with ⟨v, st₀, t, T', L, h0, X', hL, e1, e2, ⟨⟨v', G', hv, hp, hG⟩, hF⟩, st⟩ | ⟨q, st₀, t, T', L, E, ce, h0, X', hL, e1, e2, ⟨⟨G', hp, hG⟩, hF⟩, hce, hcv, hcl, st⟩
  · cases hv
    obtain ⟨k1, k2, k3⟩ := vx_keep h0 e1 hS (fun _ _ h => h) (fun _ h => h) hL hF
    have hal : t.vm.Alike s.vm := by
      rw [← e2]
      exact X'.warmed.alike.symm
    obtain ⟨t2, a1, b1⟩ := kk v G' T'.heap (locs ++ L) hp (by rw [e1]; exact hG.moved hal) k3 T' rfl X'
    exact ⟨t2, st t2 a1, b1⟩
  · obtain ⟨k1, k2, k3⟩ := vx_keep h0 e1 hS (fun _ _ h => h) (fun _ h => h) hL hF
    have hal : t.vm.Alike s.vm := by
      rw [← e2]
      exact X'.warmed.alike.symm
    obtain ⟨t2, a1, b1⟩ := kx E ce q G' T'.heap (locs ++ L) hp (by rw [e1]; exact hG.moved hal) k3 (by rw [e1]; exact hce) hcv hcl T' rfl X'
    exact ⟨t2, st.trans a1, b1⟩
theorem tr_backI {a : Array Value} {post : Int32 → tG → Prop} (hr : va_Run p l e R s m args below meth c H locs cells slots mc ms (F0 m pc ls st0) rest (tc_Qc D A (retI post) a) A) (hS : va_S A s.heap H locs)
    (kk : ∀ (x : Int32) (G : tG) (H : Heap) (locs : List Loc), post x G → tg_W D A s H G → va_S A s.heap H locs → W p l e R s m args below meth c H locs (cells + mc) (slots + ms) Q (F0 m (pc + 3) ls (.int x :: rest))) : W p l e R s m args below meth c H locs cells slots Q (F0 m pc ls st0) :=
  tr_back hr hS (fun v G H1 locs1 hp => by obtain ⟨x, rfl, hp⟩ := hp; exact kk x G H1 locs1 hp)
theorem tr_backL {a : Array Value} {post : Int64 → tG → Prop} (hr : va_Run p l e R s m args below meth c H locs cells slots mc ms (F0 m pc ls st0) rest (tc_Qc D A (retL post) a) A) (hS : va_S A s.heap H locs)
    (kk : ∀ (x : Int64) (G : tG) (H : Heap) (locs : List Loc), post x G → tg_W D A s H G → va_S A s.heap H locs → W p l e R s m args below meth c H locs (cells + mc) (slots + ms) Q (F0 m (pc + 3) ls (.long x :: rest))) : W p l e R s m args below meth c H locs cells slots Q (F0 m pc ls st0) :=
  tr_back hr hS (fun v G H1 locs1 hp => by obtain ⟨x, rfl, hp⟩ := hp; exact kk x G H1 locs1 hp)
theorem tr_backR {a : Array Value} {post : Option Nat → tG → Prop} (hr : va_Run p l e R s m args below meth c H locs cells slots mc ms (F0 m pc ls st0) rest (tc_Qc D A (retR post) a) A) (hS : va_S A s.heap H locs)
    (kk : ∀ (x : Option Nat) (G : tG) (H : Heap) (locs : List Loc), post x G → tg_W D A s H G → va_S A s.heap H locs → W p l e R s m args below meth c H locs (cells + mc) (slots + ms) Q (F0 m (pc + 3) ls (va_rf x :: rest))) : W p l e R s m args below meth c H locs cells slots Q (F0 m pc ls st0) :=
  tr_back hr hS (fun v G H1 locs1 hp => by obtain ⟨x, rfl, hp⟩ := hp; exact kk x G H1 locs1 hp)
theorem tr_backV {a : Array Value} {post : tG → Prop} (hr : va_Run p l e R s m args below meth c H locs cells slots mc ms (F0 m pc ls st0) rest (tc_Qc D A (retV post) a) A) (hS : va_S A s.heap H locs)
    (kk : ∀ (G : tG) (H : Heap) (locs : List Loc), post G → tg_W D A s H G → va_S A s.heap H locs → W p l e R s m args below meth c H locs (cells + mc) (slots + ms) Q (F0 m (pc + 3) ls rest)) : W p l e R s m args below meth c H locs cells slots Q (F0 m pc ls st0) :=
  tr_back hr hS (fun v G H1 locs1 hp => by obtain ⟨rfl, hp⟩ := hp; exact kk G H1 locs1 hp)
section TXU
variable {Qc : Array Value → State → Outcome → State → Prop} {MC MS : Nat}
/-- what the callee throws goes on to the caller -/
theorem tx_pass (hlocks : meth.locks = false) (ht : ∀ x ∈ c.exceptionTable.toList, False) (hc : cells + mc ≤ MC) (hs : slots + ms ≤ MS) : ∀ (E : String) (ce : Cell) (q9 : Addr) (G : tG) (H1 : Heap) (locs1 : List Loc), px E G → tg_W D A s H1 G → va_S A s.heap H1 locs1 → H1[q9]? = some ce → ce.vm = .none → s.vm.findClass E = some ce.cls → vx_W p l e R s m args below meth c H1 locs1 (cells + mc) (slots + ms) (vx_MQ below Qc (tc_XC D A px) args s MC MS A) (F0 m pc ls rest) q9 := by
  intro E ce q9 G H1 locs1 hp hW hS hce hcv hcl
  exact vx_out (fun x hx => (ht x hx).elim) hlocks hce hcv hcl (fun t ht hal => ⟨⟨G, hp, by rw [ht]; exact hW.moved hal⟩, hS.F ht⟩) hS.2.2 hc hs
theorem tx_backI {a : Array Value} {post : Int32 → tG → Prop} (hr : vx_Run p l e R s m args below meth c H locs cells slots mc ms (F0 m pc ls st0) rest (tc_Qc D A (retI post) a) (tc_XC D A px) A) (hS : va_S A s.heap H locs) (hlocks : meth.locks = false) (ht : ∀ x ∈ c.exceptionTable.toList, False) (hc : cells + mc ≤ MC) (hs : slots + ms ≤ MS)
    (kk : ∀ (x : Int32) (G : tG) (H : Heap) (locs : List Loc), post x G → tg_W D A s H G → va_S A s.heap H locs → W p l e R s m args below meth c H locs (cells + mc) (slots + ms) (vx_MQ below Qc (tc_XC D A px) args s MC MS A) (F0 m (pc + 3) ls (.int x :: rest))) : W p l e R s m args below meth c H locs cells slots (vx_MQ below Qc (tc_XC D A px) args s MC MS A) (F0 m pc ls st0) :=
  tx_back hr hS (tx_pass hlocks ht hc hs) (fun v G H1 locs1 hp => by obtain ⟨x, rfl, hp⟩ := hp; exact kk x G H1 locs1 hp)
theorem tx_backL {a : Array Value} {post : Int64 → tG → Prop} (hr : vx_Run p l e R s m args below meth c H locs cells slots mc ms (F0 m pc ls st0) rest (tc_Qc D A (retL post) a) (tc_XC D A px) A) (hS : va_S A s.heap H locs) (hlocks : meth.locks = false) (ht : ∀ x ∈ c.exceptionTable.toList, False) (hc : cells + mc ≤ MC) (hs : slots + ms ≤ MS)
    (kk : ∀ (x : Int64) (G : tG) (H : Heap) (locs : List Loc), post x G → tg_W D A s H G → va_S A s.heap H locs → W p l e R s m args below meth c H locs (cells + mc) (slots + ms) (vx_MQ below Qc (tc_XC D A px) args s MC MS A) (F0 m (pc + 3) ls (.long x :: rest))) : W p l e R s m args below meth c H locs cells slots (vx_MQ below Qc (tc_XC D A px) args s MC MS A) (F0 m pc ls st0) :=
  tx_back hr hS (tx_pass hlocks ht hc hs) (fun v G H1 locs1 hp => by obtain ⟨x, rfl, hp⟩ := hp; exact kk x G H1 locs1 hp)
theorem tx_backR {a : Array Value} {post : Option Nat → tG → Prop} (hr : vx_Run p l e R s m args below meth c H locs cells slots mc ms (F0 m pc ls st0) rest (tc_Qc D A (retR post) a) (tc_XC D A px) A) (hS : va_S A s.heap H locs) (hlocks : meth.locks = false) (ht : ∀ x ∈ c.exceptionTable.toList, False) (hc : cells + mc ≤ MC) (hs : slots + ms ≤ MS)
    (kk : ∀ (x : Option Nat) (G : tG) (H : Heap) (locs : List Loc), post x G → tg_W D A s H G → va_S A s.heap H locs → W p l e R s m args below meth c H locs (cells + mc) (slots + ms) (vx_MQ below Qc (tc_XC D A px) args s MC MS A) (F0 m (pc + 3) ls (va_rf x :: rest))) : W p l e R s m args below meth c H locs cells slots (vx_MQ below Qc (tc_XC D A px) args s MC MS A) (F0 m pc ls st0) :=
  tx_back hr hS (tx_pass hlocks ht hc hs) (fun v G H1 locs1 hp => by obtain ⟨x, rfl, hp⟩ := hp; exact kk x G H1 locs1 hp)
theorem tx_backV {a : Array Value} {post : tG → Prop} (hr : vx_Run p l e R s m args below meth c H locs cells slots mc ms (F0 m pc ls st0) rest (tc_Qc D A (retV post) a) (tc_XC D A px) A) (hS : va_S A s.heap H locs) (hlocks : meth.locks = false) (ht : ∀ x ∈ c.exceptionTable.toList, False) (hc : cells + mc ≤ MC) (hs : slots + ms ≤ MS)
    (kk : ∀ (G : tG) (H : Heap) (locs : List Loc), post G → tg_W D A s H G → va_S A s.heap H locs → W p l e R s m args below meth c H locs (cells + mc) (slots + ms) (vx_MQ below Qc (tc_XC D A px) args s MC MS A) (F0 m (pc + 3) ls rest)) : W p l e R s m args below meth c H locs cells slots (vx_MQ below Qc (tc_XC D A px) args s MC MS A) (F0 m pc ls st0) :=
  tx_back hr hS (tx_pass hlocks ht hc hs) (fun v G H1 locs1 hp => by obtain ⟨rfl, hp⟩ := hp; exact kk G H1 locs1 hp)
end TXU
end TCA
