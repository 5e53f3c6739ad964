/-! CALLS, RETURNS, THROWS over the world as a map -/
section TCA
variable {p : Program} {l : Launch} {e : Env} {R : Room} {s : State} {m : MethodId} {args : Array Value} {below : List Frame} {meth : Method} {c : Code} {H : Heap} {locs : List Loc} {cells slots : Nat} {Q : State → Prop}
variable {D : va_G} {K : tK} {A : Nat → Prop} {Ts : List Cond} {own : String} {cc : ByteArray} {nL : Nat} {pc : Nat} {ls : Array Slot} {rest : List Value} {G : tG}
theorem tc_kx (C : tc_B p l s m args meth c D K A Ts own cc nL) : kx_C s := C.2.2.2.1.2.2.2.2.2.2.2.2.2.2
theorem tc_pre (C : tc_B p l s m args meth c D K A Ts own cc nL) (hW : tg_W D A s H G) (hS : va_S A s.heap H locs) (av : List Value) : ∀ U : State, U.heap = H → s.WarmedH U.vm → tc_Pc D K A H.size G av av.toArray U := by
  intro U hU hWm
  have hvm := hWm.alike
  refine ⟨rfl, by rw [hU], ?_, va_K.moved hvm C.2.2.1, ?_, fun q hq => C.2.2.2.2.1 q (Nat.le_trans hS.1 hq)⟩
  · rw [hU]
    exact hW.moved hvm
  · rw [hU]
    exact (C.2.2.2.1.kept hS.2.1).moved hWm
theorem tc_room {vs : List tV} (hrest : rest = vs.map tv_v) (h : (vs.map fun v => if tv_2 v then 2 else 1).sum ≤ 8) : 2 * (F0 m pc ls rest).monitorRoom + (rest.map fun v => v.category).sum ≤ 8 := by
  have e1 : (rest.map fun v => v.category) = vs.map fun v => if tv_2 v then 2 else 1 := by
    rw [hrest, List.map_map]
    apply List.map_congr_left
    intro a _
    exact tv_cat a
  have h2 : (rest.map fun v => v.category).sum ≤ 8 := by rw [e1]; exact h
  exact lv_room h2
theorem tc_recv (C : tc_B p l s m args meth c D K A Ts own cc nL) (hW : tg_W D A s H G) {a ci : Nat} {q : vw_C} {fs : List Value} (hc : vwCl[ci]? = some q) (hG : G a = some (.inr (ci, fs))) : ∃ cell : Cell, H[a]? = some cell ∧ cell.vm.isStatics = false ∧ s.vm.findClass q.1 = some cell.cls := by
  obtain ⟨-, r, h1, cell, h2, h3, h4, -⟩ := hW a _ hG
  have hr : r = q := Option.some.inj (h1.symm.trans hc)
  subst hr
  exact ⟨cell, h2, by rw [h4]; rfl, by rw [h3]; exact (C.2.2.1.1 ci _ hc).2.1⟩
variable {y : MethodName} {ws : List Cond} {rm : Room} {mc ms n index maxL : Nat} {bytes : ByteArray} {ret : Option FieldType} {As : List Value} {pr : Option Value → tG → Prop} {px : String → tG → Prop} {wp : tG → Prop} {st0 : List Value}
theorem tr_runV {C0 : String} {T : u_T} {N ci : Nat} {r : Option Nat} (C : tc_B p l s m args meth c D K A Ts own cc nL) (hl : ls.size = nL) (hct : Ct l y ws rm mc ms (va_rf r :: As) K pr wp) (cw : CallW R s args own C0 index y bytes maxL ret ws rm mc ms n) (hc : vwCl[ci]? = some (C0, T, N)) (hn : As.length = n) (hdg : decode cc pc = .ok (.invokevirtual index, 3)) (hf : cells + mc ≤ R.cells ∧ slots + ms ≤ R.slots) (vs : List tV) (hrest : rest = vs.map tv_v) (h8 : (vs.map fun v => if tv_2 v then 2 else 1).sum ≤ 8) (hst : st0 = As.reverse ++ va_rf r :: rest) (hW : tg_W D A s H G) (hS : va_S A s.heap H locs) (hw : rcv G r ci (wp G)) :
    va_Run p l e R s m args below meth c H locs cells slots mc ms (F0 m pc ls st0) rest (tc_Qc D A pr (va_rf r :: As).toArray) A := by
  obtain ⟨a, fs, rfl, hG, hw⟩ := hw
  subst hst
  exact va_runV (C := C0) (As := As) (b := a) (rest := rest) C.1 (hct D A H.size G hw) cw ⟨tc_blind _ _ _ _ _ _, tc_recv C hW hc hG, tc_pre C hW hS _⟩ rfl hn hl rfl (tc_room (pc := pc) (m := m) (ls := ls) hrest h8) hdg hf
theorem tr_runVS {T : u_T} {N ci : Nat} {r : Option Nat} (C : tc_B p l s m args meth c D K A Ts own cc nL) (hl : ls.size = nL) (hct : Ct l y ws rm mc ms (va_rf r :: As) K pr wp) (cw : CallW R s args own "java/lang/String" index y bytes maxL ret ws rm mc ms n) (hc : vwCl[ci]? = some ("java/lang/String", T, N)) (hn : As.length = n) (hdg : decode cc pc = .ok (.invokevirtual index, 3)) (hf : cells + mc ≤ R.cells ∧ slots + ms ≤ R.slots) (vs : List tV) (hrest : rest = vs.map tv_v) (h8 : (vs.map fun v => if tv_2 v then 2 else 1).sum ≤ 8) (hst : st0 = As.reverse ++ va_rf r :: rest) (hW : tg_W D A s H G) (hS : va_S A s.heap H locs) (hw : rcvS K G r ci (wp G)) :
    va_Run p l e R s m args below meth c H locs cells slots mc ms (F0 m pc ls st0) rest (tc_Qc D A pr (va_rf r :: As).toArray) A := by
  obtain ⟨a, rfl, hr, hw⟩ := hw
  subst hst
  have hrecv : ∃ cell : Cell, H[a]? = some cell ∧ cell.vm.isStatics = false ∧ s.vm.findClass "java/lang/String" = some cell.cls := by
    rcases hr with ⟨fs, hG⟩ | ⟨v, hK⟩
    · exact tc_recv C hW hc hG
    · obtain ⟨cell, h1, h2, h3, -⟩ := va_O.kept (C.2.2.2.1.2.2.2.2.2.1 a v hK).1 hS.2.1
      exact ⟨cell, h1, h2, h3⟩
  exact va_runV (C := "java/lang/String") (As := As) (b := a) (rest := rest) C.1 (hct D A H.size G hw) cw ⟨tc_blind _ _ _ _ _ _, hrecv, tc_pre C hW hS _⟩ rfl hn hl rfl (tc_room (pc := pc) (m := m) (ls := ls) hrest h8) hdg hf
theorem tr_runU {C0 owner : String} {x : MethodName} {T : u_T} {N ci : Nat} {r : Option Nat} (C : tc_B p l s m args meth c D K A Ts own cc nL) (hl : ls.size = nL) (hct : Ct l y ws rm mc ms (va_rf r :: As) K pr wp) (cw : va_CU R s args own C0 owner index x y bytes maxL ret ws rm mc ms n) (hc : vwCl[ci]? = some (C0, T, N)) (hn : As.length = n) (hdg : decode cc pc = .ok (.invokevirtual index, 3)) (hf : cells + mc ≤ R.cells ∧ slots + ms ≤ R.slots) (vs : List tV) (hrest : rest = vs.map tv_v) (h8 : (vs.map fun v => if tv_2 v then 2 else 1).sum ≤ 8) (hst : st0 = As.reverse ++ va_rf r :: rest) (hW : tg_W D A s H G) (hS : va_S A s.heap H locs) (hw : rcv G r ci (wp G)) :
    va_Run p l e R s m args below meth c H locs cells slots mc ms (F0 m pc ls st0) rest (tc_Qc D A pr (va_rf r :: As).toArray) A := by
  obtain ⟨a, fs, rfl, hG, hw⟩ := hw
  subst hst
  exact va_runU (C := C0) (As := As) (b := a) (rest := rest) C.1 (hct D A H.size G hw) cw ⟨tc_blind _ _ _ _ _ _, tc_recv C hW hc hG, tc_pre C hW hS _⟩ rfl hn hl rfl (tc_room (pc := pc) (m := m) (ls := ls) hrest h8) hdg hf
theorem tr_runSU {C0 : String} {T : u_T} {N ci : Nat} {r : Option Nat} (C : tc_B p l s m args meth c D K A Ts own cc nL) (hl : ls.size = nL) (hct : Ct l y ws rm mc ms (va_rf r :: As) K pr wp) (cw : va_CS R s args own index y bytes maxL ret ws rm mc ms n) (hc : vwCl[ci]? = some (C0, T, N)) (hn : As.length = n) (hdg : decode cc pc = .ok (.invokespecial index, 3)) (hf : cells + mc ≤ R.cells ∧ slots + ms ≤ R.slots) (vs : List tV) (hrest : rest = vs.map tv_v) (h8 : (vs.map fun v => if tv_2 v then 2 else 1).sum ≤ 8) (hst : st0 = As.reverse ++ va_rf r :: rest) (hW : tg_W D A s H G) (hS : va_S A s.heap H locs) (hw : rcv G r ci (wp G)) :
    va_Run p l e R s m args below meth c H locs cells slots mc ms (F0 m pc ls st0) rest (tc_Qc D A pr (va_rf r :: As).toArray) A := by
  obtain ⟨a, fs, rfl, hG, hw⟩ := hw
  subst hst
  exact va_runSU (C := C0) (As := As) (b := a) (rest := rest) (C.2.2.1.1 ci _ hc).2 C.1 (hct D A H.size G hw) cw ⟨tc_blind _ _ _ _ _ _, tc_recv C hW hc hG, tc_pre C hW hS _⟩ rfl hn hl rfl (tc_room (pc := pc) (m := m) (ls := ls) hrest h8) hdg hf
theorem tr_runS (C : tc_B p l s m args meth c D K A Ts own cc nL) (hl : ls.size = nL) (hct : Ct l y ws rm mc ms As K pr wp) (cw : CallB R s args own index y bytes maxL ret ws rm mc ms n ∧ (Cond.static y).before args s = true) (hn : As.length = n) (hdg : decode cc pc = .ok (.invokestatic index, 3)) (hf : cells + mc ≤ R.cells ∧ slots + ms ≤ R.slots) (vs : List tV) (hrest : rest = vs.map tv_v) (h8 : (vs.map fun v => if tv_2 v then 2 else 1).sum ≤ 8) (hst : st0 = As.reverse ++ rest) (hW : tg_W D A s H G) (hS : va_S A s.heap H locs) (hw : wp G) :
    va_Run p l e R s m args below meth c H locs cells slots mc ms (F0 m pc ls st0) rest (tc_Qc D A pr As.toArray) A := by
  subst hst
  exact va_runS (As := As) (rest := rest) C.1 (hct D A H.size G hw) cw ⟨tc_blind _ _ _ _ _ _, tc_pre C hW hS _⟩ rfl hn hl rfl (tc_room (pc := pc) (m := m) (ls := ls) hrest h8) hdg hf
theorem tr_runI {r : Option Nat} (C : tc_B p l s m args meth c D K A Ts own cc nL) (hl : ls.size = nL) (hct : Ct l y ws rm mc ms (va_rf r :: As) K pr wp) (cw : CallB R s args own index y bytes maxL none ws rm mc ms n ∧ y.name = "<init>" ∧ (Cond.instanceMethod y).before args s = true) (hn : As.length = n) (hdg : decode cc pc = .ok (.invokespecial index, 3)) (hf : cells + mc ≤ R.cells ∧ slots + ms ≤ R.slots) (vs : List tV) (hrest : rest = vs.map tv_v) (h8 : (vs.map fun v => if tv_2 v then 2 else 1).sum ≤ 8) (hst : st0 = As.reverse ++ va_rf r :: rest) (hW : tg_W D A s H G) (hS : va_S A s.heap H locs) (hw : (∃ a : Nat, r = some a) ∧ wp G) :
    va_Run p l e R s m args below meth c H locs cells slots mc ms (F0 m pc ls st0) rest (tc_Qc D A pr (va_rf r :: As).toArray) A := by
  obtain ⟨⟨a, rfl⟩, hw⟩ := hw
  subst hst
  exact va_runI (As := As) (b := a) (rest := rest) C.1 (hct D A H.size G hw) cw ⟨tc_blind _ _ _ _ _ _, tc_pre C hW hS _⟩ rfl hn hl rfl (tc_room (pc := pc) (m := m) (ls := ls) hrest h8) hdg hf
theorem tx_runV {C0 : String} {T : u_T} {N ci : Nat} {r : Option Nat} (C : tc_B p l s m args meth c D K A Ts own cc nL) (hl : ls.size = nL) (hct : Cx l y ws rm mc ms (va_rf r :: As) K pr px wp) (cw : CallW R s args own C0 index y bytes maxL ret ws rm mc ms n) (hc : vwCl[ci]? = some (C0, T, N)) (hn : As.length = n) (hdg : decode cc pc = .ok (.invokevirtual index, 3)) (hf : cells + mc ≤ R.cells ∧ slots + ms ≤ R.slots) (vs : List tV) (hrest : rest = vs.map tv_v) (h8 : (vs.map fun v => if tv_2 v then 2 else 1).sum ≤ 8) (hst : st0 = As.reverse ++ va_rf r :: rest) (hW : tg_W D A s H G) (hS : va_S A s.heap H locs) (hw : rcv G r ci (wp G)) :
    vx_Run p l e R s m args below meth c H locs cells slots mc ms (F0 m pc ls st0) rest (tc_Qc D A pr (va_rf r :: As).toArray) (tc_XC D A px) A := by
  obtain ⟨a, fs, rfl, hG, hw⟩ := hw
  subst hst
  exact vx_runV (C := C0) (As := As) (b := a) (rest := rest) C.1 (hct D A H.size G hw) cw ⟨tc_blind _ _ _ _ _ _, tc_recv C hW hc hG, tc_pre C hW hS _⟩ rfl hn hl rfl (tc_room (pc := pc) (m := m) (ls := ls) hrest h8) hdg hf
theorem tx_runS (C : tc_B p l s m args meth c D K A Ts own cc nL) (hl : ls.size = nL) (hct : Cx l y ws rm mc ms As K pr px wp) (cw : CallB R s args own index y bytes maxL ret ws rm mc ms n ∧ (Cond.static y).before args s = true) (hn : As.length = n) (hdg : decode cc pc = .ok (.invokestatic index, 3)) (hf : cells + mc ≤ R.cells ∧ slots + ms ≤ R.slots) (vs : List tV) (hrest : rest = vs.map tv_v) (h8 : (vs.map fun v => if tv_2 v then 2 else 1).sum ≤ 8) (hst : st0 = As.reverse ++ rest) (hW : tg_W D A s H G) (hS : va_S A s.heap H locs) (hw : wp G) :
    vx_Run p l e R s m args below meth c H locs cells slots mc ms (F0 m pc ls st0) rest (tc_Qc D A pr As.toArray) (tc_XC D A px) A := by
  subst hst
  exact vx_runS (As := As) (rest := rest) C.1 (hct D A H.size G hw) cw ⟨tc_blind _ _ _ _ _ _, tc_pre C hW hS _⟩ rfl hn hl rfl (tc_room (pc := pc) (m := m) (ls := ls) hrest h8) hdg hf
/-- a byte array's clone() -/
theorem tr_clone (C : tc_B p l s m args meth c D K A Ts own cc nL) (hl : ls.size = nL) (hlink : Cond.methodLink own index ⟨"[B", "clone", "()Ljava/lang/Object;"⟩ ∈ Ts) (hsame : Cond.sameMethod "[B" "java/lang/Object" "clone" "()Ljava/lang/Object;" ∈ Ts) (hnat : Cond.native ⟨"java/lang/Object", "clone", "()Ljava/lang/Object;"⟩ ∈ Ts) (hinst : Cond.instanceMethod ⟨"java/lang/Object", "clone", "()Ljava/lang/Object;"⟩ ∈ Ts) (hsel : Cond.selects "[B" ⟨"[B", "clone", "()Ljava/lang/Object;"⟩ ⟨"java/lang/Object", "clone", "()Ljava/lang/Object;"⟩ ∈ Ts) {lim : Nat} (hcells : cells + 1 ≤ R.cells) (hslots : slots + lim ≤ R.slots) (hframes : 1 ≤ R.frames) (hlocals : 14 ≤ R.locals) (hdg : decode cc pc = .ok (.invokevirtual index, 3)) (hW : tg_W D A s H G) (hS : va_S A s.heap H locs) {r : Option Nat} {P : Option Nat → tG → Prop} (hw : clB G r lim P)
    (kk : ∀ (r : Option Nat) (G : tG) (H : Heap), P r G → tg_W D A s H G → va_S A s.heap H locs → W p l e R s m args below meth c H locs (cells + 1) (slots + lim) Q (F0 m (pc + 3) ls [va_rf r])) : W p l e R s m args below meth c H locs cells slots Q (F0 m pc ls [va_rf r]) := by
  obtain ⟨a, n, f, rfl, hG, hn, hfit, hP⟩ := hw
  obtain ⟨hA, cA, hty, hcell⟩ := hW a _ hG
  obtain ⟨c0, t0, f1, f2, f3⟩ := Cond.castable_spec (va_Nw.use (A := args) rfl (tc_kx C).2.2.2.2.2.2.2.2)
  have hnm : s.vm.findClass "[B" = some cA := va_nm_byte hty.2
  cases hnm.symm.trans f1
  have hsz : (vp_cell cA (n, .inl f)).slots.size = n := arrV_size _ _ _
  intro T hT X
  have hcellT : T.heap[a]? = some (vp_cell cA (n, .inl f)) := by rw [hT]; exact hcell
  obtain ⟨-, kA, hkA, comp, hkind⟩ := State.isArrayOf_alike X.warmed.alike (hty.1 0 (fun _ => .null))
  obtain ⟨-, kS, hkS, compS, hkindS⟩ := hty.1 0 (fun _ => .null)
  obtain ⟨vm', X', st⟩ := X.cloneArray C.1.1 C.1.2.2.2.1 (C.1.2.2.2.2 _ hlink) (C.1.2.2.2.2 _ hsame) (C.1.2.2.2.2 _ hnat) (C.1.2.2.2.2 _ hinst) (C.1.2.2.2.2 _ hsel) (a := a) (cell := vp_cell cA (n, .inl f)) hcellT (fun k h => by cases h) (fun h => by cases h) hnm f2 f3
    (fun i v hv => by
      have hk' : T.vm.classes[cA]? = some kA := hkA
      have hf := va_fit (cA := cA) (n := n) (F := fun j => .int (f j)) (ty := .byte) hfit i v hv
      show T.fitsSlot cA .none i v = true
      simpa [State.fitsSlot, State.slotType?, hk', hkind] using hf)
    (g := F0 m pc ls [va_rf (some a)]) rfl (by rw [C.1.2.2.1]; exact hl) rfl (by rw [C.1.2.1]; exact hdg) hframes (by show 2 * 0 + 0 + 14 ≤ _; omega) hcells (by rw [hsz]; omega) (hloader := Vm.clonesLoader_of_array hkS hkindS)
  have hcellE : ({ cls := (vp_cell cA (n, .inl f)).cls, slots := (vp_cell cA (n, .inl f)).slots } : Cell) = vp_cell cA (n, .inl f) := rfl
  rw [hcellE, hsz] at X'
  generalize hH1 : H.push (vp_cell cA (n, .inl f)) = H1
  have z1 : H1.size = H.size + 1 := by rw [← hH1, Array.size_push]
  have e1 : H1[H.size]? = some (vp_cell cA (n, .inl f)) := by rw [← hH1, Array.getElem?_push_size]
  have o1 : ∀ q : Nat, q < H.size → H1[q]? = H[q]? := fun q hq => by rw [← hH1, Array.getElem?_push, if_neg (Nat.ne_of_lt hq)]
  have hk := W.widen (Nat.le_refl _) (by omega : slots + n ≤ slots + lim) (kk (some H.size) _ H1 (hP _ hW.fresh) (hW.make (C.2.2.2.2.1 _ hS.1) ⟨cA, hty, e1⟩ o1) (ts_make hS z1 o1))
  obtain ⟨t, b1, b2⟩ := hk ((T.setVm vm').pushCell (vp_cell cA (n, .inl f))) (by rw [← hH1, ← hT]; rfl) X'
  refine ⟨t, st t ?_, b2⟩
  rw [hcellE, hT]
  exact b1
theorem tr_castB (C : tc_B p l s m args meth c D K A Ts own cc nL) (hlink : Cond.classLink own index "[B" ∈ Ts) (hdg : decode cc pc = .ok (.checkcast index, 3)) (hW : tg_W D A s H G) {r : Option Nat} {P : Prop} (hw : isB G r P) (kk : P → W p l e R s m args below meth c H locs cells slots Q (F0 m (pc + 3) ls (va_rf r :: rest))) : W p l e R s m args below meth c H locs cells slots Q (F0 m pc ls (va_rf r :: rest)) := by
  obtain ⟨a, x, rfl, hG, hP⟩ := hw
  obtain ⟨hA, cA, hty, hcell⟩ := hW a _ hG
  have hp : va_P D vwCl [(a, .inl (cA, x))] H := fun k q hk => by
    cases k with
    | zero => cases hk; exact hcell
    | succ k => simp at hk
  exact va_castA C.1.1 C.1.2.1 C.1.2.2.2.1 (C.1.2.2.2.2 _ hlink) hp 0 rfl (va_nm_byte hty.2) hdg (kk hP)
/-- a field of a nest mate's object -/
theorem tr_gfLN (C : tc_B p l s m args meth c D K A Ts own cc nL) {ref C0 host : String} {T : u_T} {N ci index : Nat} (hin : ∀ w ∈ u_ws C0 T N, w ∈ Ts) (hc : vwCl[ci]? = some (C0, T, N)) {k : Nat} (hk : k < N) (hlink : va_Nw (.fieldLinkNest own index ref (T k).2.1 (T k).2.2.1 host) s) (href : (T k).1 = ref) (hdg : decode cc pc = .ok (.getfield index, 3)) (hW : tg_W D A s H G)
    {r : Option Nat} {P : Int64 → Prop} (hw : gfL G r ci k P) (kk : ∀ x : Int64, P x → W p l e R s m args below meth c H locs cells slots Q (F0 m (pc + 3) ls (.long x :: rest))) : W p l e R s m args below meth c H locs cells slots Q (F0 m pc ls (va_rf r :: rest)) := by
  obtain ⟨a, fs, x, rfl, hG, hx, hP⟩ := hw
  have hp : va_P D vwCl [(a, .inr (ci, fs))] H := fun k q hk => by
    cases k with
    | zero => cases hk; exact (hW a _ hG).2
    | succ k => simp at hk
  exact va_getN C.1.1 C.1.2.1 C.1.2.2.2.2 hin C.1.2.2.2.1 C.2.2.1 hp 0 rfl hc k hk (va_Nw.use rfl hlink) (fun _ h => by rw [← href]; exact h) hx hdg (kk x hP)
/-- behind a call that returns -/
theorem tr_back {a : Array Value} (hr : va_Run p l e R s m args below meth c H locs cells slots mc ms (F0 m pc ls st0) rest (tc_Qc D A pr a) A) (hS : va_S A s.heap H locs)
    (kk : ∀ (v : Option Value) (G : tG) (H1 : Heap) (locs1 : List Loc), pr v G → tg_W D A s H1 G → va_S A s.heap H1 locs1 → W p l e R s m args below meth c H1 locs1 (cells + mc) (slots + ms) Q (F0 m (pc + 3) ls (v.toList ++ rest))) : W p l e R s m args below meth c H locs cells slots Q (F0 m pc ls st0) := by
  intro T hT X
  obtain ⟨v, st₀, t, T', L, h0, X', hL, e1, e2, ⟨⟨v', G', hv, hp, hG⟩, hF⟩, st⟩ := hr T hT X
  cases hv
  obtain ⟨k1, k2, k3⟩ := vx_keep h0 e1 hS (fun _ _ h => h) (fun _ h => h) hL hF
  have hal : t.vm.Alike s.vm := by
    rw [← e2]
    exact X'.warmed.alike.symm
  obtain ⟨t2, a1, b1⟩ := kk v G' T'.heap (locs ++ L) hp (by rw [e1]; exact hG.moved hal) k3 T' rfl X'
  exact ⟨t2, st t2 a1, b1⟩
theorem tx_back {a : Array Value} (hr : vx_Run p l e R s m args below meth c H locs cells slots mc ms (F0 m pc ls st0) rest (tc_Qc D A pr a) (tc_XC D A px) A) (hS : va_S A s.heap H locs)
    (kx : ∀ (E : String) (ce : Cell) (q9 : Addr) (G : tG) (H1 : Heap) (locs1 : List Loc), px E G → tg_W D A s H1 G → va_S A s.heap H1 locs1 → H1[q9]? = some ce → ce.vm = .none → s.vm.findClass E = some ce.cls → vx_W p l e R s m args below meth c H1 locs1 (cells + mc) (slots + ms) Q (F0 m pc ls rest) q9)
    (kk : ∀ (v : Option Value) (G : tG) (H1 : Heap) (locs1 : List Loc), pr v G → tg_W D A s H1 G → va_S A s.heap H1 locs1 → W p l e R s m args below meth c H1 locs1 (cells + mc) (slots + ms) Q (F0 m (pc + 3) ls (v.toList ++ rest))) : W p l e R s m args below meth c H locs cells slots Q (F0 m pc ls st0) := by
  intro T hT X
  rcases hr T hT X with ⟨v, st₀, t, T', L, h0, X', hL, e1, e2, ⟨⟨v', G', hv, hp, hG⟩, hF⟩, st⟩ | ⟨q, st₀, t, T', L, E, ce, h0, X', hL, e1, e2, ⟨⟨G', hp, hG⟩, hF⟩, hce, hcv, hcl, st⟩
  · cases hv
    obtain ⟨k1, k2, k3⟩ := vx_keep h0 e1 hS (fun _ _ h => h) (fun _ h => h) hL hF
    have hal : t.vm.Alike s.vm := by
      rw [← e2]
      exact X'.warmed.alike.symm
    obtain ⟨t2, a1, b1⟩ := kk v G' T'.heap (locs ++ L) hp (by rw [e1]; exact hG.moved hal) k3 T' rfl X'
    exact ⟨t2, st t2 a1, b1⟩
  · obtain ⟨k1, k2, k3⟩ := vx_keep h0 e1 hS (fun _ _ h => h) (fun _ h => h) hL hF
    have hal : t.vm.Alike s.vm := by
      rw [← e2]
      exact X'.warmed.alike.symm
    obtain ⟨t2, a1, b1⟩ := kx E ce q G' T'.heap (locs ++ L) hp (by rw [e1]; exact hG.moved hal) k3 (by rw [e1]; exact hce) hcv hcl T' rfl X'
    exact ⟨t2, st.trans a1, b1⟩
theorem tr_backI {a : Array Value} {post : Int32 → tG → Prop} (hr : va_Run p l e R s m args below meth c H locs cells slots mc ms (F0 m pc ls st0) rest (tc_Qc D A (retI post) a) A) (hS : va_S A s.heap H locs)
    (kk : ∀ (x : Int32) (G : tG) (H : Heap) (locs : List Loc), post x G → tg_W D A s H G → va_S A s.heap H locs → W p l e R s m args below meth c H locs (cells + mc) (slots + ms) Q (F0 m (pc + 3) ls (.int x :: rest))) : W p l e R s m args below meth c H locs cells slots Q (F0 m pc ls st0) :=
  tr_back hr hS (fun v G H1 locs1 hp => by obtain ⟨x, rfl, hp⟩ := hp; exact kk x G H1 locs1 hp)
theorem tr_backL {a : Array Value} {post : Int64 → tG → Prop} (hr : va_Run p l e R s m args below meth c H locs cells slots mc ms (F0 m pc ls st0) rest (tc_Qc D A (retL post) a) A) (hS : va_S A s.heap H locs)
    (kk : ∀ (x : Int64) (G : tG) (H : Heap) (locs : List Loc), post x G → tg_W D A s H G → va_S A s.heap H locs → W p l e R s m args below meth c H locs (cells + mc) (slots + ms) Q (F0 m (pc + 3) ls (.long x :: rest))) : W p l e R s m args below meth c H locs cells slots Q (F0 m pc ls st0) :=
  tr_back hr hS (fun v G H1 locs1 hp => by obtain ⟨x, rfl, hp⟩ := hp; exact kk x G H1 locs1 hp)
theorem tr_backR {a : Array Value} {post : Option Nat → tG → Prop} (hr : va_Run p l e R s m args below meth c H locs cells slots mc ms (F0 m pc ls st0) rest (tc_Qc D A (retR post) a) A) (hS : va_S A s.heap H locs)
    (kk : ∀ (x : Option Nat) (G : tG) (H : Heap) (locs : List Loc), post x G → tg_W D A s H G → va_S A s.heap H locs → W p l e R s m args below meth c H locs (cells + mc) (slots + ms) Q (F0 m (pc + 3) ls (va_rf x :: rest))) : W p l e R s m args below meth c H locs cells slots Q (F0 m pc ls st0) :=
  tr_back hr hS (fun v G H1 locs1 hp => by obtain ⟨x, rfl, hp⟩ := hp; exact kk x G H1 locs1 hp)
theorem tr_backV {a : Array Value} {post : tG → Prop} (hr : va_Run p l e R s m args below meth c H locs cells slots mc ms (F0 m pc ls st0) rest (tc_Qc D A (retV post) a) A) (hS : va_S A s.heap H locs)
    (kk : ∀ (G : tG) (H : Heap) (locs : List Loc), post G → tg_W D A s H G → va_S A s.heap H locs → W p l e R s m args below meth c H locs (cells + mc) (slots + ms) Q (F0 m (pc + 3) ls rest)) : W p l e R s m args below meth c H locs cells slots Q (F0 m pc ls st0) :=
  tr_back hr hS (fun v G H1 locs1 hp => by obtain ⟨rfl, hp⟩ := hp; exact kk G H1 locs1 hp)
section TXU
variable {Qc : Array Value → State → Outcome → State → Prop} {MC MS : Nat}
/-- what the callee throws goes on to the caller -/
theorem tx_pass (hlocks : meth.locks = false) (ht : ∀ x ∈ c.exceptionTable.toList, False) (hc : cells + mc ≤ MC) (hs : slots + ms ≤ MS) : ∀ (E : String) (ce : Cell) (q9 : Addr) (G : tG) (H1 : Heap) (locs1 : List Loc), px E G → tg_W D A s H1 G → va_S A s.heap H1 locs1 → H1[q9]? = some ce → ce.vm = .none → s.vm.findClass E = some ce.cls → vx_W p l e R s m args below meth c H1 locs1 (cells + mc) (slots + ms) (vx_MQ below Qc (tc_XC D A px) args s MC MS A) (F0 m pc ls rest) q9 := by
  intro E ce q9 G H1 locs1 hp hW hS hce hcv hcl
  exact vx_out (fun x hx => (ht x hx).elim) hlocks hce hcv hcl (fun t ht hal => ⟨⟨G, hp, by rw [ht]; exact hW.moved hal⟩, hS.F ht⟩) hS.2.2 hc hs
theorem tx_backI {a : Array Value} {post : Int32 → tG → Prop} (hr : vx_Run p l e R s m args below meth c H locs cells slots mc ms (F0 m pc ls st0) rest (tc_Qc D A (retI post) a) (tc_XC D A px) A) (hS : va_S A s.heap H locs) (hlocks : meth.locks = false) (ht : ∀ x ∈ c.exceptionTable.toList, False) (hc : cells + mc ≤ MC) (hs : slots + ms ≤ MS)
    (kk : ∀ (x : Int32) (G : tG) (H : Heap) (locs : List Loc), post x G → tg_W D A s H G → va_S A s.heap H locs → W p l e R s m args below meth c H locs (cells + mc) (slots + ms) (vx_MQ below Qc (tc_XC D A px) args s MC MS A) (F0 m (pc + 3) ls (.int x :: rest))) : W p l e R s m args below meth c H locs cells slots (vx_MQ below Qc (tc_XC D A px) args s MC MS A) (F0 m pc ls st0) :=
  tx_back hr hS (tx_pass hlocks ht hc hs) (fun v G H1 locs1 hp => by obtain ⟨x, rfl, hp⟩ := hp; exact kk x G H1 locs1 hp)
theorem tx_backL {a : Array Value} {post : Int64 → tG → Prop} (hr : vx_Run p l e R s m args below meth c H locs cells slots mc ms (F0 m pc ls st0) rest (tc_Qc D A (retL post) a) (tc_XC D A px) A) (hS : va_S A s.heap H locs) (hlocks : meth.locks = false) (ht : ∀ x ∈ c.exceptionTable.toList, False) (hc : cells + mc ≤ MC) (hs : slots + ms ≤ MS)
    (kk : ∀ (x : Int64) (G : tG) (H : Heap) (locs : List Loc), post x G → tg_W D A s H G → va_S A s.heap H locs → W p l e R s m args below meth c H locs (cells + mc) (slots + ms) (vx_MQ below Qc (tc_XC D A px) args s MC MS A) (F0 m (pc + 3) ls (.long x :: rest))) : W p l e R s m args below meth c H locs cells slots (vx_MQ below Qc (tc_XC D A px) args s MC MS A) (F0 m pc ls st0) :=
  tx_back hr hS (tx_pass hlocks ht hc hs) (fun v G H1 locs1 hp => by obtain ⟨x, rfl, hp⟩ := hp; exact kk x G H1 locs1 hp)
theorem tx_backR {a : Array Value} {post : Option Nat → tG → Prop} (hr : vx_Run p l e R s m args below meth c H locs cells slots mc ms (F0 m pc ls st0) rest (tc_Qc D A (retR post) a) (tc_XC D A px) A) (hS : va_S A s.heap H locs) (hlocks : meth.locks = false) (ht : ∀ x ∈ c.exceptionTable.toList, False) (hc : cells + mc ≤ MC) (hs : slots + ms ≤ MS)
    (kk : ∀ (x : Option Nat) (G : tG) (H : Heap) (locs : List Loc), post x G → tg_W D A s H G → va_S A s.heap H locs → W p l e R s m args below meth c H locs (cells + mc) (slots + ms) (vx_MQ below Qc (tc_XC D A px) args s MC MS A) (F0 m (pc + 3) ls (va_rf x :: rest))) : W p l e R s m args below meth c H locs cells slots (vx_MQ below Qc (tc_XC D A px) args s MC MS A) (F0 m pc ls st0) :=
  tx_back hr hS (tx_pass hlocks ht hc hs) (fun v G H1 locs1 hp => by obtain ⟨x, rfl, hp⟩ := hp; exact kk x G H1 locs1 hp)
theorem tx_backV {a : Array Value} {post : tG → Prop} (hr : vx_Run p l e R s m args below meth c H locs cells slots mc ms (F0 m pc ls st0) rest (tc_Qc D A (retV post) a) (tc_XC D A px) A) (hS : va_S A s.heap H locs) (hlocks : meth.locks = false) (ht : ∀ x ∈ c.exceptionTable.toList, False) (hc : cells + mc ≤ MC) (hs : slots + ms ≤ MS)
    (kk : ∀ (G : tG) (H : Heap) (locs : List Loc), post G → tg_W D A s H G → va_S A s.heap H locs → W p l e R s m args below meth c H locs (cells + mc) (slots + ms) (vx_MQ below Qc (tc_XC D A px) args s MC MS A) (F0 m (pc + 3) ls rest)) : W p l e R s m args below meth c H locs cells slots (vx_MQ below Qc (tc_XC D A px) args s MC MS A) (F0 m pc ls st0) :=
  tx_back hr hS (tx_pass hlocks ht hc hs) (fun v G H1 locs1 hp => by obtain ⟨rfl, hp⟩ := hp; exact kk G H1 locs1 hp)
/-- 'throw new E("..")' that leaves the method -/
theorem tx_throw (C : tc_B p l s m args meth c D K A Ts own cc nL) (hl : ls.size = nL) (ht : ∀ x ∈ c.exceptionTable.toList, False) {cls text : String} {names : List String} {ik is ic cn : Nat} (hcls : Bundle.fit cls = true) (hnames : ∀ n ∈ names, Bundle.fit n = true) (hk : Cond.classLink own ik cls ∈ Ts) (hini : Cond.initialized cls ∈ Ts) (hstr : (own, is, text, cn) ∈ tk_strs) (hat1 : ∀ w ∈ (vx_atS own ic cls names).filter goodWord, w ∈ Ts) (hat2 : ∀ w ∈ (vx_atS own ic cls names).filter (fun w => !goodWord w), w ∈ [Cond.castable cls cls, kx_d1, kx_d2, kx_d3]) (hcast : va_Nw (.castable cls cls) s) (hgood : ∀ w ∈ Cond.classLink own ik cls :: Cond.initialized cls :: vx_atS own ic cls names, vx_ot w = true)
    (d0 : decode cc pc = .ok (.new ik, 3)) (d3 : decode cc (pc + 3) = .ok (.dup, 1)) (d4 : decode cc (pc + 4) = .ok (.ldc is, 2)) (d6 : decode cc (pc + 6) = .ok (.invokespecial ic, 3)) (d9 : decode cc (pc + 9) = .ok (.athrow, 1)) (hRframes : names.length + 3 < R.frames) (hRlocals : 0 + (13 * (names.length + 1) + 43) ≤ R.locals) (hRcells : cells + 1 ≤ R.cells) (hRslots : slots + 6 ≤ R.slots) (hc : cells + 1 ≤ MC) (hs : slots + 6 ≤ MS)
    (hW : tg_W D A s H G) (hS : va_S A s.heap H locs) (hw : px cls G) : W p l e R s m args below meth c H locs cells slots (vx_MQ below Qc (tc_XC D A px) args s MC MS A) (F0 m pc ls []) := by
  refine vx_throwS (A := A) (text := text) (sa := K.2.2 cn) (names := names) C.1.1 C.1.2.1 C.2.2.2.2.2 C.1.2.2.2.1 hcls hnames (C.1.2.2.2.2 _ hk) (C.1.2.2.2.2 _ hini) (C.2.2.2.1.2.2.2.2.1 (own, is, text, cn) hstr)
    (vx_hat (B := [Cond.castable cls cls, kx_d1, kx_d2, kx_d3]) (fun w h => C.1.2.2.2.2 _ (hat1 w h)) hat2 (vx_c (va_Nw.use rfl hcast) (vx_c (va_Nw.use rfl (tc_kx C).2.2.2.2.2.1) (vx_c (va_Nw.use rfl (tc_kx C).2.2.2.2.2.2.1) (vx_c (va_Nw.use rfl (tc_kx C).2.2.2.2.2.2.2.1) vx_n))))) hgood C.2.2.2.1.1 C.2.2.2.1.2.1 hS (by rw [hl, C.1.2.2.1]) d0 d3 d4 d6 d9 (fun x hx => (ht x hx).elim) hRframes hRlocals hRcells hRslots C.2.1 (fun t hal h1 h2 => ⟨⟨G, hw, ?_⟩, ?_⟩) hS.2.2 hc hs
  · exact fun q e9 hq => ⟨(hW q e9 hq).1, ((hW q e9 hq).2.kept (h2 q (hW q e9 hq).2.lt)).moved hal⟩
  · exact ⟨Nat.le_trans hS.1 h1, fun q g1 g2 => by rw [h2 q (Nat.lt_of_lt_of_le g1 hS.1)]; exact hS.2.1 q g1 g2⟩
/-! ends -/
theorem tr_iret (C : tc_B p l s m args meth c D K A Ts own cc nL) (hr : meth.sig.returnType = some .int) (hdg : decode cc pc = .ok (.ireturn, 1)) (hc : cells ≤ MC) (hs : slots ≤ MS) (hW : tg_W D A s H G) (hS : va_S A s.heap H locs) {x : Int32} {post : Int32 → tG → Prop} (hw : post x G) : W p l e R s m args below meth c H locs cells slots (MQ below (tc_Qc D A (retI post)) args s MC MS A) (F0 m pc ls [.int x]) :=
  W.widen hc hs (W.iret C.1.1 C.1.2.1 hr (fun t ht hWm => ⟨⟨_, G, rfl, ⟨x, rfl, hw⟩, by rw [ht]; exact hW.moved hWm.alike⟩, hS.F ht⟩) hS.2.2 hdg C.2.1)
theorem tr_zret (C : tc_B p l s m args meth c D K A Ts own cc nL) {ty : FieldType} (hr : meth.sig.returnType = some ty) (hdg : decode cc pc = .ok (.ireturn, 1)) (hc : cells ≤ MC) (hs : slots ≤ MS) (hW : tg_W D A s H G) (hS : va_S A s.heap H locs) {x : Int32} {post : Int32 → tG → Prop} (hw : narrow ty (.int x) = .int x ∧ post x G) : W p l e R s m args below meth c H locs cells slots (MQ below (tc_Qc D A (retI post)) args s MC MS A) (F0 m pc ls [.int x]) :=
  W.widen hc hs (W.zret C.1.1 C.1.2.1 hr hw.1 (fun t ht hWm => ⟨⟨_, G, rfl, ⟨x, rfl, hw.2⟩, by rw [ht]; exact hW.moved hWm.alike⟩, hS.F ht⟩) hS.2.2 hdg C.2.1)
theorem tr_lret (C : tc_B p l s m args meth c D K A Ts own cc nL) (hr : meth.sig.returnType = some .long) (hdg : decode cc pc = .ok (.lreturn, 1)) (hc : cells ≤ MC) (hs : slots ≤ MS) (hW : tg_W D A s H G) (hS : va_S A s.heap H locs) {x : Int64} {post : Int64 → tG → Prop} (hw : post x G) : W p l e R s m args below meth c H locs cells slots (MQ below (tc_Qc D A (retL post)) args s MC MS A) (F0 m pc ls [.long x]) :=
  W.widen hc hs (W.lret C.1.1 C.1.2.1 hr (fun t ht hWm => ⟨⟨_, G, rfl, ⟨x, rfl, hw⟩, by rw [ht]; exact hW.moved hWm.alike⟩, hS.F ht⟩) hS.2.2 hdg C.2.1)
theorem tr_vret (C : tc_B p l s m args meth c D K A Ts own cc nL) (hr : meth.sig.returnType = none) (hdg : decode cc pc = .ok (.return_, 1)) (hc : cells ≤ MC) (hs : slots ≤ MS) (hW : tg_W D A s H G) (hS : va_S A s.heap H locs) {post : tG → Prop} (hw : post G) : W p l e R s m args below meth c H locs cells slots (MQ below (tc_Qc D A (retV post)) args s MC MS A) (F0 m pc ls []) :=
  W.widen hc hs (W.vret C.1.1 C.1.2.1 hr (fun t ht hWm => ⟨⟨_, G, rfl, ⟨rfl, hw⟩, by rw [ht]; exact hW.moved hWm.alike⟩, hS.F ht⟩) hS.2.2 hdg C.2.1)
theorem va_rf_is (r : Option Nat) : va_rf r = .null ∨ ∃ a, va_rf r = .ref a := by
  cases r with
  | none => exact Or.inl rfl
  | some a => exact Or.inr ⟨a, rfl⟩
theorem tr_aret (C : tc_B p l s m args meth c D K A Ts own cc nL) {rt : FieldType} (hr : meth.sig.returnType = some rt) (hrt : (∃ n, rt = .object n) ∨ ∃ t, rt = .array t) (hdg : decode cc pc = .ok (.areturn, 1)) (hc : cells ≤ MC) (hs : slots ≤ MS) (hW : tg_W D A s H G) (hS : va_S A s.heap H locs) {x : Option Nat} {post : Option Nat → tG → Prop} (hw : post x G) : W p l e R s m args below meth c H locs cells slots (MQ below (tc_Qc D A (retR post)) args s MC MS A) (F0 m pc ls [va_rf x]) :=
  W.widen hc hs (W.aret C.1.1 C.1.2.1 hr hrt (va_rf_is x) (fun t ht hWm => ⟨⟨_, G, rfl, ⟨x, rfl, hw⟩, by rw [ht]; exact hW.moved hWm.alike⟩, hS.F ht⟩) hS.2.2 hdg C.2.1)
end TXU
/-! String constants, statics, arraycopy, Math -/
theorem tr_ldcS (C : tc_B p l s m args meth c D K A Ts own cc nL) {index cn : Nat} {tx : String} (hstr : (own, index, tx, cn) ∈ tk_strs) (hdg : decode cc pc = .ok (.ldc index, 2)) (kk : W p l e R s m args below meth c H locs cells slots Q (F0 m (pc + 2) ls (va_rf (some (K.2.2 cn)) :: rest))) : W p l e R s m args below meth c H locs cells slots Q (F0 m pc ls rest) :=
  va_ldcS C.1.1 C.1.2.1 C.1.2.2.2.1 (C.2.2.2.1.2.2.2.2.1 (own, index, tx, cn) hstr) hdg kk
theorem tr_getCS (C : tc_B p l s m args meth c D K A Ts own cc nL) {index : Nat} (hlink : Cond.fieldLink own index "java/lang/String" "COMPACT_STRINGS" "Z" ∈ Ts) (hdg : decode cc pc = .ok (.getstatic index, 3)) (hS : va_S A s.heap H locs) (kk : W p l e R s m args below meth c H locs cells slots Q (F0 m (pc + 3) ls (.int 1 :: rest))) : W p l e R s m args below meth c H locs cells slots Q (F0 m pc ls rest) :=
  va_gets C.1.1 C.1.2.1 C.2.2.2.1.2.2.2.2.2.2.2.1 hS C.1.2.2.2.1 (C.1.2.2.2.2 _ hlink) (fun _ h => h) hdg kk
theorem tr_getDT (C : tc_B p l s m args meth c D K A Ts own cc nL) {index : Nat} (hlink : Cond.fieldLink own index "java/lang/Integer" "DigitTens" "[B" ∈ Ts) (hdg : decode cc pc = .ok (.getstatic index, 3)) (hS : va_S A s.heap H locs) (kk : W p l e R s m args below meth c H locs cells slots Q (F0 m (pc + 3) ls (va_rf (some (K.2.2 20)) :: rest))) : W p l e R s m args below meth c H locs cells slots Q (F0 m pc ls rest) :=
  va_gets C.1.1 C.1.2.1 C.2.2.2.1.2.2.2.2.2.2.2.2.1 hS C.1.2.2.2.1 (C.1.2.2.2.2 _ hlink) (fun _ h => h) hdg kk
theorem tr_getDO (C : tc_B p l s m args meth c D K A Ts own cc nL) {index : Nat} (hlink : Cond.fieldLink own index "java/lang/Integer" "DigitOnes" "[B" ∈ Ts) (hdg : decode cc pc = .ok (.getstatic index, 3)) (hS : va_S A s.heap H locs) (kk : W p l e R s m args below meth c H locs cells slots Q (F0 m (pc + 3) ls (va_rf (some (K.2.2 21)) :: rest))) : W p l e R s m args below meth c H locs cells slots Q (F0 m pc ls rest) :=
  va_gets C.1.1 C.1.2.1 C.2.2.2.1.2.2.2.2.2.2.2.2.2.1 hS C.1.2.2.2.1 (C.1.2.2.2.2 _ hlink) (fun _ h => h) hdg kk
theorem tr_max (C : tc_B p l s m args meth c D K A Ts own cc nL) (hl : ls.size = nL) {index : Nat} (hlink : Cond.methodLink own index Lib.Math.max.name ∈ Ts) (hstat : Cond.static Lib.Math.max.name ∈ Ts) (hini : Cond.initialized "java/lang/Math" ∈ Ts) (hcode : Cond.code Lib.Math.max.name Lib.Math.max.code 2 (some .int) ∈ Ts) (vs : List tV) (hrest : rest = vs.map tv_v) (hframes : 1 ≤ R.frames) (hlocals : (vs.map fun v => if tv_2 v then 2 else 1).sum + 13 ≤ R.locals) (hc : cells ≤ R.cells) (hs : slots ≤ R.slots) {x y : Int32} (hdg : decode cc pc = .ok (.invokestatic index, 3))
    (kk : W p l e R s m args below meth c H locs cells slots Q (F0 m (pc + 3) ls (.int (if x < y then y else x) :: rest))) : W p l e R s m args below meth c H locs cells slots Q (F0 m pc ls (.int y :: .int x :: rest)) := by
  refine va_mmax C.1.1 C.1.2.1 (by rw [hl, C.1.2.2.1]) C.1.2.2.2.1 (C.1.2.2.2.2 _ hlink) (C.1.2.2.2.2 _ hstat) (C.1.2.2.2.2 _ hini) (C.1.2.2.2.2 _ hcode) hframes ?_ hc hs hdg kk
  have e1 : (rest.map fun v => v.category) = vs.map fun v => if tv_2 v then 2 else 1 := by
    rw [hrest, List.map_map]
    apply List.map_congr_left
    intro a _
    exact tv_cat a
  rw [e1]
  exact hlocals
theorem tr_min (C : tc_B p l s m args meth c D K A Ts own cc nL) (hl : ls.size = nL) {index : Nat} (hlink : Cond.methodLink own index Lib.Math.min.name ∈ Ts) (hstat : Cond.static Lib.Math.min.name ∈ Ts) (hini : Cond.initialized "java/lang/Math" ∈ Ts) (hcode : Cond.code Lib.Math.min.name Lib.Math.min.code 2 (some .int) ∈ Ts) (vs : List tV) (hrest : rest = vs.map tv_v) (hframes : 1 ≤ R.frames) (hlocals : (vs.map fun v => if tv_2 v then 2 else 1).sum + 13 ≤ R.locals) (hc : cells ≤ R.cells) (hs : slots ≤ R.slots) {x y : Int32} (hdg : decode cc pc = .ok (.invokestatic index, 3))
    (kk : W p l e R s m args below meth c H locs cells slots Q (F0 m (pc + 3) ls (.int (if y < x then y else x) :: rest))) : W p l e R s m args below meth c H locs cells slots Q (F0 m pc ls (.int y :: .int x :: rest)) := by
  refine va_mmin C.1.1 C.1.2.1 (by rw [hl, C.1.2.2.1]) C.1.2.2.2.1 (C.1.2.2.2.2 _ hlink) (C.1.2.2.2.2 _ hstat) (C.1.2.2.2.2 _ hini) (C.1.2.2.2.2 _ hcode) hframes ?_ hc hs hdg kk
  have e1 : (rest.map fun v => v.category) = vs.map fun v => if tv_2 v then 2 else 1 := by
    rw [hrest, List.map_map]
    apply List.map_congr_left
    intro a _
    exact tv_cat a
  rw [e1]
  exact hlocals
theorem tc_nn {z : Int32} {n : Nat} (h : z.toInt = (n : Int)) : ¬ z < 0 ∧ z.toNatClampNeg = n := by
  refine ⟨fun h1 => ?_, by show z.toInt.toNat = n; rw [h]; rfl⟩
  have h2 := Int32.lt_iff_toInt_lt.mp h1
  rw [h] at h2
  have h0 : (0 : Int32).toInt = 0 := by decide
  rw [h0] at h2
  omega
theorem tr_copy (C : tc_B p l s m args meth c D K A Ts own cc nL) (hl : ls.size = nL) {index : Nat} (hlink : Cond.methodLink own index arraycopyName ∈ Ts) (hnat : Cond.native arraycopyName ∈ Ts) (hstat : Cond.static arraycopyName ∈ Ts) (hini : Cond.initialized "java/lang/System" ∈ Ts) (hframes : 1 ≤ R.frames) (hlocals : 0 + (nativeFrameWords "java/lang/System" "arraycopy" 5 + 11) ≤ R.locals) (hdg : decode cc pc = .ok (.invokestatic index, 3)) (hW : tg_W D A s H G) (hS : va_S A s.heap H locs) {r r2 : Option Nat} {sp dp n : Int32} {P : tG → Prop} (hw : cpB K G r sp r2 dp n P)
    (kk : ∀ (G : tG) (H : Heap) (locs : List Loc), P G → tg_W D A s H G → va_S A s.heap H locs → W p l e R s m args below meth c H locs cells slots Q (F0 m (pc + 3) ls [])) : W p l e R s m args below meth c H locs cells slots Q (F0 m pc ls [.int n, .int dp, va_rf r2, .int sp, va_rf r]) := by
  obtain ⟨a, n0, f, b, n1, g, sp', dp', n', rfl, hsrc, rfl, hdst, h1, h2, h3, h4, h5, hfit, hP⟩ := hw
  obtain ⟨hA, c1, ht1, hc1⟩ := hW b _ hdst
  obtain ⟨a1, e1⟩ := tc_nn h1
  obtain ⟨a2, e2⟩ := tc_nn h2
  obtain ⟨a3, e3⟩ := tc_nn h3
  have hx := C.1.1
  have hb := C.1.2.1
  have hlm : c.maxLocals = ls.size := by rw [hl, C.1.2.2.1]
  have hown := C.1.2.2.2.1
  obtain ⟨scr, hc0, hs2, hs3, hs4, hs5⟩ : ∃ scr : Cell, H[a]? = some scr ∧ s.isArrayOf scr .byte ∧ scr.vm ≠ .unknown ∧ n0 ≤ scr.slots.size ∧ ∀ j, j < n0 → scr.slots[j]? = some (.int (f j)) := by
    rcases hsrc with hG | hK
    · obtain ⟨-, c0, ht0, hc0⟩ := hW a _ hG
      refine ⟨_, hc0, ht0.1 n0 (fun j => .int (f j)), (fun h => by cases h), ?_, fun j hj => ?_⟩
      · show n0 ≤ (arrV c0 n0 (fun j => .int (f j))).slots.size
        rw [arrV_size]
        exact Nat.le_refl _
      · show (arrV c0 n0 (fun j => .int (f j))).slots[j]? = _
        rw [arrV_read _ _ hj]
    · obtain ⟨cell, g1, g2, g3, g4, -, g6, g7⟩ := (C.2.2.2.1.2.2.2.2.2.2.1 a n0 f hK).1
      exact ⟨cell, by rw [hS.2.1 a (Array.getElem?_eq_some_iff.mp g1).1 g7]; exact g1, g2, g3, g4, g6⟩
  obtain ⟨hs6, k0, hk0, cm0, hkk0⟩ := hs2
  obtain ⟨-, k1, hk1, cm1, hkk1⟩ := ht1.1 n1 (fun j => .int (g j))
  intro T hT X
  obtain ⟨vm', X', step⟩ := X.arraycopy hx hown (C.1.2.2.2.2 _ hlink) (C.1.2.2.2.2 _ hnat) (C.1.2.2.2.2 _ hstat) (C.1.2.2.2.2 _ hini) (src := a) (dst := b) (cs := scr) (cd := vp_cell c1 (n1, .inl g)) (srcPos := sp) (destPos := dp) (n := n) (by rw [hT]; exact hc0) (by rw [hT]; exact hc1)
    hs6 (fun _ h => by cases h) hs3 (fun h => by cases h) hk0 hk1 hkk0 hkk1 (by simp [refKind]) a1 a2 a3
    (by rw [h1, h3]; omega)
    (by rw [h2, h3]; show ¬ _ > ((arrV c1 n1 (fun j => .int (g j))).slots.size : Int); rw [arrV_size]; omega)
    (fun vm₁ _ i hi => by
      have e : scr.slots.getD (sp.toNatClampNeg + i) .null = .int (f (sp' + i)) := by
        rw [e1, Array.getD_eq_getD_getElem?, hs5 _ (by omega)]
        rfl
      refine ⟨?_, ?_⟩
      · rw [e]
        exact hfit i (by omega)
      · rw [e]
        exact trivial)
    (g := F0 m pc ls [.int n, .int dp, .ref b, .int sp, .ref a]) rfl (by rw [hlm]) (rest := []) rfl (by rw [hb]; exact hdg) hframes (by show 2 * 0 + 0 + _ ≤ _; omega)
  have e4 : copied scr (vp_cell c1 (n1, .inl g)) sp dp n = vp_cell c1 (n1, .inl (va_cpy f g sp' dp' n')) := by
    rw [← e1, ← e2, ← e3]
    exact va_copiedX (fun z => .int z) scr c1 f g hs5 (by omega)
  rw [e4] at X' step
  have hlb : b < H.size := (Array.getElem?_eq_some_iff.mp hc1).1
  have hheap : ((T.setVm vm').setCell b (vp_cell c1 (n1, .inl (va_cpy f g sp' dp' n')))).heap = H.setIfInBounds b (vp_cell c1 (n1, .inl (va_cpy f g sp' dp' n'))) := by rw [← hT]; rfl
  have oq : ∀ q : Nat, q ≠ b → (H.setIfInBounds b (vp_cell c1 (n1, .inl (va_cpy f g sp' dp' n'))))[q]? = H[q]? := fun q hq => by simp [Array.getElem?_setIfInBounds, Ne.symm hq]
  obtain ⟨t, b1, b2⟩ := kk _ (H.setIfInBounds b (vp_cell c1 (n1, .inl (va_cpy f g sp' dp' n')))) _ hP (hW.put hA ⟨c1, ht1, by simp [Array.getElem?_setIfInBounds, hlb]⟩ oq) ⟨by simp; exact hS.1, fun q g1 g2 => by
      rw [oq q (fun e => g2 (by rw [e]; exact hA))]
      exact hS.2.1 q g1 g2, fun q hq => by
      rcases List.mem_append.mp hq with h | h
      · exact hS.2.2 q h
      · obtain ⟨z, -, hz⟩ := List.mem_map.mp h
        rw [← hz]
        exact hA⟩ _ hheap X'
  exact ⟨t, step t b1, b2⟩
theorem tr_objInit (C : tc_B p l s m args meth c D K A Ts own cc nL) (hl : ls.size = nL) {idx : Nat} (hlink : Cond.methodLink own idx objectInit ∈ Ts) (hinst : Cond.instanceMethod objectInit ∈ Ts) (hcode : Cond.code objectInit ⟨#[0xb1]⟩ 1 none ∈ Ts) {r : Option Nat} (hr : ∃ a : Nat, r = some a) (hdg : decode cc pc = .ok (.invokespecial idx, 3)) (hframes : 1 ≤ R.frames) (hlocals : 12 ≤ R.locals)
    (kk : W p l e R s m args below meth c H locs cells slots Q (F0 m (pc + 3) ls [])) : W p l e R s m args below meth c H locs cells slots Q (F0 m pc ls [va_rf r]) := by
  obtain ⟨a, rfl⟩ := hr
  exact W.objInit C.1.1 C.1.2.1 C.1.2.2.2.1 (C.1.2.2.2.2 _ hlink) (C.1.2.2.2.2 _ hinst) (C.1.2.2.2.2 _ hcode) rfl (by rw [C.1.2.2.1]; exact hl) rfl hdg hframes hlocals (W.eq (g2 := F0 m (pc + 3) ls []) rfl kk)
/-! the law's own calls, and its wrappers' -/
theorem tx_runSX {hh : List (Nat × Nat × Nat × Nat)} (C : tc_B p l s m args meth c D K A Ts own cc nL) (hl : ls.size = nL) (hct : Cx l y ws rm mc ms As K pr px wp) (cw : vx_CSW R s args own index y bytes maxL ret hh ws rm mc ms n) (hn : As.length = n) (hdg : decode cc pc = .ok (.invokestatic index, 3)) (hf : cells + mc ≤ R.cells ∧ slots + ms ≤ R.slots) (vs : List tV) (hrest : rest = vs.map tv_v) (h8 : (vs.map fun v => if tv_2 v then 2 else 1).sum ≤ 8) (hst : st0 = As.reverse ++ rest) (hW : tg_W D A s H G) (hS : va_S A s.heap H locs) (hw : wp G) :
    vx_Run p l e R s m args below meth c H locs cells slots mc ms (F0 m pc ls st0) rest (tc_Qc D A pr As.toArray) (tc_XC D A px) A := by
  subst hst
  exact vx_runSX (As := As) (rest := rest) C.1 (hct D A H.size G hw) cw ⟨tc_blind _ _ _ _ _ _, tc_pre C hW hS _⟩ rfl hn hl rfl (tc_room (pc := pc) (m := m) (ls := ls) hrest h8) hdg hf
theorem tr_runIN {host : String} {r : Option Nat} (C : tc_B p l s m args meth c D K A Ts own cc nL) (hl : ls.size = nL) (hct : Ct l y ws rm mc ms (va_rf r :: As) K pr wp) (cw : va_CN R s args own index y host bytes maxL none ws rm mc ms n ∧ y.name = "<init>" ∧ (Cond.instanceMethod y).before args s = true) (hn : As.length = n) (hdg : decode cc pc = .ok (.invokespecial index, 3)) (hf : cells + mc ≤ R.cells ∧ slots + ms ≤ R.slots) (vs : List tV) (hrest : rest = vs.map tv_v) (h8 : (vs.map fun v => if tv_2 v then 2 else 1).sum ≤ 8) (hst : st0 = As.reverse ++ va_rf r :: rest) (hW : tg_W D A s H G) (hS : va_S A s.heap H locs) (hw : (∃ a : Nat, r = some a) ∧ wp G) :
    va_Run p l e R s m args below meth c H locs cells slots mc ms (F0 m pc ls st0) rest (tc_Qc D A pr (va_rf r :: As).toArray) A := by
  obtain ⟨⟨a, rfl⟩, hw⟩ := hw
  subst hst
  exact va_runIN (As := As) (b := a) (rest := rest) C.1 (hct D A H.size G hw) cw ⟨tc_blind _ _ _ _ _ _, tc_pre C hW hS _⟩ rfl hn hl rfl (tc_room (pc := pc) (m := m) (ls := ls) hrest h8) hdg hf
theorem tx_backCI {a : Array Value} {post : Int32 → tG → Prop} (hr : vx_Run p l e R s m args below meth c H locs cells slots mc ms (F0 m pc ls st0) rest (tc_Qc D A (retI post) a) (tc_XC D A px) A) (hS : va_S A s.heap H locs)
    (kx : ∀ (E : String) (ce : Cell) (q9 : Addr) (G : tG) (H : Heap) (locs : List Loc), px E G → tg_W D A s H G → va_S A s.heap H locs → H[q9]? = some ce → ce.vm = .none → s.vm.findClass E = some ce.cls → vx_W p l e R s m args below meth c H locs (cells + mc) (slots + ms) Q (F0 m pc ls rest) q9)
    (kk : ∀ (x : Int32) (G : tG) (H : Heap) (locs : List Loc), post x G → tg_W D A s H G → va_S A s.heap H locs → W p l e R s m args below meth c H locs (cells + mc) (slots + ms) Q (F0 m (pc + 3) ls (.int x :: rest))) : W p l e R s m args below meth c H locs cells slots Q (F0 m pc ls st0) :=
  tx_back hr hS kx (fun v G H1 locs1 hp => by obtain ⟨x, rfl, hp⟩ := hp; exact kk x G H1 locs1 hp)
theorem tx_backCR {a : Array Value} {post : Option Nat → tG → Prop} (hr : vx_Run p l e R s m args below meth c H locs cells slots mc ms (F0 m pc ls st0) rest (tc_Qc D A (retR post) a) (tc_XC D A px) A) (hS : va_S A s.heap H locs)
    (kx : ∀ (E : String) (ce : Cell) (q9 : Addr) (G : tG) (H : Heap) (locs : List Loc), px E G → tg_W D A s H G → va_S A s.heap H locs → H[q9]? = some ce → ce.vm = .none → s.vm.findClass E = some ce.cls → vx_W p l e R s m args below meth c H locs (cells + mc) (slots + ms) Q (F0 m pc ls rest) q9)
    (kk : ∀ (x : Option Nat) (G : tG) (H : Heap) (locs : List Loc), post x G → tg_W D A s H G → va_S A s.heap H locs → W p l e R s m args below meth c H locs (cells + mc) (slots + ms) Q (F0 m (pc + 3) ls (va_rf x :: rest))) : W p l e R s m args below meth c H locs cells slots Q (F0 m pc ls st0) :=
  tx_back hr hS kx (fun v G H1 locs1 hp => by obtain ⟨x, rfl, hp⟩ := hp; exact kk x G H1 locs1 hp)
/-- a call of what may throw by its kind, but throws nothing here -/
theorem tx_backNI {a : Array Value} {post : Int32 → tG → Prop} (hr : vx_Run p l e R s m args below meth c H locs cells slots mc ms (F0 m pc ls st0) rest (tc_Qc D A (retI post) a) (tc_XC D A (fun _ _ => False)) A) (hS : va_S A s.heap H locs)
    (kk : ∀ (x : Int32) (G : tG) (H : Heap) (locs : List Loc), post x G → tg_W D A s H G → va_S A s.heap H locs → W p l e R s m args below meth c H locs (cells + mc) (slots + ms) Q (F0 m (pc + 3) ls (.int x :: rest))) : W p l e R s m args below meth c H locs cells slots Q (F0 m pc ls st0) :=
  tx_backCI hr hS (fun _ _ _ _ _ _ h => h.elim) kk
theorem tx_backNL {a : Array Value} {post : Int64 → tG → Prop} (hr : vx_Run p l e R s m args below meth c H locs cells slots mc ms (F0 m pc ls st0) rest (tc_Qc D A (retL post) a) (tc_XC D A (fun _ _ => False)) A) (hS : va_S A s.heap H locs)
    (kk : ∀ (x : Int64) (G : tG) (H : Heap) (locs : List Loc), post x G → tg_W D A s H G → va_S A s.heap H locs → W p l e R s m args below meth c H locs (cells + mc) (slots + ms) Q (F0 m (pc + 3) ls (.long x :: rest))) : W p l e R s m args below meth c H locs cells slots Q (F0 m pc ls st0) :=
  tx_back hr hS (fun _ _ _ _ _ _ h => h.elim) (fun v G H1 locs1 hp => by obtain ⟨x, rfl, hp⟩ := hp; exact kk x G H1 locs1 hp)
theorem tr_pfN (C : tc_B p l s m args meth c D K A Ts own cc nL) {ref C0 host : String} {T : u_T} {N ci index : Nat} (hin : ∀ w ∈ u_ws C0 T N, w ∈ Ts) (ty0 : Nat → FieldType) (hty : ∀ k, k < N → parseFieldDescriptor (T k).2.2.1 = some (ty0 k)) (hnm : ∀ a, a < N → ∀ b, b < N → a ≠ b → (T a).2.1 ≠ (T b).2.1) (hc : vwCl[ci]? = some (C0, T, N)) {k : Nat} (hk : k < N) (hlink : va_Nw (.fieldLinkNest own index ref (T k).2.1 (T k).2.2.1 host) s) (href : (T k).1 = ref) (hfin : (T k).2.2.2 = false) {ty : FieldType} {v : Value} (hd : parseFieldDescriptor (T k).2.2.1 = some ty) (hn : narrow ty v = v) (hfit : fits ty v = true) (hdg : decode cc pc = .ok (.putfield index, 3)) (hW : tg_W D A s H G) (hS : va_S A s.heap H locs)
    {r : Option Nat} {P : tG → Prop} (hw : pfV G r ci k v P) (kk : ∀ (G : tG) (H : Heap) (locs : List Loc), P G → tg_W D A s H G → va_S A s.heap H locs → W p l e R s m args below meth c H locs cells slots Q (F0 m (pc + 3) ls rest)) : W p l e R s m args below meth c H locs cells slots Q (F0 m pc ls (v :: va_rf r :: rest)) := by
  obtain ⟨a, fs, rfl, hG, hl, hP⟩ := hw
  obtain ⟨hA, ha⟩ := hW a _ hG
  have hap := va_apart (own := own) C.1.2.2.2.2 hin ty0 hty hnm C.2.2.1 hc
  obtain ⟨r, h1, cell, q1, q2, q3, q4⟩ := ha
  have hr : r = (C0, T, N) := Option.some.inj (h1.symm.trans hc)
  subst hr
  obtain ⟨hS2, hfc, kC, hkC, hkind⟩ := C.2.2.1.1 ci _ hc
  obtain ⟨cf, kf, fi, f, hi, hsl⟩ := hS2 k hk
  have hlay := C.1.2.2.2.2 _ (hin _ (u_in_lay hk))
  unfold u_lay at hlay
  rw [if_neg (by rw [hfin]; decide)] at hlay
  have hst := (u_facts hfc hkC (u_lays C.1.2.2.2.2 hin hk) hi).1
  have h6 := u_store hfc hkC hkind hlay hi hd hn hfit
  have hi2 : s.fieldFound? ref (T k).2.1 (T k).2.2.1 = some (cf, kf, fi, f) := by rw [← href]; exact hi
  refine va_WputK C.1.1 C.1.2.1 (f := f) C.1.2.2.2.1 (va_Nw.use rfl hlink) hi2 hst (by rw [q2]; exact h6) q1 q3 (by rw [hsl]; exact k2_hasslot (q4 k hk)) rfl rfl hdg fun H' e1 e2 e3 => ?_
  rw [hsl] at e1 ⊢
  exact kk _ H' _ hP (hW.put hA ⟨_, hc, t_OB.to (V := updV (vp_V fs) k v) ⟨_, e1, q2, q3, t_set q4 hap hk v⟩ (fun j _ => vp_updV_set hl v j)⟩ e3) (hS.put e2 e3 hA)
theorem tr_sld {b xL : Nat} {xs : Nat → Int32} (C : tc_B p l s m args meth c D K A Ts own cc nL) (hX : va_X b xL xs s s.heap) (hbl : b < s.heap.size) (hbA : ¬ A b) (hS : va_S A s.heap H locs) (hdg : decode cc pc = .ok (.iaload, 1)) {i : Int32} {P : Int32 → Prop} (hw : sld xL xs i P) (kk : ∀ x : Int32, P x → W p l e R s m args below meth c H locs cells slots Q (F0 m (pc + 1) ls (.int x :: rest))) : W p l e R s m args below meth c H locs cells slots Q (F0 m pc ls (.int i :: va_rf (some b) :: rest)) := by
  obtain ⟨j, hi, hj, hP⟩ := hw
  obtain ⟨hin, he⟩ := ti_in hi hj
  exact va_sld C.1.1 C.1.2.1 hX hbl hbA hS hin hdg (kk _ (by rw [he]; exact hP))
theorem tr_slen {b xL : Nat} {xs : Nat → Int32} (C : tc_B p l s m args meth c D K A Ts own cc nL) (hX : va_X b xL xs s s.heap) (hbl : b < s.heap.size) (hbA : ¬ A b) (hS : va_S A s.heap H locs) (hdg : decode cc pc = .ok (.arraylength, 1)) (kk : W p l e R s m args below meth c H locs cells slots Q (F0 m (pc + 1) ls (.int (Int32.ofNat xL) :: rest))) : W p l e R s m args below meth c H locs cells slots Q (F0 m pc ls (va_rf (some b) :: rest)) :=
  va_slen C.1.1 C.1.2.1 hX hbl hbA hS hdg kk
theorem kx_pass1 (C : tc_B p l s m args meth c D K A Ts own cc nL) (hcC : kx_C s) {x : ExceptionTableEntry} {i : Nat} (hx : x.catchType = i) (h0 : i ≠ 0) (hm : Cond.classLink own i "java/lang/IndexOutOfBoundsException" ∈ Ts) : ∀ z ∈ [x], covers z pc = false ∨ (z.catchType ≠ 0 ∧ ∃ nm : String, (Cond.classLink own z.catchType nm).before args s = true ∧ va_Nc "java/lang/IllegalArgumentException" nm s) := by
  intro z hz
  rw [List.mem_singleton.mp hz, hx]
  exact Or.inr ⟨h0, _, C.1.2.2.2.2 _ hm, hcC.2.2.2.2.1⟩
/-! a method's body gives its contract -/
end TCA
theorem tv_nrO (n : String) (r : Option Nat) : narrow (.object n) (va_rf r) = va_rf r := by cases r <;> rfl
theorem tv_frO (n : String) (r : Option Nat) : fits (.object n) (va_rf r) = true := by cases r <;> rfl
theorem tv_nrA (t : FieldType) (r : Option Nat) : narrow (.array t) (va_rf r) = va_rf r := by cases r <;> rfl
theorem tv_frA (t : FieldType) (r : Option Nat) : fits (.array t) (va_rf r) = true := by cases r <;> rfl
theorem df_J0 : ∀ j, j < 4 → defaultValue (tyJ0 j) = vp_V [.null, .int 0, .int 0, .int 0] j := fun j hj => by rcases (show j = 0 ∨ j = 1 ∨ j = 2 ∨ j = 3 by omega) with rfl | rfl | rfl | rfl <;> rfl
theorem df_J4 : ∀ j, j < 4 → defaultValue (tyJ4 j) = vp_V [.null, .int 0, .int 0, .int 0] j := fun j hj => by rcases (show j = 0 ∨ j = 1 ∨ j = 2 ∨ j = 3 by omega) with rfl | rfl | rfl | rfl <;> rfl
theorem df_X0 : ∀ j, j < 4 → defaultValue (tyX0 j) = vp_V [.int 0, .null, .int 0, .int 0] j := fun j hj => by rcases (show j = 0 ∨ j = 1 ∨ j = 2 ∨ j = 3 by omega) with rfl | rfl | rfl | rfl <;> rfl
theorem df_X1 : ∀ j, j < 4 → defaultValue (tyX1 j) = vp_V [.null, .null, .int 0, .int 0] j := fun j hj => by rcases (show j = 0 ∨ j = 1 ∨ j = 2 ∨ j = 3 by omega) with rfl | rfl | rfl | rfl <;> rfl
theorem df_X2 : ∀ j, j < 2 → defaultValue (tyX2 j) = vp_V [.long 0, .null] j := fun j hj => by rcases (show j = 0 ∨ j = 1 by omega) with rfl | rfl <;> rfl
theorem df_X3 : ∀ j, j < 8 → defaultValue (tyX3 j) = vp_V [.null, .null, .null, .null, .int 0, .int 0, .int 0, .long 0] j := fun j hj => by rcases (show j = 0 ∨ j = 1 ∨ j = 2 ∨ j = 3 ∨ j = 4 ∨ j = 5 ∨ j = 6 ∨ j = 7 by omega) with rfl | rfl | rfl | rfl | rfl | rfl | rfl | rfl <;> rfl
/-- a wrapper's body: it has handlers, and throws nothing -/
theorem tx_ofH {l : Launch} {K : tK} {y : MethodName} {ws ws' : List Cond} {rm : Room} {mc ms : Nat} {av : List Value} {pr : Option Value → tG → Prop} {px : String → tG → Prop} {wp : tG → Prop} {cc : ByteArray} {maxL : Nat} {ret : Option FieldType} {own : String} {hh : List (Nat × Nat × Nat × Nat)} (hy : plainName y.cls = true) (hw : ws = Cond.codeWith y cc maxL ret hh :: ws') (hown : y.cls = own) (hll : l.stackTraces = false) (avs : List tV) (hvs : av = avs.map tv_v) (hav : (avs.map fun v => if tv_2 v then 2 else 1).sum ≤ maxL)
    (body : ∀ (p : Program) (e : Env) (s : State) (m : MethodId) (args : Array Value) (below : List Frame) (meth : Method) (c : Code) (D : va_G) (A : Nat → Prop) (G : tG) (ls : Array Slot), tc_B p l s m args meth c D K A ws own cc maxL → meth.sig.returnType = ret → c.exceptionTable.toList = tableOf hh → kx_C s → tl ls maxL (tl_args 0 avs) → tg_W D A s s.heap G → va_S A s.heap s.heap [] → wp G → W p l e rm s m args below meth c s.heap [] 0 0 (vx_MQ below (tc_Qc D A pr) (tc_XC D A px) args s mc ms A) (F0 m 0 ls [])) : Cx l y ws rm mc ms av K pr px wp := by
  intro D A sz G hwp
  refine vx_ofWH (cc := cc) (maxL := maxL) (ret := ret) hy hw ?_
  intro p e s m args below meth c s₁ B hml hv
  obtain ⟨rfl, hsz, hW, hK, hC, hA⟩ := hv
  subst hsz
  have hts := atoms_spec (ws := ws) B.pre
  have htab := vx_table (x := y) B (hts _ (by rw [hw]; exact List.mem_cons_self))
  have hl := lv_entry av (n := maxL) (by rw [hvs, tl_len]; exact hav)
  rw [lg_entry_eq]
  have hl2 : tl ((lg_sl av ++ List.replicate (maxL - (lg_sl av).length) Slot.unset).toArray) maxL (tl_args 0 avs) := by
    have h9 := hl
    rw [hvs, tl_args_eq] at h9
    rw [hvs]
    exact h9
  exact body p e s m _ below meth c D A G _ ⟨⟨B.exec, B.bytes, hml, by rw [← hown]; exact findClass_of_methodNamed B.named, hts⟩, B.notSynchronized, hK, hC, hA, hll⟩ B.returns htab hC.2.2.2.2.2.2.2.2.2.2 hl2 hW va_S.rf hwp
theorem tw_ofW {l : Launch} {y : MethodName} {ws ws' : List Cond} {rm : Room} {Pc : Array Value → State → Prop} {Qc : Array Value → State → Outcome → State → Prop} {mc ms : Nat} {free : Addr → Prop} {cc : ByteArray} {maxL : Nat} {ret : Option FieldType}
    (hy : plainFor y = true) (hw : ws = Cond.code y cc maxL ret :: ws')
    (body : ∀ p e s m args below meth c s₁, BodyLoose p l y (headSpec ws rm) cc maxL ret e s m args below meth c s₁ → c.maxLocals = maxL → Pc args s →
      W p l e (headSpec ws rm).room s m args below meth c s.heap [] 0 0 (MQ below Qc args s mc ms free) (entryFrame m args maxL)) : Met l y ws rm Pc Qc mc ms free := by
  refine MetFree.of_bodySF (code := cc) (maxLocals := maxL) (ret := ret) hy ?_ ?_
  · intro args s m h hn
    obtain ⟨meth, c, h1, h2, h3, h4, h5, h6, -, -⟩ := Cond.code_spec hn (atoms_spec (ws := ws) h _ (by rw [hw]; exact List.mem_cons_self))
    exact ⟨meth, c, h1, h2, h3, h4, h5, h6⟩
  · intro p e s m args below meth c s₁ B hml hP _
    have hh0 : s₁.heap = s.heap := by rw [B.state]; rfl
    obtain ⟨t, a1, o, b1, b2, b3⟩ := body p e s m args below meth c s₁ B hml hP s₁ hh0 (Stand.of_body B)
    exact ⟨t, o, a1, b1, b2, ⟨b3.1, b3.2⟩⟩
theorem tc_of {l : Launch} {K : tK} {y : MethodName} {ws ws' : List Cond} {rm : Room} {mc ms : Nat} {av : List Value} {pr : Option Value → tG → Prop} {wp : tG → Prop} {cc : ByteArray} {maxL : Nat} {ret : Option FieldType} {own : String} (hy : plainFor y = true) (hw : ws = Cond.code y cc maxL ret :: ws') (hown : y.cls = own) (hll : l.stackTraces = false) (avs : List tV) (hvs : av = avs.map tv_v) (hav : (avs.map fun v => if tv_2 v then 2 else 1).sum ≤ maxL)
    (body : ∀ (p : Program) (e : Env) (s : State) (m : MethodId) (args : Array Value) (below : List Frame) (meth : Method) (c : Code) (D : va_G) (A : Nat → Prop) (G : tG) (ls : Array Slot), tc_B p l s m args meth c D K A ws own cc maxL → meth.sig.returnType = ret → meth.name = y.name → (∀ x ∈ c.exceptionTable.toList, False) → tl ls maxL (tl_args 0 avs) → tg_W D A s s.heap G → va_S A s.heap s.heap [] → wp G → W p l e rm s m args below meth c s.heap [] 0 0 (MQ below (tc_Qc D A pr) args s mc ms A) (F0 m 0 ls [])) : Ct l y ws rm mc ms av K pr wp := by
  intro D A sz G hwp
  refine tw_ofW (cc := cc) (maxL := maxL) (ret := ret) hy hw ?_
  intro p e s m args below meth c s₁ B hml hv
  obtain ⟨rfl, hsz, hW, hK, hC, hA⟩ := hv
  subst hsz
  have hts := atoms_spec (ws := ws) B.pre
  have hname : meth.name = y.name := (name_of_methodNamed B.named B.method).1
  have ht : ∀ x ∈ c.exceptionTable.toList, False := by
    obtain ⟨meth9, c9, h1, h2, -, -, -, -, h7, -⟩ := Cond.code_spec B.named (hts _ (by rw [hw]; exact List.mem_cons_self))
    cases Option.some.inj (h1.symm.trans B.method)
    cases Option.some.inj (h2.symm.trans (Stand.of_body B).code)
    intro x hx
    rw [Array.isEmpty_iff.mp h7] at hx
    cases hx
  have hl := lv_entry av (n := maxL) (by rw [hvs, tl_len]; exact hav)
  rw [lg_entry_eq]
  have hl2 : tl ((lg_sl av ++ List.replicate (maxL - (lg_sl av).length) Slot.unset).toArray) maxL (tl_args 0 avs) := by
    have h9 := hl
    rw [hvs, tl_args_eq] at h9
    rw [hvs]
    exact h9
  exact body p e s m _ below meth c D A G _ ⟨⟨B.exec, B.bytes, hml, by rw [← hown]; exact findClass_of_methodNamed B.named, hts⟩, B.notSynchronized, hK, hC, hA, hll⟩ B.returns hname ht hl2 hW va_S.rf hwp
theorem tx_of {l : Launch} {K : tK} {y : MethodName} {ws ws' : List Cond} {rm : Room} {mc ms : Nat} {av : List Value} {pr : Option Value → tG → Prop} {px : String → tG → Prop} {wp : tG → Prop} {cc : ByteArray} {maxL : Nat} {ret : Option FieldType} {own : String} (hy : plainName y.cls = true) (hw : ws = Cond.code y cc maxL ret :: ws') (hown : y.cls = own) (hll : l.stackTraces = false) (avs : List tV) (hvs : av = avs.map tv_v) (hav : (avs.map fun v => if tv_2 v then 2 else 1).sum ≤ maxL)
    (body : ∀ (p : Program) (e : Env) (s : State) (m : MethodId) (args : Array Value) (below : List Frame) (meth : Method) (c : Code) (D : va_G) (A : Nat → Prop) (G : tG) (ls : Array Slot), tc_B p l s m args meth c D K A ws own cc maxL → meth.sig.returnType = ret → meth.name = y.name → (∀ x ∈ c.exceptionTable.toList, False) → tl ls maxL (tl_args 0 avs) → tg_W D A s s.heap G → va_S A s.heap s.heap [] → wp G → W p l e rm s m args below meth c s.heap [] 0 0 (vx_MQ below (tc_Qc D A pr) (tc_XC D A px) args s mc ms A) (F0 m 0 ls [])) : Cx l y ws rm mc ms av K pr px wp := by
  intro D A sz G hwp
  refine vx_ofW (cc := cc) (maxL := maxL) (ret := ret) hy hw ?_
  intro p e s m args below meth c s₁ B hml ht hv
  obtain ⟨rfl, hsz, hW, hK, hC, hA⟩ := hv
  subst hsz
  have hts := atoms_spec (ws := ws) B.pre
  have hname : meth.name = y.name := (name_of_methodNamed B.named B.method).1
  have hl := lv_entry av (n := maxL) (by rw [hvs, tl_len]; exact hav)
  rw [lg_entry_eq]
  have hl2 : tl ((lg_sl av ++ List.replicate (maxL - (lg_sl av).length) Slot.unset).toArray) maxL (tl_args 0 avs) := by
    have h9 := hl
    rw [hvs, tl_args_eq] at h9
    rw [hvs]
    exact h9
  exact body p e s m _ below meth c D A G _ ⟨⟨B.exec, B.bytes, hml, by rw [← hown]; exact findClass_of_methodNamed B.named, hts⟩, B.notSynchronized, hK, hC, hA, hll⟩ B.returns hname ht hl2 hW va_S.rf hwp
