section TCA
variable {p : Program} {l : Launch} {e : Env} {R : Room} {s : State} {m : MethodId} {args : Array Value} {below : List Frame} {meth : Method} {c : Code} {H : Heap} {locs : List Loc} {cells slots : Nat} {Q : State → Prop}
variable {D : va_G} {K : tK} {A : Nat → Prop} {Ts : List Cond} {own : String} {cc : ByteArray} {nL : Nat} {pc : Nat} {ls : Array Slot} {rest : List Value} {G : tG}
variable {y : MethodName} {ws : List Cond} {rm : Room} {mc ms n index maxL : Nat} {bytes : ByteArray} {ret : Option FieldType} {As : List Value} {pr : Option Value → tG → Prop} {px : String → tG → Prop} {wp : tG → Prop} {st0 : List Value}
theorem tr_copy (C : tc_B p l s m args meth c D K A Ts own cc nL) (hl : ls.size = nL) {index : Nat} (hlink : Cond.methodLink own index arraycopyName ∈ Ts) (hnat : Cond.native arraycopyName ∈ Ts) (hstat : Cond.static arraycopyName ∈ Ts) (hini : Cond.initialized "java/lang/System" ∈ Ts) (hframes : 1 ≤ R.frames) (hlocals : 0 + (nativeFrameWords "java/lang/System" "arraycopy" 5 + 11) ≤ R.locals) (hdg : decode cc pc = .ok (.invokestatic index, 3)) (hW : tg_W D A s H G) (hS : va_S A s.heap H locs) {r r2 : Option Nat} {sp dp n : Int32} {P : tG → Prop} (hw : cpB K G r sp r2 dp n P)
    (kk : ∀ (G : tG) (H : Heap) (locs : List Loc), P G → tg_W D A s H G → va_S A s.heap H locs → W p l e R s m args below meth c H locs cells slots Q (F0 m (pc + 3) ls [])) : W p l e R s m args below meth c H locs cells slots Q (F0 m pc ls [.int n, .int dp, va_rf r2, .int sp, va_rf r]) := by
  obtain ⟨a, n0, f, b, n1, g, sp', dp', n', rfl, hsrc, rfl, hdst, h1, h2, h3, h4, h5, hfit, hP⟩ := hw
  obtain ⟨hA, c1, ht1, hc1⟩ := hW b _ hdst
  obtain ⟨a1, e1⟩ := tc_nn h1
  obtain ⟨a2, e2⟩ := tc_nn h2
  obtain ⟨a3, e3⟩ := tc_nn h3
  have hx := C.1.1
  have hb := C.1.2.1
  have hlm : c.maxLocals = ls.size := by rw [hl, C.1.2.2.1]
  have hown := C.1.2.2.2.1
  obtain ⟨scr, hc0, hs2, hs3, hs4, hs5⟩ : ∃ scr : Cell, H[a]? = some scr ∧ s.isArrayOf scr .byte ∧ scr.vm ≠ .unknown ∧ n0 ≤ scr.slots.size ∧ ∀ j, j < n0 → scr.slots[j]? = some (.int (f j)) := by
    rcases hsrc with hG | hK
    · obtain ⟨-, c0, ht0, hc0⟩ := hW a _ hG
      refine ⟨_, hc0, ht0.1 n0 (fun j => .int (f j)), (fun h => by cases h), ?_, fun j hj => ?_⟩
      · show n0 ≤ (arrV c0 n0 (fun j => .int (f j))).slots.size
        rw [arrV_size]
        exact Nat.le_refl _
      · show (arrV c0 n0 (fun j => .int (f j))).slots[j]? = _
        rw [arrV_read _ _ hj]
    · obtain ⟨cell, g1, g2, g3, g4, -, g6, g7⟩ := (C.2.2.2.1.2.2.2.2.2.2.1 a n0 f hK).1
      exact ⟨cell, by rw [hS.2.1 a (Array.getElem?_eq_some_iff.mp g1).1 g7]; exact g1, g2, g3, g4, g6⟩
  obtain ⟨hs6, k0, hk0, cm0, hkk0⟩ := hs2
  obtain ⟨-, k1, hk1, cm1, hkk1⟩ := ht1.1 n1 (fun j => .int (g j))
  intro T hT X
  obtain ⟨vm', X', step⟩ := X.arraycopy hx hown (C.1.2.2.2.2 _ hlink) (C.1.2.2.2.2 _ hnat) (C.1.2.2.2.2 _ hstat) (C.1.2.2.2.2 _ hini) (src := a) (dst := b) (cs := scr) (cd := vp_cell c1 (n1, .inl g)) (srcPos := sp) (destPos := dp) (n := n) (by rw [hT]; exact hc0) (by rw [hT]; exact hc1)
    hs6 (fun _ h => by cases h) hs3 (fun h => by cases h) hk0 hk1 hkk0 hkk1 (by simp [refKind]) a1 a2 a3
    (by rw [h1, h3]; omega)
    (by rw [h2, h3]; show ¬ _ > ((arrV c1 n1 (fun j => .int (g j))).slots.size : Int); rw [arrV_size]; omega)
    (fun vm₁ _ i hi => by
      have e : scr.slots.getD (sp.toNatClampNeg + i) .null = .int (f (sp' + i)) := by
        rw [e1, Array.getD_eq_getD_getElem?, hs5 _ (by omega)]
        rfl
      refine ⟨?_, ?_⟩
      · rw [e]
        exact hfit i (by omega)
      · rw [e]
        exact trivial)
    (g := F0 m pc ls [.int n, .int dp, .ref b, .int sp, .ref a]) rfl (by rw [hlm]) (rest := []) rfl (by rw [hb]; exact hdg) hframes (by show 2 * 0 + 0 + _ ≤ _; omega)
  have e4 : copied scr (vp_cell c1 (n1, .inl g)) sp dp n = vp_cell c1 (n1, .inl (va_cpy f g sp' dp' n')) := by
    rw [← e1, ← e2, ← e3]
    exact va_copiedX (fun z => .int z) scr c1 f g hs5 (by omega)
  rw [e4] at X' step
  have hlb : b < H.size := (Array.getElem?_eq_some_iff.mp hc1).1
  have hheap : ((T.setVm vm').setCell b (vp_cell c1 (n1, .inl (va_cpy f g sp' dp' n')))).heap = H.setIfInBounds b (vp_cell c1 (n1, .inl (va_cpy f g sp' dp' n'))) := by rw [← hT]; rfl
  have oq : ∀ q : Nat, q ≠ b → (H.setIfInBounds b (vp_cell c1 (n1, .inl (va_cpy f g sp' dp' n'))))[q]? = H[q]? := fun q hq => by simp [Array.getElem?_setIfInBounds, Ne.symm hq]
  obtain ⟨t, b1, b2⟩ := kk _ (H.setIfInBounds b (vp_cell c1 (n1, .inl (va_cpy f g sp' dp' n')))) _ hP (hW.put hA ⟨c1, ht1, by simp [Array.getElem?_setIfInBounds, hlb]⟩ oq) ⟨by simp; exact hS.1, fun q g1 g2 => by
      rw [oq q (fun e => g2 (by rw [e]; exact hA))]
      exact hS.2.1 q g1 g2, fun q hq => by
      rcases List.mem_append.mp hq with h | h
      · exact hS.2.2 q h
      · obtain ⟨z, -, hz⟩ := List.mem_map.mp h
        rw [← hz]
        exact hA⟩ _ hheap X'
  exact ⟨t, step t b1, b2⟩
theorem tr_objInit (C : tc_B p l s m args meth c D K A Ts own cc nL) (hl : ls.size = nL) {idx : Nat} (hlink : Cond.methodLink own idx objectInit ∈ Ts) (hinst : Cond.instanceMethod objectInit ∈ Ts) (hcode : Cond.code objectInit ⟨#[0xb1]⟩ 1 none ∈ Ts) {r : Option Nat} (hr : ∃ a : Nat, r = some a) (hdg : decode cc pc = .ok (.invokespecial idx, 3)) (hframes : 1 ≤ R.frames) (hlocals : 12 ≤ R.locals)
    (kk : W p l e R s m args below meth c H locs cells slots Q (F0 m (pc + 3) ls [])) : W p l e R s m args below meth c H locs cells slots Q (F0 m pc ls [va_rf r]) := by
  obtain ⟨a, rfl⟩ := hr
  exact W.objInit C.1.1 C.1.2.1 C.1.2.2.2.1 (C.1.2.2.2.2 _ hlink) (C.1.2.2.2.2 _ hinst) (C.1.2.2.2.2 _ hcode) rfl (by rw [C.1.2.2.1]; exact hl) rfl hdg hframes hlocals (W.eq (g2 := F0 m (pc + 3) ls []) rfl kk)
/-! the law's own calls, and its wrappers' -/
theorem tx_runSX {hh : List (Nat × Nat × Nat × Nat)} (C : tc_B p l s m args meth c D K A Ts own cc nL) (hl : ls.size = nL) (hct : Cx l y ws rm mc ms As K pr px wp) (cw : vx_CSW R s args own index y bytes maxL ret hh ws rm mc ms n) (hn : As.length = n) (hdg : decode cc pc = .ok (.invokestatic index, 3)) (hf : cells + mc ≤ R.cells ∧ slots + ms ≤ R.slots) (vs : List tV) (hrest : rest = vs.map tv_v) (h8 : (vs.map fun v => if tv_2 v then 2 else 1).sum ≤ 8) (hst : st0 = As.reverse ++ rest) (hW : tg_W D A s H G) (hS : va_S A s.heap H locs) (hw : wp G) :
    vx_Run p l e R s m args below meth c H locs cells slots mc ms (F0 m pc ls st0) rest (tc_Qc D A pr As.toArray) (tc_XC D A px) A := by
  subst hst
  exact vx_runSX (As := As) (rest := rest) C.1 (hct D A H.size G hw) cw ⟨tc_blind _ _ _ _ _ _, tc_pre C hW hS _⟩ rfl hn hl rfl (tc_room (pc := pc) (m := m) (ls := ls) hrest h8) hdg hf
end TCA
