section TCA
variable {p : Program} {l : Launch} {e : Env} {R : Room} {s : State} {m : MethodId} {args : Array Value} {below : List Frame} {meth : Method} {c : Code} {H : Heap} {locs : List Loc} {cells slots : Nat} {Q : State → Prop}
variable {D : va_G} {K : tK} {A : Nat → Prop} {Ts : List Cond} {own : String} {cc : ByteArray} {nL : Nat} {pc : Nat} {ls : Array Slot} {rest : List Value} {G : tG}
variable {y : MethodName} {ws : List Cond} {rm : Room} {mc ms n index maxL : Nat} {bytes : ByteArray} {ret : Option FieldType} {As : List Value} {pr : Option Value → tG → Prop} {px : String → tG → Prop} {wp : tG → Prop} {st0 : List Value}
theorem tr_runIN {host : String} {r : Option Nat} (C : tc_B p l s m args meth c D K A Ts own cc nL) (hl : ls.size = nL) (hct : Ct l y ws rm mc ms (va_rf r :: As) K pr wp) (cw : va_CN R s args own index y host bytes maxL none ws rm mc ms n ∧ y.name = "<init>" ∧ (Cond.instanceMethod y).before args s = true) (hn : As.length = n) (hdg : decode cc pc = .ok (.invokespecial index, 3)) (hf : cells + mc ≤ R.cells ∧ slots + ms ≤ R.slots) (vs : List tV) (hrest : rest = vs.map tv_v) (h8 : (vs.map fun v => if tv_2 v then 2 else 1).sum ≤ 8) (hst : st0 = As.reverse ++ va_rf r :: rest) (hW : tg_W D A s H G) (hS : va_S A s.heap H locs) (hw : (∃ a : Nat, r = some a) ∧ wp G) :
    va_Run p l e R s m args below meth c H locs cells slots mc ms (F0 m pc ls st0) rest (tc_Qc D A pr (va_rf r :: As).toArray) A := by
  obtain ⟨⟨a, rfl⟩, hw⟩ := hw
  subst hst
  exact va_runIN (As := As) (b := a) (rest := rest) C.1 (hct D A H.size G hw) cw ⟨tc_blind _ _ _ _ _ _, tc_pre C hW hS _⟩ rfl hn hl rfl (tc_room (pc := pc) (m := m) (ls := ls) hrest h8) hdg hf
theorem tx_backCI {a : Array Value} {post : Int32 → tG → Prop} (hr : vx_Run p l e R s m args below meth c H locs cells slots mc ms (F0 m pc ls st0) rest (tc_Qc D A (retI post) a) (tc_XC D A px) A) (hS : va_S A s.heap H locs)
    (kx : ∀ (E : String) (ce : Cell) (q9 : Addr) (G : tG) (H : Heap) (locs : List Loc), px E G → tg_W D A s H G → va_S A s.heap H locs → H[q9]? = some ce → ce.vm = .none → s.vm.findClass E = some ce.cls → vx_W p l e R s m args below meth c H locs (cells + mc) (slots + ms) Q (F0 m pc ls rest) q9)
    (kk : ∀ (x : Int32) (G : tG) (H : Heap) (locs : List Loc), post x G → tg_W D A s H G → va_S A s.heap H locs → W p l e R s m args below meth c H locs (cells + mc) (slots + ms) Q (F0 m (pc + 3) ls (.int x :: rest))) : W p l e R s m args below meth c H locs cells slots Q (F0 m pc ls st0) :=
  tx_back hr hS kx (fun v G H1 locs1 hp => by obtain ⟨x, rfl, hp⟩ := hp; exact kk x G H1 locs1 hp)
theorem tx_backCR {a : Array Value} {post : Option Nat → tG → Prop} (hr : vx_Run p l e R s m args below meth c H locs cells slots mc ms (F0 m pc ls st0) rest (tc_Qc D A (retR post) a) (tc_XC D A px) A) (hS : va_S A s.heap H locs)
    (kx : ∀ (E : String) (ce : Cell) (q9 : Addr) (G : tG) (H : Heap) (locs : List Loc), px E G → tg_W D A s H G → va_S A s.heap H locs → H[q9]? = some ce → ce.vm = .none → s.vm.findClass E = some ce.cls → vx_W p l e R s m args below meth c H locs (cells + mc) (slots + ms) Q (F0 m pc ls rest) q9)
    (kk : ∀ (x : Option Nat) (G : tG) (H : Heap) (locs : List Loc), post x G → tg_W D A s H G → va_S A s.heap H locs → W p l e R s m args below meth c H locs (cells + mc) (slots + ms) Q (F0 m (pc + 3) ls (va_rf x :: rest))) : W p l e R s m args below meth c H locs cells slots Q (F0 m pc ls st0) :=
  tx_back hr hS kx (fun v G H1 locs1 hp => by obtain ⟨x, rfl, hp⟩ := hp; exact kk x G H1 locs1 hp)
/-- a call of what may throw by its kind, but throws nothing here -/
theorem tx_backNI {a : Array Value} {post : Int32 → tG → Prop} (hr : vx_Run p l e R s m args below meth c H locs cells slots mc ms (F0 m pc ls st0) rest (tc_Qc D A (retI post) a) (tc_XC D A (fun _ _ => False)) A) (hS : va_S A s.heap H locs)
    (kk : ∀ (x : Int32) (G : tG) (H : Heap) (locs : List Loc), post x G → tg_W D A s H G → va_S A s.heap H locs → W p l e R s m args below meth c H locs (cells + mc) (slots + ms) Q (F0 m (pc + 3) ls (.int x :: rest))) : W p l e R s m args below meth c H locs cells slots Q (F0 m pc ls st0) :=
  tx_backCI hr hS (fun _ _ _ _ _ _ h => h.elim) kk
theorem tx_backNL {a : Array Value} {post : Int64 → tG → Prop} (hr : vx_Run p l e R s m args below meth c H locs cells slots mc ms (F0 m pc ls st0) rest (tc_Qc D A (retL post) a) (tc_XC D A (fun _ _ => False)) A) (hS : va_S A s.heap H locs)
    (kk : ∀ (x : Int64) (G : tG) (H : Heap) (locs : List Loc), post x G → tg_W D A s H G → va_S A s.heap H locs → W p l e R s m args below meth c H locs (cells + mc) (slots + ms) Q (F0 m (pc + 3) ls (.long x :: rest))) : W p l e R s m args below meth c H locs cells slots Q (F0 m pc ls st0) :=
  tx_back hr hS (fun _ _ _ _ _ _ h => h.elim) (fun v G H1 locs1 hp => by obtain ⟨x, rfl, hp⟩ := hp; exact kk x G H1 locs1 hp)
theorem tr_pfN (C : tc_B p l s m args meth c D K A Ts own cc nL) {ref C0 host : String} {T : u_T} {N ci index : Nat} (hin : ∀ w ∈ u_ws C0 T N, w ∈ Ts) (ty0 : Nat → FieldType) (hty : ∀ k, k < N → parseFieldDescriptor (T k).2.2.1 = some (ty0 k)) (hnm : ∀ a, a < N → ∀ b, b < N → a ≠ b → (T a).2.1 ≠ (T b).2.1) (hc : vwCl[ci]? = some (C0, T, N)) {k : Nat} (hk : k < N) (hlink : va_Nw (.fieldLinkNest own index ref (T k).2.1 (T k).2.2.1 host) s) (href : (T k).1 = ref) (hfin : (T k).2.2.2 = false) {ty : FieldType} {v : Value} (hd : parseFieldDescriptor (T k).2.2.1 = some ty) (hn : narrow ty v = v) (hfit : fits ty v = true) (hdg : decode cc pc = .ok (.putfield index, 3)) (hW : tg_W D A s H G) (hS : va_S A s.heap H locs)
    {r : Option Nat} {P : tG → Prop} (hw : pfV G r ci k v P) (kk : ∀ (G : tG) (H : Heap) (locs : List Loc), P G → tg_W D A s H G → va_S A s.heap H locs → W p l e R s m args below meth c H locs cells slots Q (F0 m (pc + 3) ls rest)) : W p l e R s m args below meth c H locs cells slots Q (F0 m pc ls (v :: va_rf r :: rest)) := by
  obtain ⟨a, fs, rfl, hG, hl, hP⟩ := hw
  obtain ⟨hA, ha⟩ := hW a _ hG
  have hap := va_apart (own := own) C.1.2.2.2.2 hin ty0 hty hnm C.2.2.1 hc
  obtain ⟨r, h1, cell, q1, q2, q3, q4⟩ := ha
  have hr : r = (C0, T, N) := Option.some.inj (h1.symm.trans hc)
  subst hr
  obtain ⟨hS2, hfc, kC, hkC, hkind⟩ := C.2.2.1.1 ci _ hc
  obtain ⟨cf, kf, fi, f, hi, hsl⟩ := hS2 k hk
  have hlay := C.1.2.2.2.2 _ (hin _ (u_in_lay hk))
  unfold u_lay at hlay
  rw [if_neg (by rw [hfin]; decide)] at hlay
  have hst := (u_facts hfc hkC (u_lays C.1.2.2.2.2 hin hk) hi).1
  have h6 := u_store hfc hkC hkind hlay hi hd hn hfit
  have hi2 : s.fieldFound? ref (T k).2.1 (T k).2.2.1 = some (cf, kf, fi, f) := by rw [← href]; exact hi
  refine va_WputK C.1.1 C.1.2.1 (f := f) C.1.2.2.2.1 (va_Nw.use rfl hlink) hi2 hst (by rw [q2]; exact h6) q1 q3 (by rw [hsl]; exact k2_hasslot (q4 k hk)) rfl rfl hdg fun H' e1 e2 e3 => ?_
  rw [hsl] at e1 ⊢
  exact kk _ H' _ hP (hW.put hA ⟨_, hc, t_OB.to (V := updV (vp_V fs) k v) ⟨_, e1, q2, q3, t_set q4 hap hk v⟩ (fun j _ => vp_updV_set hl v j)⟩ e3) (hS.put e2 e3 hA)
theorem tr_sld {b xL : Nat} {xs : Nat → Int32} (C : tc_B p l s m args meth c D K A Ts own cc nL) (hX : va_X b xL xs s s.heap) (hbl : b < s.heap.size) (hbA : ¬ A b) (hS : va_S A s.heap H locs) (hdg : decode cc pc = .ok (.iaload, 1)) {i : Int32} {P : Int32 → Prop} (hw : sld xL xs i P) (kk : ∀ x : Int32, P x → W p l e R s m args below meth c H locs cells slots Q (F0 m (pc + 1) ls (.int x :: rest))) : W p l e R s m args below meth c H locs cells slots Q (F0 m pc ls (.int i :: va_rf (some b) :: rest)) := by
  obtain ⟨j, hi, hj, hP⟩ := hw
  obtain ⟨hin, he⟩ := ti_in hi hj
  exact va_sld C.1.1 C.1.2.1 hX hbl hbA hS hin hdg (kk _ (by rw [he]; exact hP))
theorem tr_slen {b xL : Nat} {xs : Nat → Int32} (C : tc_B p l s m args meth c D K A Ts own cc nL) (hX : va_X b xL xs s s.heap) (hbl : b < s.heap.size) (hbA : ¬ A b) (hS : va_S A s.heap H locs) (hdg : decode cc pc = .ok (.arraylength, 1)) (kk : W p l e R s m args below meth c H locs cells slots Q (F0 m (pc + 1) ls (.int (Int32.ofNat xL) :: rest))) : W p l e R s m args below meth c H locs cells slots Q (F0 m pc ls (va_rf (some b) :: rest)) :=
  va_slen C.1.1 C.1.2.1 hX hbl hbA hS hdg kk
theorem kx_pass1 (C : tc_B p l s m args meth c D K A Ts own cc nL) (hcC : kx_C s) {x : ExceptionTableEntry} {i : Nat} (hx : x.catchType = i) (h0 : i ≠ 0) (hm : Cond.classLink own i "java/lang/IndexOutOfBoundsException" ∈ Ts) : ∀ z ∈ [x], covers z pc = false ∨ (z.catchType ≠ 0 ∧ ∃ nm : String, (Cond.classLink own z.catchType nm).before args s = true ∧ va_Nc "java/lang/IllegalArgumentException" nm s) := by
  intro z hz
  rw [List.mem_singleton.mp hz, hx]
  exact Or.inr ⟨h0, _, C.1.2.2.2.2 _ hm, hcC.2.2.2.2.1⟩
/-! a method's body gives its contract -/
end TCA
