section
-- ===== PART A: goes FIRST, ahead of the names: the tables' words, and 'selects' of the private methods out of them =====
/-- a private method of a class that the tables say can be made, by its rows of tables_1 -/
def lw_okq (q : MethodName × Nat) : Prop := (q.1.cls ≠ "java/lang/invoke/MethodHandle" ∧ q.1.cls ≠ "java/lang/invoke/VarHandle") ∧ Cond.instantiable q.1.cls q.2 ∈ tables_1 ∧ Cond.privateMethod q.1 ∈ tables_1 ∧ Cond.instanceMethod q.1 ∈ tables_1
theorem lw_p0 : lw_okq (⟨"Twinrow", "listOrNull", "(I)LTwinrow$RowList;"⟩, 4) := ⟨⟨by decide +kernel, by decide +kernel⟩, List.mem_of_getElem? (i := 22) (by decide +kernel), List.mem_of_getElem? (i := 76) (by decide +kernel), List.mem_of_getElem? (i := 77) (by decide +kernel)⟩
theorem lw_p1 : lw_okq (⟨"Twinrow", "isSoundList", "(LTwinrow$RowList;)Z"⟩, 4) := ⟨⟨by decide +kernel, by decide +kernel⟩, List.mem_of_getElem? (i := 22) (by decide +kernel), List.mem_of_getElem? (i := 80) (by decide +kernel), List.mem_of_getElem? (i := 81) (by decide +kernel)⟩
theorem lw_p2 : lw_okq (⟨"Twinrow", "isEqualToOwn", "(LTwinrow$RowList;)Z"⟩, 4) := ⟨⟨by decide +kernel, by decide +kernel⟩, List.mem_of_getElem? (i := 22) (by decide +kernel), List.mem_of_getElem? (i := 97) (by decide +kernel), List.mem_of_getElem? (i := 98) (by decide +kernel)⟩
theorem lw_p3 : lw_okq (⟨"java/lang/Throwable", "fillInStackTrace", "(I)Ljava/lang/Throwable;"⟩, 6) := ⟨⟨by decide +kernel, by decide +kernel⟩, List.mem_of_getElem? (i := 180) (by decide +kernel), List.mem_of_getElem? (i := 178) (by decide +kernel), List.mem_of_getElem? (i := 179) (by decide +kernel)⟩
theorem lw_p4 : lw_okq (⟨"Twinrow", "partsThere", "()I"⟩, 4) := ⟨⟨by decide +kernel, by decide +kernel⟩, List.mem_of_getElem? (i := 22) (by decide +kernel), List.mem_of_getElem? (i := 210) (by decide +kernel), List.mem_of_getElem? (i := 211) (by decide +kernel)⟩
theorem lw_p5 : lw_okq (⟨"Twinrow", "placesOfRows", "()I"⟩, 4) := ⟨⟨by decide +kernel, by decide +kernel⟩, List.mem_of_getElem? (i := 22) (by decide +kernel), List.mem_of_getElem? (i := 214) (by decide +kernel), List.mem_of_getElem? (i := 215) (by decide +kernel)⟩
theorem lw_p6 : lw_okq (⟨"Twinrow", "twinAt", "(I)LTwinrow$RowList;"⟩, 4) := ⟨⟨by decide +kernel, by decide +kernel⟩, List.mem_of_getElem? (i := 22) (by decide +kernel), List.mem_of_getElem? (i := 218) (by decide +kernel), List.mem_of_getElem? (i := 219) (by decide +kernel)⟩
theorem lw_p7 : lw_okq (⟨"Twinrow", "mixedWithRow", "(JI)J"⟩, 4) := ⟨⟨by decide +kernel, by decide +kernel⟩, List.mem_of_getElem? (i := 22) (by decide +kernel), List.mem_of_getElem? (i := 242) (by decide +kernel), List.mem_of_getElem? (i := 243) (by decide +kernel)⟩
theorem lw_p8 : lw_okq (⟨"Twinrow", "mixedWithList", "(JI)J"⟩, 4) := ⟨⟨by decide +kernel, by decide +kernel⟩, List.mem_of_getElem? (i := 22) (by decide +kernel), List.mem_of_getElem? (i := 246) (by decide +kernel), List.mem_of_getElem? (i := 247) (by decide +kernel)⟩
theorem lw_p9 : lw_okq (⟨"Twinrow", "listAt", "(I)LTwinrow$RowList;"⟩, 4) := ⟨⟨by decide +kernel, by decide +kernel⟩, List.mem_of_getElem? (i := 22) (by decide +kernel), List.mem_of_getElem? (i := 262) (by decide +kernel), List.mem_of_getElem? (i := 263) (by decide +kernel)⟩
theorem lw_p10 : lw_okq (⟨"Twinrow", "dropPartsOf", "(I)I"⟩, 4) := ⟨⟨by decide +kernel, by decide +kernel⟩, List.mem_of_getElem? (i := 22) (by decide +kernel), List.mem_of_getElem? (i := 301) (by decide +kernel), List.mem_of_getElem? (i := 302) (by decide +kernel)⟩
theorem lw_p11 : lw_okq (⟨"Twinrow", "refuseIf", "(Z)I"⟩, 4) := ⟨⟨by decide +kernel, by decide +kernel⟩, List.mem_of_getElem? (i := 22) (by decide +kernel), List.mem_of_getElem? (i := 827) (by decide +kernel), List.mem_of_getElem? (i := 828) (by decide +kernel)⟩
theorem lw_p12 : lw_okq (⟨"TwinrowModel", "fails", "(ZZ)Z"⟩, 8) := ⟨⟨by decide +kernel, by decide +kernel⟩, List.mem_of_getElem? (i := 912) (by decide +kernel), List.mem_of_getElem? (i := 952) (by decide +kernel), List.mem_of_getElem? (i := 953) (by decide +kernel)⟩
theorem lw_p13 : lw_okq (⟨"TwinrowModel", "isNoRowPlace", "(II)Z"⟩, 8) := ⟨⟨by decide +kernel, by decide +kernel⟩, List.mem_of_getElem? (i := 912) (by decide +kernel), List.mem_of_getElem? (i := 960) (by decide +kernel), List.mem_of_getElem? (i := 961) (by decide +kernel)⟩
theorem lw_p14 : lw_okq (⟨"TwinrowModel", "isNoList", "(I)Z"⟩, 8) := ⟨⟨by decide +kernel, by decide +kernel⟩, List.mem_of_getElem? (i := 912) (by decide +kernel), List.mem_of_getElem? (i := 975) (by decide +kernel), List.mem_of_getElem? (i := 976) (by decide +kernel)⟩
theorem lw_p15 : lw_okq (⟨"TwinrowModel", "isNoPlace", "(II)Z"⟩, 8) := ⟨⟨by decide +kernel, by decide +kernel⟩, List.mem_of_getElem? (i := 912) (by decide +kernel), List.mem_of_getElem? (i := 983) (by decide +kernel), List.mem_of_getElem? (i := 984) (by decide +kernel)⟩
def lw_privs_1 : List (MethodName × Nat) := [(⟨"Twinrow", "listOrNull", "(I)LTwinrow$RowList;"⟩, 4), (⟨"Twinrow", "isSoundList", "(LTwinrow$RowList;)Z"⟩, 4), (⟨"Twinrow", "isEqualToOwn", "(LTwinrow$RowList;)Z"⟩, 4), (⟨"java/lang/Throwable", "fillInStackTrace", "(I)Ljava/lang/Throwable;"⟩, 6), (⟨"Twinrow", "partsThere", "()I"⟩, 4), (⟨"Twinrow", "placesOfRows", "()I"⟩, 4), (⟨"Twinrow", "twinAt", "(I)LTwinrow$RowList;"⟩, 4), (⟨"Twinrow", "mixedWithRow", "(JI)J"⟩, 4), (⟨"Twinrow", "mixedWithList", "(JI)J"⟩, 4), (⟨"Twinrow", "listAt", "(I)LTwinrow$RowList;"⟩, 4), (⟨"Twinrow", "dropPartsOf", "(I)I"⟩, 4), (⟨"Twinrow", "refuseIf", "(Z)I"⟩, 4), (⟨"TwinrowModel", "fails", "(ZZ)Z"⟩, 8), (⟨"TwinrowModel", "isNoRowPlace", "(II)Z"⟩, 8), (⟨"TwinrowModel", "isNoList", "(I)Z"⟩, 8), (⟨"TwinrowModel", "isNoPlace", "(II)Z"⟩, 8)]
theorem lw_r1 : ∀ q ∈ lw_privs_1, lw_okq q := List.forall_mem_cons.mpr ⟨lw_p0, List.forall_mem_cons.mpr ⟨lw_p1, List.forall_mem_cons.mpr ⟨lw_p2, List.forall_mem_cons.mpr ⟨lw_p3, List.forall_mem_cons.mpr ⟨lw_p4, List.forall_mem_cons.mpr ⟨lw_p5, List.forall_mem_cons.mpr ⟨lw_p6, List.forall_mem_cons.mpr ⟨lw_p7, List.forall_mem_cons.mpr ⟨lw_p8, List.forall_mem_cons.mpr ⟨lw_p9, List.forall_mem_cons.mpr ⟨lw_p10, List.forall_mem_cons.mpr ⟨lw_p11, List.forall_mem_cons.mpr ⟨lw_p12, List.forall_mem_cons.mpr ⟨lw_p13, List.forall_mem_cons.mpr ⟨lw_p14, List.forall_mem_cons.mpr ⟨lw_p15, fun _ h => absurd h List.not_mem_nil⟩⟩⟩⟩⟩⟩⟩⟩⟩⟩⟩⟩⟩⟩⟩⟩
theorem lw_p16 : lw_okq (⟨"TwinrowModel", "value", "(II)I"⟩, 8) := ⟨⟨by decide +kernel, by decide +kernel⟩, List.mem_of_getElem? (i := 912) (by decide +kernel), List.mem_of_getElem? (i := 987) (by decide +kernel), List.mem_of_getElem? (i := 988) (by decide +kernel)⟩
theorem lw_p17 : lw_okq (⟨"TwinrowModel", "write", "(III)V"⟩, 8) := ⟨⟨by decide +kernel, by decide +kernel⟩, List.mem_of_getElem? (i := 912) (by decide +kernel), List.mem_of_getElem? (i := 991) (by decide +kernel), List.mem_of_getElem? (i := 992) (by decide +kernel)⟩
theorem lw_p18 : lw_okq (⟨"TwinrowModel", "line", "(IZ)Ljava/lang/String;"⟩, 8) := ⟨⟨by decide +kernel, by decide +kernel⟩, List.mem_of_getElem? (i := 912) (by decide +kernel), List.mem_of_getElem? (i := 1011) (by decide +kernel), List.mem_of_getElem? (i := 1012) (by decide +kernel)⟩
theorem lw_p19 : lw_okq (⟨"TwinrowModel", "all", "(I)[I"⟩, 8) := ⟨⟨by decide +kernel, by decide +kernel⟩, List.mem_of_getElem? (i := 912) (by decide +kernel), List.mem_of_getElem? (i := 1016) (by decide +kernel), List.mem_of_getElem? (i := 1017) (by decide +kernel)⟩
theorem lw_p20 : lw_okq (⟨"TwinrowModel", "isNoPair", "(II)Z"⟩, 8) := ⟨⟨by decide +kernel, by decide +kernel⟩, List.mem_of_getElem? (i := 912) (by decide +kernel), List.mem_of_getElem? (i := 1067) (by decide +kernel), List.mem_of_getElem? (i := 1068) (by decide +kernel)⟩
theorem lw_p21 : lw_okq (⟨"TwinrowModel", "shared", "(II)I"⟩, 8) := ⟨⟨by decide +kernel, by decide +kernel⟩, List.mem_of_getElem? (i := 912) (by decide +kernel), List.mem_of_getElem? (i := 1071) (by decide +kernel), List.mem_of_getElem? (i := 1072) (by decide +kernel)⟩
theorem lw_p22 : lw_okq (⟨"TwinrowModel", "codeNow", "(I)I"⟩, 8) := ⟨⟨by decide +kernel, by decide +kernel⟩, List.mem_of_getElem? (i := 912) (by decide +kernel), List.mem_of_getElem? (i := 1094) (by decide +kernel), List.mem_of_getElem? (i := 1095) (by decide +kernel)⟩
theorem lw_p23 : lw_okq (⟨"TwinrowModel", "isBeyond", "(II)Z"⟩, 8) := ⟨⟨by decide +kernel, by decide +kernel⟩, List.mem_of_getElem? (i := 912) (by decide +kernel), List.mem_of_getElem? (i := 1102) (by decide +kernel), List.mem_of_getElem? (i := 1103) (by decide +kernel)⟩
theorem lw_p24 : lw_okq (⟨"TwinrowModel", "sumNow", "(I)I"⟩, 8) := ⟨⟨by decide +kernel, by decide +kernel⟩, List.mem_of_getElem? (i := 912) (by decide +kernel), List.mem_of_getElem? (i := 1111) (by decide +kernel), List.mem_of_getElem? (i := 1112) (by decide +kernel)⟩
theorem lw_p25 : lw_okq (⟨"TwinrowModel", "ruledAll", "(IIIII)I"⟩, 8) := ⟨⟨by decide +kernel, by decide +kernel⟩, List.mem_of_getElem? (i := 912) (by decide +kernel), List.mem_of_getElem? (i := 1122) (by decide +kernel), List.mem_of_getElem? (i := 1123) (by decide +kernel)⟩
theorem lw_p26 : lw_okq (⟨"TwinrowModel", "writeAll", "(I[I)V"⟩, 8) := ⟨⟨by decide +kernel, by decide +kernel⟩, List.mem_of_getElem? (i := 912) (by decide +kernel), List.mem_of_getElem? (i := 1142) (by decide +kernel), List.mem_of_getElem? (i := 1143) (by decide +kernel)⟩
theorem lw_p27 : lw_okq (⟨"TwinrowModel", "refused", "()I"⟩, 8) := ⟨⟨by decide +kernel, by decide +kernel⟩, List.mem_of_getElem? (i := 912) (by decide +kernel), List.mem_of_getElem? (i := 1170) (by decide +kernel), List.mem_of_getElem? (i := 1171) (by decide +kernel)⟩
theorem lw_p28 : lw_okq (⟨"TwinrowModel", "refusedIf", "(Z)I"⟩, 8) := ⟨⟨by decide +kernel, by decide +kernel⟩, List.mem_of_getElem? (i := 912) (by decide +kernel), List.mem_of_getElem? (i := 1182) (by decide +kernel), List.mem_of_getElem? (i := 1183) (by decide +kernel)⟩
theorem lw_p29 : lw_okq (⟨"TwinrowModel", "houseNow", "(I)I"⟩, 8) := ⟨⟨by decide +kernel, by decide +kernel⟩, List.mem_of_getElem? (i := 912) (by decide +kernel), List.mem_of_getElem? (i := 1225) (by decide +kernel), List.mem_of_getElem? (i := 1226) (by decide +kernel)⟩
theorem lw_p30 : lw_okq (⟨"TwinrowModel", "beginNow", "(I)I"⟩, 8) := ⟨⟨by decide +kernel, by decide +kernel⟩, List.mem_of_getElem? (i := 912) (by decide +kernel), List.mem_of_getElem? (i := 1237) (by decide +kernel), List.mem_of_getElem? (i := 1238) (by decide +kernel)⟩
theorem lw_p31 : lw_okq (⟨"TwinrowModel", "add", "(J)V"⟩, 8) := ⟨⟨by decide +kernel, by decide +kernel⟩, List.mem_of_getElem? (i := 912) (by decide +kernel), List.mem_of_getElem? (i := 1250) (by decide +kernel), List.mem_of_getElem? (i := 1251) (by decide +kernel)⟩
def lw_privs_2 : List (MethodName × Nat) := [(⟨"TwinrowModel", "value", "(II)I"⟩, 8), (⟨"TwinrowModel", "write", "(III)V"⟩, 8), (⟨"TwinrowModel", "line", "(IZ)Ljava/lang/String;"⟩, 8), (⟨"TwinrowModel", "all", "(I)[I"⟩, 8), (⟨"TwinrowModel", "isNoPair", "(II)Z"⟩, 8), (⟨"TwinrowModel", "shared", "(II)I"⟩, 8), (⟨"TwinrowModel", "codeNow", "(I)I"⟩, 8), (⟨"TwinrowModel", "isBeyond", "(II)Z"⟩, 8), (⟨"TwinrowModel", "sumNow", "(I)I"⟩, 8), (⟨"TwinrowModel", "ruledAll", "(IIIII)I"⟩, 8), (⟨"TwinrowModel", "writeAll", "(I[I)V"⟩, 8), (⟨"TwinrowModel", "refused", "()I"⟩, 8), (⟨"TwinrowModel", "refusedIf", "(Z)I"⟩, 8), (⟨"TwinrowModel", "houseNow", "(I)I"⟩, 8), (⟨"TwinrowModel", "beginNow", "(I)I"⟩, 8), (⟨"TwinrowModel", "add", "(J)V"⟩, 8)]
theorem lw_r2 : ∀ q ∈ lw_privs_2, lw_okq q := List.forall_mem_cons.mpr ⟨lw_p16, List.forall_mem_cons.mpr ⟨lw_p17, List.forall_mem_cons.mpr ⟨lw_p18, List.forall_mem_cons.mpr ⟨lw_p19, List.forall_mem_cons.mpr ⟨lw_p20, List.forall_mem_cons.mpr ⟨lw_p21, List.forall_mem_cons.mpr ⟨lw_p22, List.forall_mem_cons.mpr ⟨lw_p23, List.forall_mem_cons.mpr ⟨lw_p24, List.forall_mem_cons.mpr ⟨lw_p25, List.forall_mem_cons.mpr ⟨lw_p26, List.forall_mem_cons.mpr ⟨lw_p27, List.forall_mem_cons.mpr ⟨lw_p28, List.forall_mem_cons.mpr ⟨lw_p29, List.forall_mem_cons.mpr ⟨lw_p30, List.forall_mem_cons.mpr ⟨lw_p31, fun _ h => absurd h List.not_mem_nil⟩⟩⟩⟩⟩⟩⟩⟩⟩⟩⟩⟩⟩⟩⟩⟩
def lw_privs : List (MethodName × Nat) := lw_privs_1 ++ (lw_privs_2)
def lw_tbl : List Cond := k2_sels lw_privs ++ tables_1
theorem lw_privs_ok : ∀ q ∈ lw_privs, lw_okq q := by
  show ∀ q ∈ lw_privs_1 ++ (lw_privs_2), lw_okq q
  exact List.forall_mem_append.mpr ⟨lw_r1, lw_r2⟩
end
section
/-! ===== BEGIN words of one list among another's, by their places ===== -/
theorem goodIn_r {big : List Cond} (ws : List Cond) (ps : List Nat) (hp : ws = ps.filterMap (fun i => big[i]?)) (h : ws.all goodWord = true) : GoodIn big ws := by
  intro w hw
  have h1 := List.all_eq_true.mp h w hw
  rw [hp] at hw
  obtain ⟨i, -, hi⟩ := List.mem_filterMap.mp hw
  have hm : w ∈ big := by first | exact List.mem_of_getElem? hi | exact List.getElem?_mem hi
  exact ⟨hm, good_of_word h1⟩
theorem goodIn_app {big a b : List Cond} (ha : GoodIn big a) (hb : GoodIn big b) : GoodIn big (a ++ b) := fun w h => (List.mem_append.mp h).elim (ha w) (hb w)
theorem goodIn_ca {big a b : List Cond} {c : Cond} (ha : GoodIn big (c :: a)) (hb : GoodIn big b) : GoodIn big (c :: (a ++ b)) := fun w h => (List.mem_cons.mp h).elim (fun e => ha w (List.mem_cons.mpr (Or.inl e))) (fun h => (List.mem_append.mp h).elim (fun h => ha w (List.mem_cons.mpr (Or.inr h))) (hb w))
theorem goodIn_sub {big ws : List Cond} (hm : ∀ w ∈ ws, w ∈ big) (h : ws.all goodWord = true) : GoodIn big ws := fun w hw => ⟨hm w hw, good_of_word (List.all_eq_true.mp h w hw)⟩
/-! ===== END ===== -/

/-! ===== BEGIN exceptions that leave a method, and their catching by the caller (launches without stack traces) ===== -/
section VXA
/-! The laws vx_back, vx_callV, vx_callS, vx_callSW, vx_throw0, vx_throwS follow proofs of the library, with one case more: JvmDerived/Free/Laws.lean (Back.of_free), Shelf42/LK1.lean (callV, callS), Shelf/KitTraced.lean (throwNew0V, throwNewS). -/
/-- where a method has thrown q: the class by its name, the cell, what was written, the world -/
def vx_T (XC : String → State → State → Prop) (st : State) (q : Addr) (t : State) (mc ms : Nat) (free : Addr → Prop) : Prop :=
  ∃ (E : String) (ce : Cell) (L : List Loc), XC E st t ∧ t.heap[q]? = some ce ∧ ce.vm = .none ∧ st.vm.findClass E = some ce.cls ∧ st.WarmedH t.vm ∧ st.sameButNew ({ t with vm := st.vm } : State) L mc ms ∧ ∀ z ∈ L, free z.base
def vx_Q (Qc : Array Value → State → Outcome → State → Prop) (XC : String → State → State → Prop) (mc ms : Nat) (free : Addr → Prop) : Array Value → State → Outcome → State → Prop := fun a st o t =>
  (Qc a st o t ∧ ∃ L, FrameEnd st o t L mc ms ∧ ∀ q ∈ L, free q.base) ∨ ∃ q, o = .threw q ∧ vx_T XC st q t mc ms free
/-- a callee that returns or throws -/
def vx_Met (l : Launch) (y : MethodName) (ws : List Cond) (rm : Room) (Pc : Array Value → State → Prop) (Qc : Array Value → State → Outcome → State → Prop) (XC : String → State → State → Prop) (mc ms : Nat) (free : Addr → Prop) : Prop :=
  MetFree l y (headSpec ws rm) Pc (fun _ _ _ _ _ => True) (vx_Q Qc XC mc ms free)
def vx_Post (XC : String → State → State → Prop) (mc ms : Nat) (free : Addr → Prop) : Pt → Array Value → Addr → Pt → Prop := fun A a q B =>
  ∃ (g : JFrame) (mk : MethodId) (t : State) (L : List Loc) (E : String) (ce : Cell), B.U.heap = t.heap ∧ B.U.vm = t.vm ∧ XC E (A.U.calling g mk a) t ∧ t.heap[q]? = some ce ∧ ce.vm = .none ∧ A.U.vm.findClass E = some ce.cls ∧ B.locs = A.locs ++ L ∧ (∀ z ∈ L, free z.base) ∧ B.cells = A.cells + mc ∧ B.slots = A.slots + ms
def vx_Back (l : Launch) (R : Room) (p : Program) (e : Env) (below : List Frame) (s : State) (sargs : Array Value) (y : MethodName) (len W9 : Nat)
    (Pre : Pt → Array Value → Prop) (Post : Pt → Array Value → Option Value → Pt → Prop) (PostX : Pt → Array Value → Addr → Pt → Prop) : Prop :=
  ∀ (m : MethodId) (meth : Method) (c : Code) (A : Pt) (g : JFrame) (ig : Instr) (mk : MethodId) (a : Array Value),
    Stand p l e R s m sargs below meth c A.U A.locs A.cells A.slots → g.method = m → g.locals.size = c.maxLocals → decode c.code g.pc = .ok (ig, len) →
    2 * g.monitorRoom + (g.stack.map fun v => v.category).sum ≤ W9 → A.U.methodNamed? y = some mk → Pre A a →
    (∃ (v : Option Value) (B : Pt), Stand p l e R s m sargs below meth c B.U B.locs B.cells B.slots ∧ Post A a v B ∧
      Steps p.tables e below (doInvoke e (A.U.setTop g) [] mk a).1 (B.U.setTop { g with pc := g.pc + len, stack := v.toList ++ g.stack })) ∨
    (∃ (q : Addr) (B : Pt), Stand p l e R s m sargs below meth c B.U B.locs B.cells B.slots ∧ PostX A a q B ∧
      Steps p.tables e below (doInvoke e (A.U.setTop g) [] mk a).1 ((B.U.setTop g).pushFrame (.throwing q)))
section Payer
variable {l : Launch} {R : Room} {p : Program} {e : Env} {below : List Frame} {s : State} {sargs : Array Value} {y : MethodName} {len W9 : Nat}
theorem vx_back {ws : List Cond} {rm : Room} {Pc : Array Value → State → Prop} {Qc : Array Value → State → Outcome → State → Prop} {XC : String → State → State → Prop} {mc ms : Nat} {free : Addr → Prop} {bytes : ByteArray} {maxL : Nat} {ret : Option FieldType}
    (hM : vx_Met l y ws rm Pc Qc XC mc ms free) (hblind : FrameBlind Pc) (hrc : rm.cells = mc) (hrs : rm.slots = ms)
    (hframes : rm.frames + 1 ≤ R.frames) (hlocals : W9 + (maxL + 11) + rm.locals ≤ R.locals)
    (hws : ∀ w ∈ ws, ∀ a' U, s.WarmedH U.vm → w.before a' U = true) (hcode : Cond.code y bytes maxL ret ∈ ws) (hinit : ∀ a' U, s.WarmedH U.vm → (Cond.initialized y.cls).before a' U = true) :
    vx_Back l R p e below s sargs y len W9 (PreOf R mc ms Pc) (PostOf Qc mc ms free) (vx_Post XC mc ms free) := by
  intro m meth c A g ig mk a X hg hsize hdg hW hn hp
  have h1 : (headSpec ws rm).pre.before a A.U = true := atoms_intro fun w hw => hws w hw _ _ X.warmed
  have h2 : (Cond.code y bytes maxL ret).before a A.U = true := hws _ hcode _ _ X.warmed
  have h3 : (Cond.initialized y.cls).before a A.U = true := hinit _ _ X.warmed
  have h4 : A.cells + (headSpec ws rm).room.cells ≤ R.cells := by rw [show (headSpec ws rm).room.cells = mc from hrc]; exact hp.1
  have h5 : A.slots + (headSpec ws rm).room.slots ≤ R.slots := by rw [show (headSpec ws rm).room.slots = ms from hrs]; exact hp.2.1
  have hPc : Pc a (A.U.calling g mk a) := hblind _ _ _ _ hp.2.2
  obtain ⟨U, Ls, c0, s0⟩ := A
  dsimp only [Pt.U, Pt.locs, Pt.cells, Pt.slots] at h1 h2 h3 h4 h5 X hn hPc ⊢
  obtain ⟨methY, cY, hmY, hcY, -, hlY, -, -, -, -⟩ := Cond.code_spec hn h2
  obtain ⟨kY, hkY, -⟩ := className_of_methodNamed hn
  have hinitY : kY.init = .initialized := Cond.initialized_spec (findClass_of_methodNamed hn) hkY h3
  have h : At U g.method c below := by rw [hg]; exact X.here
  have hlocals9 : W9 + (maxL + 11) + (headSpec ws rm).room.locals ≤ R.locals := hlocals
  have happ : (headSpec ws rm).appliesLoose y e.platform (U.calling g mk a) = true :=
    Spec.appliesLoose_calling (g := g) h hdg hn hkY hinitY
      (X.room_calling (g := g) (R' := (headSpec ws rm).room) hsize hmY hcY hframes (by rw [hlY]; omega) h4 h5) h1
  obtain ⟨mid, hmid⟩ := h.above
  have hfr : (U.setTop g).frames = (.java g :: mid) ++ below := by rw [State.frames_setTop' g h.top, hmid]; rfl
  obtain ⟨o, s₂, hsteps, -, hend, hq⟩ := Steps.callFree hM p X.admits X.cas X.clock (acts := []) hfr happ hPc trivial
  have hq' : vx_Q Qc XC mc ms free a (U.calling g mk a) o s₂ := hq
  rw [State.frames_setTop' g h.top] at hend
  obtain ⟨g₀, hg0⟩ := Option.isSome_iff_exists.mp h.top
  obtain ⟨r, hr⟩ := State.topJava?_eq_some.mp hg0
  have hr' : (({ U with heap := s₂.heap, slotsUsed := s₂.slotsUsed } : State).setVm s₂.vm).frames = .java g₀ :: r := hr
  rcases hq' with ⟨hqc, L, hfe, hL⟩ | ⟨q, rfl, E, ce, L, hx, hce, hcv, hcl, hW₂, hsm, hL⟩
  · obtain ⟨⟨v, rfl⟩, hW₂, e2, q2, q3, q4, q5, q6⟩ := id hfe
    have e3 : s₂ = ({ (U.calling g mk a).setFrames s₂.frames with heap := s₂.heap, slotsUsed := s₂.slotsUsed } : State).setVm s₂.vm := by
      have : s₂ = ({ s₂ with vm := (U.calling g mk a).vm } : State).setVm s₂.vm := rfl
      rw [e2] at this
      exact this
    obtain ⟨c₂, i₂, len₂, hc₂, hd₂, hf₂⟩ := hend
    have hW' : U.WarmedH s₂.vm := hW₂
    have hcc : c₂ = c := by
      have h1 : s₂.code? g.method = U.code? g.method := by
        rw [State.code?_eq, State.code?_eq, hW'.alike.method?]
      exact Option.some.inj (hc₂.symm.trans (h1.trans h.code))
    subst hcc
    have hlen : len₂ = len := by rw [hdg] at hd₂; cases hd₂; rfl
    subst hlen
    have hs₂ : s₂ = (({ U with heap := s₂.heap, slotsUsed := s₂.slotsUsed } : State).setVm s₂.vm).setTop { g with pc := g.pc + len₂, stack := v.toList ++ g.stack } := by
      refine e3.trans ?_
      rw [hf₂, State.calling_eq h.top, State.setFrames_setFrames, State.setTop_of_frames _ hr', hr]
      rfl
    have hsame : U.sameButNew ({ U with heap := s₂.heap, slotsUsed := s₂.slotsUsed } : State) L mc ms := by
      refine ⟨?_, q2, q3, q4, q5, q6⟩
      obtain ⟨t, ht, -⟩ := State.frames_cons hr
      show ({ U with heap := s₂.heap, slotsUsed := s₂.slotsUsed } : State) = { U.setFrames U.frames with heap := s₂.heap, slotsUsed := s₂.slotsUsed }
      rw [State.setFrames_self ht]
    subst hg
    refine Or.inl ⟨v, ⟨(({ U with heap := s₂.heap, slotsUsed := s₂.slotsUsed } : State).setVm s₂.vm), Ls ++ L, c0 + mc, s0 + ms⟩,
      ⟨X.admits, X.cas, X.clock, X.frames, X.room, X.hears, X.method, X.code, (X.here.setHeapUsed s₂.heap s₂.slotsUsed).setVm hW'.alike, X.tail, State.WarmedH.trans X.warmed hW', X.limits, X.bytes, X.same.trans (hsame.setVm s.vm)⟩,
      ⟨g, mk, s₂, L, rfl, rfl, hqc, rfl, hL, rfl, rfl⟩, ?_⟩
    show Steps p.tables e below _ ((({ U with heap := s₂.heap, slotsUsed := s₂.slotsUsed } : State).setVm s₂.vm).setTop { g with pc := g.pc + len₂, stack := v.toList ++ g.stack })
    rw [← hs₂]
    exact hsteps
  · obtain ⟨e2, q2, q3, q4, q5, q6⟩ := id hsm
    have e3 : s₂ = ({ (U.calling g mk a).setFrames s₂.frames with heap := s₂.heap, slotsUsed := s₂.slotsUsed } : State).setVm s₂.vm := by
      have : s₂ = ({ s₂ with vm := (U.calling g mk a).vm } : State).setVm s₂.vm := rfl
      rw [e2] at this
      exact this
    have hf₂ : s₂.frames = .throwing q :: .java g :: U.frames.tail := hend
    have hW' : U.WarmedH s₂.vm := hW₂
    have hs₂ : s₂ = ((({ U with heap := s₂.heap, slotsUsed := s₂.slotsUsed } : State).setVm s₂.vm).setTop g).pushFrame (.throwing q) := by
      refine e3.trans ?_
      rw [hf₂, State.calling_eq h.top, State.setFrames_setFrames, State.pushFrame, State.frames_setTop _ hr', State.setTop_of_frames _ hr', State.setFrames_setFrames, hr]
      rfl
    have hsame : U.sameButNew ({ U with heap := s₂.heap, slotsUsed := s₂.slotsUsed } : State) L mc ms := by
      refine ⟨?_, q2, q3, q4, q5, q6⟩
      obtain ⟨t, ht, -⟩ := State.frames_cons hr
      show ({ U with heap := s₂.heap, slotsUsed := s₂.slotsUsed } : State) = { U.setFrames U.frames with heap := s₂.heap, slotsUsed := s₂.slotsUsed }
      rw [State.setFrames_self ht]
    subst hg
    refine Or.inr ⟨q, ⟨(({ U with heap := s₂.heap, slotsUsed := s₂.slotsUsed } : State).setVm s₂.vm), Ls ++ L, c0 + mc, s0 + ms⟩,
      ⟨X.admits, X.cas, X.clock, X.frames, X.room, X.hears, X.method, X.code, (X.here.setHeapUsed s₂.heap s₂.slotsUsed).setVm hW'.alike, X.tail, State.WarmedH.trans X.warmed hW', X.limits, X.bytes, X.same.trans (hsame.setVm s.vm)⟩,
      ⟨g, mk, s₂, L, E, ce, rfl, rfl, hx, hce, hcv, hcl, rfl, hL, rfl, rfl⟩, ?_⟩
    show Steps p.tables e below _ (((({ U with heap := s₂.heap, slotsUsed := s₂.slotsUsed } : State).setVm s₂.vm).setTop g).pushFrame (.throwing q))
    rw [← hs₂]
    exact hsteps
end Payer
section Calls
variable {p : Program} {l : Launch} {e : Env} {R : Room} {s : State} {m : MethodId} {args : Array Value} {below : List Frame} {meth : Method} {c : Code} {T : State} {locs : List Loc} {cells slots : Nat}
theorem vx_callV (X : Stand p l e R s m args below meth c T locs cells slots) (hexec : p.tables.exec = Jvm.exec) {own C : String} {index : Nat} {y : MethodName} {bytes : ByteArray} {maxL : Nat} {ret : Option FieldType}
    (hown : s.vm.findClass own = some m.cls) (hlink : (Cond.methodLink own index y).before args s = true) (hinst : (Cond.instanceMethod y).before args s = true) (hsel : (Cond.selects C y y).before args s = true)
    (hcode : (Cond.code y bytes maxL ret).before args s = true) (hy : y.cls ≠ "java/lang/invoke/MethodHandle" ∧ y.cls ≠ "java/lang/invoke/VarHandle")
    {W9 : Nat} {Pre : Pt → Array Value → Prop} {Post : Pt → Array Value → Option Value → Pt → Prop} {PostX : Pt → Array Value → Addr → Pt → Prop} (hK : vx_Back l R p e below s args y 3 W9 Pre Post PostX)
    {b : Addr} {cellB : Cell} (hcell : T.heap[b]? = some cellB) (hobj : cellB.vm.isStatics = false) (hcls : s.vm.findClass C = some cellB.cls)
    {g : JFrame} (hg : g.method = m) (hsize : g.locals.size = c.maxLocals) {argsL rest : List Value} (hlen : ∀ sig, parseMethodDescriptor y.desc = some sig → argsL.length = sig.parameters.length)
    (hstack : g.stack = argsL.reverse ++ .ref b :: rest) (hW : 2 * g.monitorRoom + (rest.map fun v => v.category).sum ≤ W9) (hdg : decode c.code g.pc = .ok (.invokevirtual index, 3))
    (hpre : ∀ vm₁, s.WarmedH vm₁ → Pre ⟨T.setVm vm₁, locs, cells, slots⟩ (Value.ref b :: argsL).toArray) :
    (∃ (v : Option Value) (vm₁ : Vm) (B : Pt), s.WarmedH vm₁ ∧ Stand p l e R s m args below meth c B.U B.locs B.cells B.slots ∧ Post ⟨T.setVm vm₁, locs, cells, slots⟩ (Value.ref b :: argsL).toArray v B ∧
      ∀ target, Steps p.tables e below (B.U.setTop { g with pc := g.pc + 3, stack := v.toList ++ rest }) target → Steps p.tables e below (T.setTop g) target) ∨
    (∃ (q : Addr) (vm₁ : Vm) (B : Pt), s.WarmedH vm₁ ∧ Stand p l e R s m args below meth c B.U B.locs B.cells B.slots ∧ PostX ⟨T.setVm vm₁, locs, cells, slots⟩ (Value.ref b :: argsL).toArray q B ∧
      Steps p.tables e below (T.setTop g) ((B.U.setTop { g with stack := rest }).pushFrame (.throwing q))) := by
  obtain ⟨mk, methM, hnamed, hmethM, hstM, habM⟩ := Cond.instanceMethod_spec hinst
  obtain ⟨methM', cM, hmethM', -, -, -, -, -, -, hsigM⟩ := Cond.code_spec hnamed hcode
  cases hmethM.symm.trans hmethM'
  obtain ⟨c2, r2, m2, q1, q2, q3, q4, kP, hkP, hkPi⟩ := Cond.selects_spec hsel
  cases hcls.symm.trans q1
  cases (State.methodFound?_of_named hnamed hy).symm.trans q2
  cases hnamed.symm.trans q3
  have hselP : selectMethod e.platform s.vm cellB.cls mk = .method mk := by rw [Launch.admits_selectMethod X.admits]; exact q4
  obtain ⟨vm₁, X₁, hstep₁⟩ := X.invokevirtual hexec hown hlink hnamed hmethM hstM hkP hkPi hy (a := b) (cell := cellB) hcell
    (fun z h => by rw [h] at hobj; cases hobj) hselP hmethM habM hkP hkPi (g := g) hg (argsL := argsL) (rest := rest) (hlen _ hsigM) hstack hdg
  rcases hK m meth c ⟨T.setVm vm₁, locs, cells, slots⟩ { g with stack := rest } (.invokevirtual index) mk (Value.ref b :: argsL).toArray X₁ hg hsize hdg hW (X₁.named hnamed) (hpre vm₁ X₁.warmed) with ⟨v, B, X', hpost, hsteps⟩ | ⟨q, B, X', hpost, hsteps⟩
  · exact Or.inl ⟨v, vm₁, B, X₁.warmed, X', hpost, fun target h => hstep₁ _ fun acts => by rw [doInvoke_state]; exact hsteps.trans h⟩
  · exact Or.inr ⟨q, vm₁, B, X₁.warmed, X', hpost, hstep₁ _ fun acts => by rw [doInvoke_state]; exact hsteps⟩
theorem vx_callS (X : Stand p l e R s m args below meth c T locs cells slots) (hexec : p.tables.exec = Jvm.exec) {own : String} {index : Nat} {y : MethodName} {bytes : ByteArray} {maxL : Nat} {ret : Option FieldType}
    (hown : s.vm.findClass own = some m.cls) (hlink : (Cond.methodLink own index y).before args s = true) (hstat : (Cond.static y).before args s = true) (hinit : (Cond.initialized y.cls).before args s = true)
    (hcode : (Cond.code y bytes maxL ret).before args s = true) (hy : y.cls ≠ "java/lang/invoke/MethodHandle" ∧ y.cls ≠ "java/lang/invoke/VarHandle")
    {W9 : Nat} {Pre : Pt → Array Value → Prop} {Post : Pt → Array Value → Option Value → Pt → Prop} {PostX : Pt → Array Value → Addr → Pt → Prop} (hK : vx_Back l R p e below s args y 3 W9 Pre Post PostX)
    {g : JFrame} (hg : g.method = m) (hsize : g.locals.size = c.maxLocals) {argsL rest : List Value} (hlen : ∀ sig, parseMethodDescriptor y.desc = some sig → argsL.length = sig.parameters.length)
    (hstack : g.stack = argsL.reverse ++ rest) (hW : 2 * g.monitorRoom + (rest.map fun v => v.category).sum ≤ W9) (hdg : decode c.code g.pc = .ok (.invokestatic index, 3))
    (hpre : ∀ vm₁, s.WarmedH vm₁ → Pre ⟨T.setVm vm₁, locs, cells, slots⟩ argsL.toArray) :
    (∃ (v : Option Value) (vm₁ : Vm) (B : Pt), s.WarmedH vm₁ ∧ Stand p l e R s m args below meth c B.U B.locs B.cells B.slots ∧ Post ⟨T.setVm vm₁, locs, cells, slots⟩ argsL.toArray v B ∧
      ∀ target, Steps p.tables e below (B.U.setTop { g with pc := g.pc + 3, stack := v.toList ++ rest }) target → Steps p.tables e below (T.setTop g) target) ∨
    (∃ (q : Addr) (vm₁ : Vm) (B : Pt), s.WarmedH vm₁ ∧ Stand p l e R s m args below meth c B.U B.locs B.cells B.slots ∧ PostX ⟨T.setVm vm₁, locs, cells, slots⟩ argsL.toArray q B ∧
      Steps p.tables e below (T.setTop g) ((B.U.setTop { g with stack := rest }).pushFrame (.throwing q))) := by
  obtain ⟨mk, hnamed⟩ := Cond.code_named hcode
  obtain ⟨methM, cM, hmethM, -, -, -, -, -, -, hsigM⟩ := Cond.code_spec hnamed hcode
  have hstatic : methM.isStatic = true := Cond.static_spec hnamed hmethM hstat
  obtain ⟨kP, hkP, -⟩ := className_of_methodNamed hnamed
  have hinitP : kP.init = .initialized := Cond.initialized_spec (findClass_of_methodNamed hnamed) hkP hinit
  obtain ⟨vm₁, X₁, hstep₁⟩ := X.invokestatic hexec hown hlink hnamed hmethM hstatic hkP hinitP hy (g := g) hg (argsL := argsL) (rest := rest) (hlen _ hsigM) hstack hdg
  rcases hK m meth c ⟨T.setVm vm₁, locs, cells, slots⟩ { g with stack := rest } (.invokestatic index) mk argsL.toArray X₁ hg hsize hdg hW (X₁.named hnamed) (hpre vm₁ X₁.warmed) with ⟨v, B, X', hpost, hsteps⟩ | ⟨q, B, X', hpost, hsteps⟩
  · exact Or.inl ⟨v, vm₁, B, X₁.warmed, X', hpost, fun target h => hstep₁ _ fun acts => by rw [doInvoke_state]; exact hsteps.trans h⟩
  · exact Or.inr ⟨q, vm₁, B, X₁.warmed, X', hpost, hstep₁ _ fun acts => by rw [doInvoke_state]; exact hsteps⟩
end Calls
theorem vx_cls {s : State} {T : State} {vm₁ : Vm} {E : String} {k : ClassId} (hW : s.WarmedH vm₁) (h : (T.setVm vm₁).vm.findClass E = some k) : s.vm.findClass E = some k := by
  have h1 : vm₁.findClass E = some k := h
  rw [hW.alike.findClass] at h1
  exact h1
/-- the method's frame g, with q thrown over it -/
def vx_W (p : Program) (l : Launch) (e : Env) (R : Room) (s : State) (m : MethodId) (args : Array Value) (below : List Frame) (meth : Method) (c : Code) (H : Heap) (locs : List Loc) (cells slots : Nat) (Q : State → Prop) (g : JFrame) (q : Addr) : Prop :=
  ∀ T : State, T.heap = H → Stand p l e R s m args below meth c T locs cells slots → ∃ t, Steps p.tables e below ((T.setTop g).pushFrame (.throwing q)) t ∧ Q t
def vx_Run (p : Program) (l : Launch) (e : Env) (R : Room) (s : State) (m : MethodId) (args : Array Value) (below : List Frame) (meth : Method) (c : Code) (H : Heap) (locs : List Loc) (cells slots mc ms : Nat) (g : JFrame) (rest : List Value) (Qa : State → Outcome → State → Prop) (XC : String → State → State → Prop) (free : Addr → Prop) : Prop :=
  ∀ T : State, T.heap = H → Stand p l e R s m args below meth c T locs cells slots →
    (∃ (v : Option Value) (st₀ t T' : State) (L : List Loc), st₀.heap = H ∧ Stand p l e R s m args below meth c T' (locs ++ L) (cells + mc) (slots + ms) ∧ (∀ q ∈ L, free q.base) ∧ T'.heap = t.heap ∧ T'.vm = t.vm ∧ Qa st₀ (.returned v) t ∧
      Goes p e below T g T' { g with pc := g.pc + 3, stack := v.toList ++ rest }) ∨
    (∃ (q : Addr) (st₀ t T' : State) (L : List Loc) (E : String) (ce : Cell), st₀.heap = H ∧ Stand p l e R s m args below meth c T' (locs ++ L) (cells + mc) (slots + ms) ∧ (∀ z ∈ L, free z.base) ∧ T'.heap = t.heap ∧ T'.vm = t.vm ∧ XC E st₀ t ∧ t.heap[q]? = some ce ∧ ce.vm = .none ∧ s.vm.findClass E = some ce.cls ∧
      Steps p.tables e below (T.setTop g) ((T'.setTop { g with stack := rest }).pushFrame (.throwing q)))
def vx_X {S : Type} (px : S → Prop) (B : String → S → State → Prop) (A : Nat → Prop) : String → State → State → Prop := fun E st t => ∃ u : S, px u ∧ B E u t ∧ va_F A st t
section Runs
variable {p : Program} {l : Launch} {e : Env} {R : Room} {s : State} {m : MethodId} {args : Array Value} {below : List Frame} {meth : Method} {c : Code} {H : Heap} {locs : List Loc} {cells slots : Nat}
variable {y : MethodName} {bytes cc : ByteArray} {maxL nL mc ms n index : Nat} {ret : Option FieldType} {ws : List Cond} {rm : Room} {Pc : Array Value → State → Prop} {Qc : Array Value → State → Outcome → State → Prop} {XC : String → State → State → Prop} {free : Addr → Prop} {Ts : List Cond} {own C : String} {b : Addr} {As rest : List Value} {g : JFrame}
theorem vx_callBack (cb : CallB R s args own index y bytes maxL ret ws rm mc ms n) (hM : vx_Met l y ws rm Pc Qc XC mc ms free) (hbl : FrameBlind Pc) : vx_Back l R p e below s args y 3 8 (PreOf R mc ms Pc) (PostOf Qc mc ms free) (vx_Post XC mc ms free) := by
  obtain ⟨hrc, hrs, hfr, hlo, hws, hcw, -, hini, -⟩ := cb
  exact vx_back (bytes := bytes) (maxL := maxL) (ret := ret) hM hbl hrc hrs hfr hlo hws hcw (fun a' U hW => word_at hW (Or.inl (by first | rfl | simp [Cond.onTables, Cond.keeps, Cond.steady])) hini)
theorem vx_runV (S : CallFix p m c cc nL s args Ts own) (hM : vx_Met l y ws rm Pc Qc XC mc ms free) (cw : CallW R s args own C index y bytes maxL ret ws rm mc ms n) (hp : PreV s H C b Pc As)
    (hg : g.method = m) (hn : As.length = n) (hsize : g.locals.size = nL) (hstack : g.stack = As.reverse ++ .ref b :: rest) (hW : 2 * g.monitorRoom + (rest.map fun v => v.category).sum ≤ 8) (hdg : decode cc g.pc = .ok (.invokevirtual index, 3)) (hf : cells + mc ≤ R.cells ∧ slots + ms ≤ R.slots) :
    vx_Run p l e R s m args below meth c H locs cells slots mc ms g rest (Qc (Value.ref b :: As).toArray) XC free := by
  have hK : vx_Back l R p e below s args y 3 8 (PreOf R mc ms Pc) (PostOf Qc mc ms free) (vx_Post XC mc ms free) := vx_callBack cw.1 hM hp.1
  obtain ⟨⟨-, -, -, -, -, -, hcode, -, hy, hlen, hl⟩, hin, hse⟩ := cw
  obtain ⟨hx, hb, hml, ho, -⟩ := S
  obtain ⟨-, ⟨cellB, hcB, hoB, hclB⟩, hPc⟩ := hp
  intro T hT X
  rcases vx_callV X hx (C := C) (bytes := bytes) (maxL := maxL) (ret := ret) ho hl hin hse hcode hy hK (by rw [hT]; exact hcB) hoB hclB hg (hsize.trans hml.symm) (argsL := As) (rest := rest) (fun sig h => hn.trans (hlen sig h)) hstack hW (by rw [hb]; exact hdg)
    (fun vm₁ hW₁ => ⟨hf.1, hf.2, hPc (T.setVm vm₁) hT hW₁⟩) with ⟨v, vm₁, ⟨U', l2, c2, s2⟩, hW₁, X', ⟨g', mk, t, L, e1, e2, hq, h1, hL, h2, h3⟩, st⟩ | ⟨q, vm₁, ⟨U', l2, c2, s2⟩, hW₁, X', ⟨g', mk, t, L, E, ce, e1, e2, hq, hce, hcv, hcl, h1, hL, h2, h3⟩, st⟩
  · dsimp only [Pt.U, Pt.locs, Pt.cells, Pt.slots] at X' e1 e2 h1 h2 h3 st
    subst h1; subst h2; subst h3
    exact Or.inl ⟨v, (T.setVm vm₁).calling g' mk (Value.ref b :: As).toArray, t, U', L, hT, X', hL, e1, e2, hq, st⟩
  · dsimp only [Pt.U, Pt.locs, Pt.cells, Pt.slots] at X' e1 e2 h1 h2 h3 st hcl
    subst h1; subst h2; subst h3
    exact Or.inr ⟨q, (T.setVm vm₁).calling g' mk (Value.ref b :: As).toArray, t, U', L, E, ce, hT, X', hL, e1, e2, hq, hce, hcv, vx_cls hW₁ hcl, st⟩
theorem vx_runS (S : CallFix p m c cc nL s args Ts own) (hM : vx_Met l y ws rm Pc Qc XC mc ms free) (cw : CallB R s args own index y bytes maxL ret ws rm mc ms n ∧ (Cond.static y).before args s = true) (hp : PreS s H Pc As)
    (hg : g.method = m) (hn : As.length = n) (hsize : g.locals.size = nL) (hstack : g.stack = As.reverse ++ rest) (hW : 2 * g.monitorRoom + (rest.map fun v => v.category).sum ≤ 8) (hdg : decode cc g.pc = .ok (.invokestatic index, 3)) (hf : cells + mc ≤ R.cells ∧ slots + ms ≤ R.slots) :
    vx_Run p l e R s m args below meth c H locs cells slots mc ms g rest (Qc As.toArray) XC free := by
  have hK : vx_Back l R p e below s args y 3 8 (PreOf R mc ms Pc) (PostOf Qc mc ms free) (vx_Post XC mc ms free) := vx_callBack cw.1 hM hp.1
  obtain ⟨⟨-, -, -, -, -, -, hcode, hini, hy, hlen, hl⟩, hstt⟩ := cw
  obtain ⟨hx, hb, hml, ho, -⟩ := S
  intro T hT X
  rcases vx_callS X hx (bytes := bytes) (maxL := maxL) (ret := ret) ho hl hstt hini hcode hy hK hg (hsize.trans hml.symm) (argsL := As) (rest := rest) (fun sig h => hn.trans (hlen sig h)) hstack hW (by rw [hb]; exact hdg)
    (fun vm₁ hW₁ => ⟨hf.1, hf.2, hp.2 (T.setVm vm₁) hT hW₁⟩) with ⟨v, vm₁, ⟨U', l2, c2, s2⟩, hW₁, X', ⟨g', mk, t, L, e1, e2, hq, h1, hL, h2, h3⟩, st⟩ | ⟨q, vm₁, ⟨U', l2, c2, s2⟩, hW₁, X', ⟨g', mk, t, L, E, ce, e1, e2, hq, hce, hcv, hcl, h1, hL, h2, h3⟩, st⟩
  · dsimp only [Pt.U, Pt.locs, Pt.cells, Pt.slots] at X' e1 e2 h1 h2 h3 st
    subst h1; subst h2; subst h3
    exact Or.inl ⟨v, (T.setVm vm₁).calling g' mk As.toArray, t, U', L, hT, X', hL, e1, e2, hq, st⟩
  · dsimp only [Pt.U, Pt.locs, Pt.cells, Pt.slots] at X' e1 e2 h1 h2 h3 st hcl
    subst h1; subst h2; subst h3
    exact Or.inr ⟨q, (T.setVm vm₁).calling g' mk As.toArray, t, U', L, E, ce, hT, X', hL, e1, e2, hq, hce, hcv, vx_cls hW₁ hcl, st⟩
end Runs
section Rows
variable {p : Program} {l : Launch} {e : Env} {R : Room} {s : State} {m : MethodId} {args : Array Value} {below : List Frame} {meth : Method} {c : Code} {H : Heap} {locs : List Loc} {cells slots : Nat} {Q : State → Prop}
variable {mc ms : Nat} {free : Addr → Prop} {A0 A1 : Nat → Prop} {H0 : Heap} {a : Array Value} {pc : Nat} {ls : Array Slot} {st0 rest : List Value}
theorem vx_keep {st₀ t T' : State} {L : List Loc} (h0 : st₀.heap = H) (e1 : T'.heap = t.heap) (hS : va_S A0 H0 H locs) (hA : ∀ q, q < H.size → A1 q → A0 q) (hf : ∀ q, free q → A0 q) (hL : ∀ q ∈ L, free q.base) (hF : va_F A1 st₀ t) :
    H.size ≤ T'.heap.size ∧ (∀ q : Nat, q < H.size → ¬ A1 q → T'.heap[q]? = H[q]?) ∧ va_S A0 H0 T'.heap (locs ++ L) := by
  obtain ⟨hz, hk⟩ := hF
  rw [h0] at hz hk
  exact ⟨by rw [e1]; exact hz, fun q h1 h2 => by rw [e1]; exact hk q h1 h2,
    ⟨Nat.le_trans hS.1 (by rw [e1]; exact hz), fun q h1 h2 => by rw [e1, hk q (Nat.lt_of_lt_of_le h1 hS.1) (fun z => h2 (hA q (Nat.lt_of_lt_of_le h1 hS.1) z))]; exact hS.2.1 q h1 h2, fun q hq => by
      rcases List.mem_append.mp hq with h | h
      · exact hS.2.2 q h
      · exact hf _ (hL q h)⟩⟩
theorem vx_calli {S SX : Type} {post : Int32 → S → Prop} {px : SX → Prop} {B : S → State → Prop} {BX : String → SX → State → Prop} {AX : Nat → Prop} (hr : vx_Run p l e R s m args below meth c H locs cells slots mc ms (F0 m pc ls st0) rest (va_Qi post B A1 a) (vx_X px BX AX) free) (hS : va_S A0 H0 H locs) (hA : ∀ q, q < H.size → A1 q → A0 q) (hf : ∀ q, free q → A0 q) (hAX : ∀ q, q < H.size → AX q → A0 q)
    (kx : ∀ (E : String) (ce : Cell) (q9 : Addr) (u : SX) (t : State) (H1 : Heap) (locs1 : List Loc), t.heap = H1 → s.vm.Alike t.vm → px u → BX E u t → H.size ≤ H1.size → (∀ q : Nat, q < H.size → ¬ AX q → H1[q]? = H[q]?) → va_S A0 H0 H1 locs1 → H1[q9]? = some ce → ce.vm = .none → s.vm.findClass E = some ce.cls → vx_W p l e R s m args below meth c H1 locs1 (cells + mc) (slots + ms) Q (F0 m pc ls rest) q9)
    (kk : ∀ (r : Int32) (u : S) (t : State) (H1 : Heap) (locs1 : List Loc), t.heap = H1 → s.vm.Alike t.vm → post r u → B u t → H.size ≤ H1.size → (∀ q : Nat, q < H.size → ¬ A1 q → H1[q]? = H[q]?) → va_S A0 H0 H1 locs1 → W p l e R s m args below meth c H1 locs1 (cells + mc) (slots + ms) Q (F0 m (pc + 3) ls (.int r :: rest))) : W p l e R s m args below meth c H locs cells slots Q (F0 m pc ls st0) := by
  intro T hT X
  rcases hr T hT X with ⟨v, st₀, t, T', L, h0, X', hL, e1, e2, ⟨⟨r, u, hv, hp, hb⟩, hF⟩, st⟩ | ⟨q, st₀, t, T', L, E, ce, h0, X', hL, e1, e2, ⟨u, hp, hb, hF⟩, hce, hcv, hcl, st⟩
  · cases hv
    obtain ⟨k1, k2, k3⟩ := vx_keep h0 e1 hS hA hf hL hF
    obtain ⟨t2, a1, b1⟩ := kk r u t T'.heap (locs ++ L) e1.symm (by rw [← e2]; exact X'.warmed.alike) hp hb k1 k2 k3 T' rfl X'
    exact ⟨t2, st t2 a1, b1⟩
  · obtain ⟨k1, k2, k3⟩ := vx_keep h0 e1 hS hAX hf hL hF
    obtain ⟨t2, a1, b1⟩ := kx E ce q u t T'.heap (locs ++ L) e1.symm (by rw [← e2]; exact X'.warmed.alike) hp hb k1 k2 k3 (by rw [e1]; exact hce) hcv hcl T' rfl X'
    exact ⟨t2, st.trans a1, b1⟩
theorem vx_calll {S SX : Type} {post : Int64 → S → Prop} {px : SX → Prop} {B : S → State → Prop} {BX : String → SX → State → Prop} {AX : Nat → Prop} (hr : vx_Run p l e R s m args below meth c H locs cells slots mc ms (F0 m pc ls st0) rest (va_Ql post B A1 a) (vx_X px BX AX) free) (hS : va_S A0 H0 H locs) (hA : ∀ q, q < H.size → A1 q → A0 q) (hf : ∀ q, free q → A0 q) (hAX : ∀ q, q < H.size → AX q → A0 q)
    (kx : ∀ (E : String) (ce : Cell) (q9 : Addr) (u : SX) (t : State) (H1 : Heap) (locs1 : List Loc), t.heap = H1 → s.vm.Alike t.vm → px u → BX E u t → H.size ≤ H1.size → (∀ q : Nat, q < H.size → ¬ AX q → H1[q]? = H[q]?) → va_S A0 H0 H1 locs1 → H1[q9]? = some ce → ce.vm = .none → s.vm.findClass E = some ce.cls → vx_W p l e R s m args below meth c H1 locs1 (cells + mc) (slots + ms) Q (F0 m pc ls rest) q9)
    (kk : ∀ (r : Int64) (u : S) (t : State) (H1 : Heap) (locs1 : List Loc), t.heap = H1 → s.vm.Alike t.vm → post r u → B u t → H.size ≤ H1.size → (∀ q : Nat, q < H.size → ¬ A1 q → H1[q]? = H[q]?) → va_S A0 H0 H1 locs1 → W p l e R s m args below meth c H1 locs1 (cells + mc) (slots + ms) Q (F0 m (pc + 3) ls (.long r :: rest))) : W p l e R s m args below meth c H locs cells slots Q (F0 m pc ls st0) := by
  intro T hT X
  rcases hr T hT X with ⟨v, st₀, t, T', L, h0, X', hL, e1, e2, ⟨⟨r, u, hv, hp, hb⟩, hF⟩, st⟩ | ⟨q, st₀, t, T', L, E, ce, h0, X', hL, e1, e2, ⟨u, hp, hb, hF⟩, hce, hcv, hcl, st⟩
  · cases hv
    obtain ⟨k1, k2, k3⟩ := vx_keep h0 e1 hS hA hf hL hF
    obtain ⟨t2, a1, b1⟩ := kk r u t T'.heap (locs ++ L) e1.symm (by rw [← e2]; exact X'.warmed.alike) hp hb k1 k2 k3 T' rfl X'
    exact ⟨t2, st t2 a1, b1⟩
  · obtain ⟨k1, k2, k3⟩ := vx_keep h0 e1 hS hAX hf hL hF
    obtain ⟨t2, a1, b1⟩ := kx E ce q u t T'.heap (locs ++ L) e1.symm (by rw [← e2]; exact X'.warmed.alike) hp hb k1 k2 k3 (by rw [e1]; exact hce) hcv hcl T' rfl X'
    exact ⟨t2, st.trans a1, b1⟩
theorem vx_callf {S SX : Type} {post : UInt32 → S → Prop} {px : SX → Prop} {B : S → State → Prop} {BX : String → SX → State → Prop} {AX : Nat → Prop} (hr : vx_Run p l e R s m args below meth c H locs cells slots mc ms (F0 m pc ls st0) rest (va_Qf post B A1 a) (vx_X px BX AX) free) (hS : va_S A0 H0 H locs) (hA : ∀ q, q < H.size → A1 q → A0 q) (hf : ∀ q, free q → A0 q) (hAX : ∀ q, q < H.size → AX q → A0 q)
    (kx : ∀ (E : String) (ce : Cell) (q9 : Addr) (u : SX) (t : State) (H1 : Heap) (locs1 : List Loc), t.heap = H1 → s.vm.Alike t.vm → px u → BX E u t → H.size ≤ H1.size → (∀ q : Nat, q < H.size → ¬ AX q → H1[q]? = H[q]?) → va_S A0 H0 H1 locs1 → H1[q9]? = some ce → ce.vm = .none → s.vm.findClass E = some ce.cls → vx_W p l e R s m args below meth c H1 locs1 (cells + mc) (slots + ms) Q (F0 m pc ls rest) q9)
    (kk : ∀ (r : UInt32) (u : S) (t : State) (H1 : Heap) (locs1 : List Loc), t.heap = H1 → s.vm.Alike t.vm → post r u → B u t → H.size ≤ H1.size → (∀ q : Nat, q < H.size → ¬ A1 q → H1[q]? = H[q]?) → va_S A0 H0 H1 locs1 → W p l e R s m args below meth c H1 locs1 (cells + mc) (slots + ms) Q (F0 m (pc + 3) ls (.float r :: rest))) : W p l e R s m args below meth c H locs cells slots Q (F0 m pc ls st0) := by
  intro T hT X
  rcases hr T hT X with ⟨v, st₀, t, T', L, h0, X', hL, e1, e2, ⟨⟨r, u, hv, hp, hb⟩, hF⟩, st⟩ | ⟨q, st₀, t, T', L, E, ce, h0, X', hL, e1, e2, ⟨u, hp, hb, hF⟩, hce, hcv, hcl, st⟩
  · cases hv
    obtain ⟨k1, k2, k3⟩ := vx_keep h0 e1 hS hA hf hL hF
    obtain ⟨t2, a1, b1⟩ := kk r u t T'.heap (locs ++ L) e1.symm (by rw [← e2]; exact X'.warmed.alike) hp hb k1 k2 k3 T' rfl X'
    exact ⟨t2, st t2 a1, b1⟩
  · obtain ⟨k1, k2, k3⟩ := vx_keep h0 e1 hS hAX hf hL hF
    obtain ⟨t2, a1, b1⟩ := kx E ce q u t T'.heap (locs ++ L) e1.symm (by rw [← e2]; exact X'.warmed.alike) hp hb k1 k2 k3 (by rw [e1]; exact hce) hcv hcl T' rfl X'
    exact ⟨t2, st.trans a1, b1⟩
theorem vx_calld {S SX : Type} {post : UInt64 → S → Prop} {px : SX → Prop} {B : S → State → Prop} {BX : String → SX → State → Prop} {AX : Nat → Prop} (hr : vx_Run p l e R s m args below meth c H locs cells slots mc ms (F0 m pc ls st0) rest (va_Qd post B A1 a) (vx_X px BX AX) free) (hS : va_S A0 H0 H locs) (hA : ∀ q, q < H.size → A1 q → A0 q) (hf : ∀ q, free q → A0 q) (hAX : ∀ q, q < H.size → AX q → A0 q)
    (kx : ∀ (E : String) (ce : Cell) (q9 : Addr) (u : SX) (t : State) (H1 : Heap) (locs1 : List Loc), t.heap = H1 → s.vm.Alike t.vm → px u → BX E u t → H.size ≤ H1.size → (∀ q : Nat, q < H.size → ¬ AX q → H1[q]? = H[q]?) → va_S A0 H0 H1 locs1 → H1[q9]? = some ce → ce.vm = .none → s.vm.findClass E = some ce.cls → vx_W p l e R s m args below meth c H1 locs1 (cells + mc) (slots + ms) Q (F0 m pc ls rest) q9)
    (kk : ∀ (r : UInt64) (u : S) (t : State) (H1 : Heap) (locs1 : List Loc), t.heap = H1 → s.vm.Alike t.vm → post r u → B u t → H.size ≤ H1.size → (∀ q : Nat, q < H.size → ¬ A1 q → H1[q]? = H[q]?) → va_S A0 H0 H1 locs1 → W p l e R s m args below meth c H1 locs1 (cells + mc) (slots + ms) Q (F0 m (pc + 3) ls (.double r :: rest))) : W p l e R s m args below meth c H locs cells slots Q (F0 m pc ls st0) := by
  intro T hT X
  rcases hr T hT X with ⟨v, st₀, t, T', L, h0, X', hL, e1, e2, ⟨⟨r, u, hv, hp, hb⟩, hF⟩, st⟩ | ⟨q, st₀, t, T', L, E, ce, h0, X', hL, e1, e2, ⟨u, hp, hb, hF⟩, hce, hcv, hcl, st⟩
  · cases hv
    obtain ⟨k1, k2, k3⟩ := vx_keep h0 e1 hS hA hf hL hF
    obtain ⟨t2, a1, b1⟩ := kk r u t T'.heap (locs ++ L) e1.symm (by rw [← e2]; exact X'.warmed.alike) hp hb k1 k2 k3 T' rfl X'
    exact ⟨t2, st t2 a1, b1⟩
  · obtain ⟨k1, k2, k3⟩ := vx_keep h0 e1 hS hAX hf hL hF
    obtain ⟨t2, a1, b1⟩ := kx E ce q u t T'.heap (locs ++ L) e1.symm (by rw [← e2]; exact X'.warmed.alike) hp hb k1 k2 k3 (by rw [e1]; exact hce) hcv hcl T' rfl X'
    exact ⟨t2, st.trans a1, b1⟩
theorem vx_callv {S SX : Type} {post : S → Prop} {px : SX → Prop} {B : S → State → Prop} {BX : String → SX → State → Prop} {AX : Nat → Prop} (hr : vx_Run p l e R s m args below meth c H locs cells slots mc ms (F0 m pc ls st0) rest (va_Qv post B A1 a) (vx_X px BX AX) free) (hS : va_S A0 H0 H locs) (hA : ∀ q, q < H.size → A1 q → A0 q) (hf : ∀ q, free q → A0 q) (hAX : ∀ q, q < H.size → AX q → A0 q)
    (kx : ∀ (E : String) (ce : Cell) (q9 : Addr) (u : SX) (t : State) (H1 : Heap) (locs1 : List Loc), t.heap = H1 → s.vm.Alike t.vm → px u → BX E u t → H.size ≤ H1.size → (∀ q : Nat, q < H.size → ¬ AX q → H1[q]? = H[q]?) → va_S A0 H0 H1 locs1 → H1[q9]? = some ce → ce.vm = .none → s.vm.findClass E = some ce.cls → vx_W p l e R s m args below meth c H1 locs1 (cells + mc) (slots + ms) Q (F0 m pc ls rest) q9)
    (kk : ∀ (u : S) (t : State) (H1 : Heap) (locs1 : List Loc), t.heap = H1 → s.vm.Alike t.vm → post u → B u t → H.size ≤ H1.size → (∀ q : Nat, q < H.size → ¬ A1 q → H1[q]? = H[q]?) → va_S A0 H0 H1 locs1 → W p l e R s m args below meth c H1 locs1 (cells + mc) (slots + ms) Q (F0 m (pc + 3) ls (rest))) : W p l e R s m args below meth c H locs cells slots Q (F0 m pc ls st0) := by
  intro T hT X
  rcases hr T hT X with ⟨v, st₀, t, T', L, h0, X', hL, e1, e2, ⟨⟨u, hv, hp, hb⟩, hF⟩, st⟩ | ⟨q, st₀, t, T', L, E, ce, h0, X', hL, e1, e2, ⟨u, hp, hb, hF⟩, hce, hcv, hcl, st⟩
  · cases hv
    obtain ⟨k1, k2, k3⟩ := vx_keep h0 e1 hS hA hf hL hF
    obtain ⟨t2, a1, b1⟩ := kk u t T'.heap (locs ++ L) e1.symm (by rw [← e2]; exact X'.warmed.alike) hp hb k1 k2 k3 T' rfl X'
    exact ⟨t2, st t2 a1, b1⟩
  · obtain ⟨k1, k2, k3⟩ := vx_keep h0 e1 hS hAX hf hL hF
    obtain ⟨t2, a1, b1⟩ := kx E ce q u t T'.heap (locs ++ L) e1.symm (by rw [← e2]; exact X'.warmed.alike) hp hb k1 k2 k3 (by rw [e1]; exact hce) hcv hcl T' rfl X'
    exact ⟨t2, st.trans a1, b1⟩
/-- caught by the row x of this method's table; the rows ahead don't take it -/
theorem vx_catch {own name : String} {E : String} {ce : Cell} {q : Addr} (hown : s.vm.findClass own = some m.cls) (pre : List ExceptionTableEntry) (x : ExceptionTableEntry) (suf : List ExceptionTableEntry) (hsplit : c.exceptionTable.toList = pre ++ x :: suf)
    (hpass : ∀ z ∈ pre, covers z pc = false ∨ (z.catchType ≠ 0 ∧ ∃ nm : String, (Cond.classLink own z.catchType nm).before args s = true ∧ va_Nc E nm s)) (hx : covers x pc = true) (h0 : x.catchType ≠ 0)
    (hlink : (Cond.classLink own x.catchType name).before args s = true) (hcast : (Cond.castable E name).before args s = true) (hcell : H[q]? = some ce) (hv : ce.vm = .none) (hcl : s.vm.findClass E = some ce.cls)
    (kk : W p l e R s m args below meth c H locs cells slots Q (F0 m x.handlerPc ls [.ref q])) : vx_W p l e R s m args below meth c H locs cells slots Q (F0 m pc ls rest) q := by
  intro T hT X
  have hpl : e.platform.magicAccessors = ({} : Platform).magicAccessors := by rw [X.admits.platform]
  obtain ⟨c3, c4, hc3, hc4, hasg⟩ := Cond.castable_spec hcast
  cases Option.some.inj (hc3.symm.trans hcl)
  obtain ⟨c5, hc5, hcl5⟩ := Cond.classLink_spec hown hlink e.platform hpl
  cases Option.some.inj (hc4.symm.trans hc5)
  obtain ⟨vm', X', st⟩ := X.thenCaughtThrough q (g := F0 m pc ls rest) rfl (Steps.refl _) (by rw [hT]; exact hcell) (by rw [hv]; rfl) (by obtain ⟨k9, h9, -⟩ := Vm.findClass_spec hcl; exact ⟨k9, h9⟩) pre x suf hsplit
    (fun z hz => by
      rcases hpass z hz with h | ⟨hz0, nm, hl1, hn1⟩
      · exact Or.inl h
      · obtain ⟨c6, hc6, hcl6⟩ := Cond.classLink_spec hown hl1 e.platform hpl
        obtain ⟨a8, b8, h1, h2, h3⟩ := hn1
        cases Option.some.inj (h1.symm.trans hcl)
        cases Option.some.inj (h2.symm.trans hc6)
        exact Or.inr ⟨hz0, _, hcl6, h3⟩) hx (Or.inr ⟨h0, c4, hcl5, hasg⟩)
  obtain ⟨t, a1, b1⟩ := kk (T.setVm vm') hT X'
  exact ⟨t, st.trans a1, b1⟩
end Rows
section Ends
variable {p : Program} {l : Launch} {e : Env} {R : Room} {s : State} {m : MethodId} {args : Array Value} {below : List Frame} {meth : Method} {c : Code} {H : Heap} {locs : List Loc} {cells slots : Nat} {Q : State → Prop}
variable {mc ms : Nat} {free : Addr → Prop} {A0 A1 : Nat → Prop} {H0 : Heap} {a : Array Value} {ls : Array Slot} {st0 rest : List Value}
variable {Qc : Array Value → State → Outcome → State → Prop} {XC : String → State → State → Prop}
/-- what a body that may throw owes at its end -/
def vx_MQ (below : List Frame) (Qc : Array Value → State → Outcome → State → Prop) (XC : String → State → State → Prop) (a : Array Value) (s : State) (mc ms : Nat) (free : Addr → Prop) : State → Prop := fun t =>
  ∃ o, t.status = .running ∧ Ended t below o ∧ vx_Q Qc XC mc ms free a s o t
theorem vx_ret {g : JFrame} {mc ms : Nat} (k : W p l e R s m args below meth c H locs cells slots (MQ below Qc args s mc ms free) g) : W p l e R s m args below meth c H locs cells slots (vx_MQ below Qc XC args s mc ms free) g := by
  intro T hT X
  obtain ⟨t, a1, o, b1, b2, b3, b4⟩ := k T hT X
  exact ⟨t, a1, o, b1, b2, Or.inl ⟨b3, b4⟩⟩
/-- not caught here: it goes on to the caller -/
theorem vx_widen {g : JFrame} {q : Addr} {k n : Nat} (h1 : cells ≤ k) (h2 : slots ≤ n) (kk : vx_W p l e R s m args below meth c H locs k n Q g q) : vx_W p l e R s m args below meth c H locs cells slots Q g q := fun T hT X => kk T hT (stand_widen X h1 h2)
theorem vx_out {pc : Nat} {E : String} {ce : Cell} {q : Addr} {mc ms : Nat} (hout : ∀ x ∈ c.exceptionTable.toList, covers x pc = false) (hlocks : meth.locks = false) (hcell : H[q]? = some ce) (hv : ce.vm = .none) (hcl : s.vm.findClass E = some ce.cls)
    (hx : ∀ t : State, t.heap = H → s.vm.Alike t.vm → XC E s t) (hf : ∀ z ∈ locs, free z.base) (hc : cells ≤ mc) (hs : slots ≤ ms) :
    vx_W p l e R s m args below meth c H locs cells slots (vx_MQ below Qc XC args s mc ms free) (F0 m pc ls rest) q := by
  intro T hT X
  obtain ⟨st1, hrun, hend, hW, hsm⟩ := X.leaveThrown q (g := F0 m pc ls rest) rfl rfl rfl hout hlocks
  have hcell9 : (T.setFrames (.throwing q :: below)).heap[q]? = some ce := by
    show T.heap[q]? = some ce
    rw [hT]; exact hcell
  exact ⟨_, st1, .threw q, hrun, hend, Or.inr ⟨q, rfl, E, ce, locs, hx _ hT hW.alike, hcell9, hv, hcl, hW, hsm.mono hc hs, hf⟩⟩
theorem vx_frame {U : State} {k n : Nat} (h : s.sameButNew ({ U with vm := s.vm } : State) locs k n) : s.heap.size ≤ U.heap.size ∧ ∀ q : Nat, q < s.heap.size → (∀ z ∈ locs, z.base ≠ q) → U.heap[q]? = s.heap[q]? := by
  obtain ⟨-, h2, -, -, -, h6⟩ := h
  refine ⟨h2, fun q hq hz => ?_⟩
  obtain ⟨c9, e1, e2, e3, e4⟩ := h6 q _ (Array.getElem?_eq_getElem hq)
  have hs : c9.slots = (s.heap[q]).slots := Array.ext_getElem? fun i => e4 i fun hm => hz _ hm rfl
  have h9 : c9 = s.heap[q] := by
    rw [hs] at e2
    exact e2
  have e5 : U.heap[q]? = some c9 := e1
  rw [e5, h9, Array.getElem?_eq_getElem hq]
/-- the words of a throw but the four that speak of the heap -/
def vx_no (w : Cond) : Bool := decide (w ≠ .isRef (.static Bundle.tN "UNASSIGNED_STACK" Bundle.steD)) && decide (w ≠ .isRef (.static Bundle.tN "SUPPRESSED_SENTINEL" Bundle.listD)) && decide (w ≠ .laysStatic Bundle.tN "UNASSIGNED_STACK" Bundle.steD) && decide (w ≠ .laysStatic Bundle.tN "SUPPRESSED_SENTINEL" Bundle.listD)
def vx_at0 (own : String) (ic : Nat) (X : String) (names : List String) : List Cond := (Bundle.ownAtoms0 own ic X names).filter vx_no
def vx_atS (own : String) (ic : Nat) (X : String) (names : List String) : List Cond := (Bundle.ownAtoms own ic X names).filter vx_no
/-- a word that the tables alone decide, or a good one -/
def vx_ot (w : Cond) : Bool := w.onTables || goodWord w
theorem vx_ot_at {args a' : Array Value} {s U : State} {w : Cond} (hW : s.WarmedH U.vm) (hvm : s.vm = U.vm) (hg : vx_ot w = true) (h : w.before args s = true) : w.before a' U = true := by
  simp only [vx_ot, Bool.or_eq_true] at hg
  rcases hg with hg | hg
  · exact va_tabs hg hvm h
  · exact word_at hW (good_of_word hg) h
/-- a list's words: the good ones out of the method's own list, the others by premises of their own -/
theorem vx_hat {args : Array Value} {s : State} {L B : List Cond} (h1 : ∀ w ∈ L.filter goodWord, w.before args s = true) (h2 : ∀ w ∈ L.filter (fun w => !goodWord w), w ∈ B) (h3 : ∀ w ∈ B, w.before args s = true) : ∀ w ∈ L, w.before args s = true := by
  intro w hw
  by_cases g : goodWord w = true
  · exact h1 w (List.mem_filter.mpr ⟨hw, g⟩)
  · refine h3 w (h2 w (List.mem_filter.mpr ⟨hw, ?_⟩))
    show (!goodWord w) = true
    cases hgw : goodWord w
    · rfl
    · exact absurd hgw g
theorem vx_c {args : Array Value} {s : State} {w : Cond} {B : List Cond} (h : w.before args s = true) (t : ∀ w ∈ B, w.before args s = true) : ∀ w' ∈ w :: B, w'.before args s = true := fun w' h' => (List.mem_cons.mp h').elim (fun e => by rw [e]; exact h) (t w')
theorem vx_n {args : Array Value} {s : State} : ∀ w ∈ ([] : List Cond), w.before args s = true := fun _ h => nomatch h
theorem vx_own {args : Array Value} {s : State} {L : List Cond} (h1 : ∀ w ∈ L.filter vx_no, w.before args s = true)
    (hU : (Cond.isRef (.static Bundle.tN "UNASSIGNED_STACK" Bundle.steD)).before args s = true) (hN : (Cond.isRef (.static Bundle.tN "SUPPRESSED_SENTINEL" Bundle.listD)).before args s = true)
    (lU : (Cond.laysStatic Bundle.tN "UNASSIGNED_STACK" Bundle.steD).before args s = true) (lN : (Cond.laysStatic Bundle.tN "SUPPRESSED_SENTINEL" Bundle.listD).before args s = true) : ∀ w ∈ L, w.before args s = true := by
  intro w hw
  by_cases e1 : w = .isRef (.static Bundle.tN "UNASSIGNED_STACK" Bundle.steD)
  · rw [e1]; exact hU
  · by_cases e2 : w = .isRef (.static Bundle.tN "SUPPRESSED_SENTINEL" Bundle.listD)
    · rw [e2]; exact hN
    · by_cases e3 : w = .laysStatic Bundle.tN "UNASSIGNED_STACK" Bundle.steD
      · rw [e3]; exact lU
      · by_cases e4 : w = .laysStatic Bundle.tN "SUPPRESSED_SENTINEL" Bundle.listD
        · rw [e4]; exact lN
        · exact h1 w (List.mem_filter.mpr ⟨hw, by unfold vx_no; rw [decide_eq_true e1, decide_eq_true e2, decide_eq_true e3, decide_eq_true e4]; rfl⟩)
/-- where a static field lies, its class's statics cell in H -/
def vx_L (C n d : String) (A : Nat → Prop) (U : State) (H : Heap) : Prop := ∃ (c : ClassId) (k : Class) (i : Nat) (f : Field) (a : Nat) (cell : Cell), U.vm.findClass C = some c ∧ U.fieldFound? C n d = some (c, k, i, f) ∧ f.isStatic = true ∧ k.statics = some a ∧ H[a]? = some cell ∧ cell.vm.isStatics = true ∧ cell.cls = c ∧ f.slot < cell.slots.size ∧ k.staticTypes[f.slot]? = some f.type ∧ ¬ A a
theorem vx_L.moved {C n d : String} {A : Nat → Prop} {u U : State} {H : Heap} (hvm : u.vm.Alike U.vm) (h : vx_L C n d A u H) : vx_L C n d A U H := by
  obtain ⟨c, k, i, f, a, cell, h1, h2, h3, h4, h5, h6, h7, h8, h9, h10⟩ := h
  obtain ⟨k', hi', he⟩ := State.fieldFound?_setVm hvm h2
  exact ⟨c, k', i, f, a, cell, by rw [hvm.findClass]; exact h1, hi', h3, by rw [he]; exact h4, h5, h6, h7, h8, by rw [he]; exact h9, h10⟩
theorem vx_L.kept {C n d : String} {A : Nat → Prop} {U : State} {H H1 : Heap} (h : vx_L C n d A U H) (hq : ∀ a : Nat, a < H.size → ¬ A a → H1[a]? = H[a]?) : vx_L C n d A U H1 := by
  obtain ⟨c, k, i, f, a, cell, h1, h2, h3, h4, h5, h6, h7, h8, h9, h10⟩ := h
  exact ⟨c, k, i, f, a, cell, h1, h2, h3, h4, by rw [hq a (Array.getElem?_eq_some_iff.mp h5).1 h10]; exact h5, h6, h7, h8, h9, h10⟩
theorem vx_L.narrow {C n d : String} {A B : Nat → Prop} {U : State} {H : Heap} (h : vx_L C n d A U H) (hAB : ∀ q, B q → A q) : vx_L C n d B U H := by
  obtain ⟨c, k, i, f, a, cell, h1, h2, h3, h4, h5, h6, h7, h8, h9, h10⟩ := h
  exact ⟨c, k, i, f, a, cell, h1, h2, h3, h4, h5, h6, h7, h8, h9, fun z => h10 (hAB _ z)⟩
theorem vx_L.word {C n d : String} {A : Nat → Prop} {s : State} {args : Array Value} (h : vx_L C n d A s s.heap) : (Cond.laysStatic C n d).before args s = true := by
  obtain ⟨c, k, i, f, a, cell, h1, h2, h3, h4, h5, h6, h7, h8, h9, -⟩ := h
  show (Cond.laysStatic C n d).holds args s none s [] = true
  exact Cond.laysStatic_of h1 h2 h3 h4 h5 h6 h7 h8 h9
/-- .. and what it holds: null or some reference -/
def vx_Zq (C n d : String) (A : Nat → Prop) (U : State) (H : Heap) : Prop := va_Zq C n d A U H ∧ vx_L C n d A U H
theorem vx_Zq.moved {C n d : String} {A : Nat → Prop} {u U : State} {H : Heap} (hvm : u.vm.Alike U.vm) (h : vx_Zq C n d A u H) : vx_Zq C n d A U H := ⟨va_Zq.moved hvm h.1, vx_L.moved hvm h.2⟩
theorem vx_Zq.kept {C n d : String} {A : Nat → Prop} {U : State} {H H1 : Heap} (h : vx_Zq C n d A U H) (hq : ∀ a : Nat, a < H.size → ¬ A a → H1[a]? = H[a]?) : vx_Zq C n d A U H1 := ⟨va_Zq.kept h.1 hq, vx_L.kept h.2 hq⟩
theorem vx_Zq.narrow {C n d : String} {A B : Nat → Prop} {U : State} {H : Heap} (h : vx_Zq C n d A U H) (hAB : ∀ q, B q → A q) : vx_Zq C n d B U H := ⟨va_Zq.narrow h.1 hAB, vx_L.narrow h.2 hAB⟩
theorem vx_Zqof {args : Array Value} {s : State} {C n d : String} {A : Nat → Prop} (hl : (Cond.laysStatic C n d).before args s = true) (hini : (Cond.initialized C).before args s = true) (h : (Cond.isRef (.static C n d)).before args s = true) (hA : ∀ a : Nat, a < s.heap.size → ¬ A a) : vx_Zq C n d A s s.heap := by
  refine ⟨va_Zqof hl hini h hA, ?_⟩
  obtain ⟨c, k, i, f, a, cell, h1, h2, h3, h4, h5, h6, h7, h8, h9⟩ := Cond.laysStatic_spec hl
  exact ⟨c, k, i, f, a, cell, h1, h2, h3, h4, h5, h6, h7, h8, h9, hA a (Array.getElem?_eq_some_iff.mp h5).1⟩
theorem vx_isRef {C n d : String} {v : Value} {A : Nat → Prop} {s : State} {args : Array Value} (h : va_Z C n d v A s s.heap) (hv : v.isRef = true) : (Cond.isRef (.static C n d)).before args s = true := by
  obtain ⟨cf, kf, fi, f, a, cell, h1, h2, h3, h4, h5, h6, h7, -⟩ := h
  have he : (Term.static C n d).eval args s none [] s = some v := by
    simp [Term.eval, State.fieldNamed?, h1, h2, h4, h5, h6, h7]
  simp only [Cond.before, Cond.holds, Cond.value, he]
  cases v <;> simp_all [Value.isRef]
theorem vx_isRefq {C n d : String} {A : Nat → Prop} {s : State} {args : Array Value} (h : va_Zq C n d A s s.heap) : (Cond.isRef (.static C n d)).before args s = true := by
  rcases h with h | ⟨t, h⟩
  · exact vx_isRef h rfl
  · exact vx_isRef h rfl
/-- the same frame, seen from here: as if the method were called anew in this heap -/
theorem vx_rebase {T : State} (X : Stand p l e R s m args below meth c T locs cells slots) {R' : Room} (hf : R'.frames ≤ R.frames) (hl : R'.locals ≤ R.locals) (hc : cells + R'.cells ≤ R.cells) (hs : slots + R'.slots ≤ R.slots) :
    Stand p l e R' ((T.setVm s.vm).setFrames (.invoking m args :: below)) m args below meth c T [] 0 0 := by
  have htop : (T.setVm s.vm).topJava?.isSome := X.here.top
  have hF : ((T.setVm s.vm).setFrames (.invoking m args :: below)).frames = .invoking m args :: below := State.frames_setFrames _ (State.cur_lt_of_top htop)
  obtain ⟨g₀, hg0⟩ := Option.isSome_iff_exists.mp htop
  obtain ⟨r, hr⟩ := State.topJava?_eq_some.mp hg0
  have hl9 : e.platform.stackLimits (T.setVm s.vm).me = e.platform.stackLimits s.me := X.limits
  have hb9 : (T.setVm s.vm).me.stackBytes = s.me.stackBytes := X.bytes
  refine ⟨X.admits, X.cas, X.clock, hF, ?_, X.hears, X.method, X.code, X.here, X.tail, X.warmed, ?_, ?_, ?_⟩
  · have h := X.room
    have hU : ((T.setVm s.vm).setFrames (.invoking m args :: below)).localsInUse = s.localsInUse := by
      rw [State.localsInUse_invoking hF (meth := meth) (c := c) X.method X.code, State.localsInUse_invoking X.frames X.method X.code]
    simp only [State.hasRoom, Bool.and_eq_true, decide_eq_true_eq] at h ⊢
    obtain ⟨⟨⟨⟨h1, h2, h3, h4, h5, h6⟩, h7⟩, h8⟩, h9⟩ := h
    rw [X.frames, List.length_cons] at h2 h3
    have q1 := X.heapSize
    have q2 := X.used
    simp only [hF, hU, List.length_cons, State.stackLimits_setFrames, State.stackBytes_setFrames, hl9, hb9]
    refine ⟨⟨⟨⟨by omega, by omega, by omega, by omega, by omega, h6⟩, ?_⟩, ?_⟩, X.book⟩
    · show T.heap.size + R'.cells ≤ e.platform.maxCells
      omega
    · show T.slotsUsed + R'.slots ≤ e.platform.maxSlots
      omega
  · rw [State.stackLimits_setFrames]; rfl
  · rw [State.stackBytes_setFrames]; rfl
  · refine ⟨?_, Nat.le_refl _, Nat.le_refl _, ?_, ?_, fun a c9 h9 => ⟨c9, h9, rfl, rfl, fun _ _ => rfl⟩⟩
    · obtain ⟨t, ht, -⟩ := State.frames_cons hr
      show T.setVm s.vm = { ((T.setVm s.vm).setFrames (.invoking m args :: below)).setFrames (T.setVm s.vm).frames with heap := T.heap, slotsUsed := T.slotsUsed }
      rw [State.setFrames_setFrames, State.setFrames_self ht]
      rfl
    · show T.slotsUsed = T.slotsUsed + ((T.heap.toList.drop T.heap.size).map (·.slots.size)).sum
      rw [List.drop_eq_nil_of_le (Nat.le_of_eq Array.length_toList)]
      rfl
    · show ((T.heap.toList.drop T.heap.size).map (·.slots.size)).sum ≤ 0
      rw [List.drop_eq_nil_of_le (Nat.le_of_eq Array.length_toList)]
      exact Nat.le_refl _
/-- 'throw new E()': new; dup; invokespecial; athrow -/
theorem vx_throw0 {cc : ByteArray} {pc : Nat} (hexec : p.tables.exec = Jvm.exec) (hb : c.code = cc) (hl : l.stackTraces = false) {own cls : String} {names : List String} {ik ic mc ms : Nat} {A : Nat → Prop}
    (hown : s.vm.findClass own = some m.cls) (hcls : Bundle.fit cls = true) (hnames : ∀ n ∈ names, Bundle.fit n = true)
    (hk : (Cond.classLink own ik cls).before args s = true) (hini : (Cond.initialized cls).before args s = true) (hat : ∀ w ∈ vx_at0 own ic cls names, w.before args s = true)
    (hgood : ∀ w ∈ Cond.classLink own ik cls :: Cond.initialized cls :: vx_at0 own ic cls names, vx_ot w = true)
    (hU : vx_Zq Bundle.tN "UNASSIGNED_STACK" Bundle.steD A s s.heap) (hN : vx_Zq Bundle.tN "SUPPRESSED_SENTINEL" Bundle.listD A s s.heap) (hS : va_S A s.heap H locs) (hsize : ls.size = c.maxLocals)
    (d0 : decode cc pc = .ok (.new ik, 3)) (d3 : decode cc (pc + 3) = .ok (.dup, 1)) (d4 : decode cc (pc + 4) = .ok (.invokespecial ic, 3)) (d7 : decode cc (pc + 7) = .ok (.athrow, 1))
    (hout : ∀ x ∈ c.exceptionTable.toList, covers x (pc + 7) = false)
    (hRframes : names.length + 3 < R.frames) (hRlocals : (rest.map fun v => v.category).sum + (13 * (names.length + 1) + 42) ≤ R.locals) (hRcells : cells + 1 ≤ R.cells) (hRslots : slots + 6 ≤ R.slots) (hlocks : meth.locks = false)
    (hx : ∀ t : State, s.vm.Alike t.vm → H.size ≤ t.heap.size → (∀ q : Nat, q < H.size → t.heap[q]? = H[q]?) → XC cls s t)
    (hf : ∀ z ∈ locs, free z.base) (hc : cells + 1 ≤ mc) (hs : slots + 6 ≤ ms) :
    W p l e R s m args below meth c H locs cells slots (vx_MQ below Qc XC args s mc ms free) (F0 m pc ls rest) := by
  intro T hT X
  have htr : e.platform.stackTraces = false := (show e.platform.stackTraces = l.stackTraces by rw [X.admits.platform]).trans hl
  have Y := vx_rebase X (R' := { frames := R.frames, locals := R.locals, cells := 1, slots := 6 }) (Nat.le_refl _) (Nat.le_refl _) hRcells hRslots
  obtain ⟨s', hA⟩ : ∃ z, z = (T.setVm s.vm).setFrames (.invoking m args :: below) := ⟨_, rfl⟩
  rw [← hA] at Y
  have hvm : s'.vm = s.vm := by rw [hA]; rfl
  have hhp : s'.heap = H := by rw [hA]; exact hT
  have hW0 : s.WarmedH s'.vm := by rw [hvm]; exact State.WarmedH.refl s
  have hat' : ∀ w ∈ vx_at0 own ic cls names, w.before args s' = true := fun w hw => vx_ot_at hW0 hvm.symm (hgood w (List.mem_cons_of_mem _ (List.mem_cons_of_mem _ hw))) (hat w hw)
  have hk' : (Cond.classLink own ik cls).before args s' = true := vx_ot_at hW0 hvm.symm (hgood _ List.mem_cons_self) hk
  have hini' : (Cond.initialized cls).before args s' = true := vx_ot_at hW0 hvm.symm (hgood _ (List.mem_cons_of_mem _ List.mem_cons_self)) hini
  have hU' : vx_Zq Bundle.tN "UNASSIGNED_STACK" Bundle.steD A s' s'.heap := by rw [hhp]; exact vx_Zq.moved hW0.alike (hU.kept hS.2.1)
  have hN' : vx_Zq Bundle.tN "SUPPRESSED_SENTINEL" Bundle.listD A s' s'.heap := by rw [hhp]; exact vx_Zq.moved hW0.alike (hN.kept hS.2.1)
  have h : ∀ w ∈ Bundle.ownAtoms0 own ic cls names, w.before args s' = true := vx_own hat' (vx_isRefq hU'.1) (vx_isRefq hN'.1) hU'.2.word hN'.2.word
  have hown' : s'.vm.findClass own = some m.cls := by rw [hvm]; exact hown
  have hins : (Cond.instantiable cls 6).before args s' = true := h _ (by simp [Bundle.ownAtoms0])
  obtain ⟨vm₁, cX, kX, hfX, hkX, -, -, X₁, st1⟩ := Y.newCold hexec (own := own) (C := cls) (index := ik) (n := 6) hown' hk' hins hini'
    (g := F0 m pc ls rest) rfl (by rw [hb]; exact d0) (Nat.le_refl _) (Nat.le_refl _)
  generalize hT1 : (T.setVm vm₁).pushCell { cls := cX, slots := kX.instanceTypes.map defaultValue, vm := .none } = T1 at X₁ st1
  have hcat : (Value.ref T.heap.size).category = 1 := rfl
  have hcellA : T1.heap[T.heap.size]? = some (freshCell cX kX) := by rw [← hT1]; exact State.heap_pushCell_size _ _
  have d3' : decode c.code (pc + 3) = .ok (.dup, 1) := by rw [hb]; exact d3
  obtain ⟨U, hsteps, hrun, hend, hW, hsame, ce, hce, hO⟩ := X₁.ctorThrow0 hexec htr (own := own) (cls := cls) (names := names) (ic := ic) hown' hcls hnames h (fun x hx => nomatch hx) hfX hkX hcellA (by rw [hhp, hT]; exact Nat.le_refl _)
    (g := { method := m, pc := pc + 4, locals := ls, stack := .ref T.heap.size :: .ref T.heap.size :: rest, locked := none }) rfl hsize rfl rfl (rest := rest) rfl
    (by rw [hb]; exact d4) (by rw [hb]; exact d7) hout hRframes (by simp only [List.map_cons, List.sum_cons, hcat]; omega) hlocks
  obtain ⟨f1, f2⟩ := vx_frame hsame
  rw [hhp] at f1 f2
  have hWs : s.WarmedH U.vm := State.WarmedH.trans hW0 hW
  have hcl : s.vm.findClass cls = some ce.cls := by
    have h9 := hO.cls
    rw [hvm] at h9
    exact h9
  have hall : s.sameButNew ({ U with vm := s.vm } : State) locs mc ms := by
    subst hA
    obtain ⟨e1, e2⟩ := hsame
    rw [State.setFrames_setFrames] at e1
    have h2 : (T.setVm s.vm).sameButNew ({ U with vm := s.vm } : State) [] (0 + 1) (0 + 6) := ⟨e1, e2⟩
    have h3 := X.same.trans h2
    rw [List.append_nil] at h3
    exact h3.mono hc hs
  refine ⟨U, ?_, .threw T.heap.size, hrun, hend, Or.inr ⟨T.heap.size, rfl, cls, ce, locs, hx U hWs.alike f1 (fun q hq => f2 q hq (fun z hz => nomatch hz)), hce, hO.vm, hcl, hWs, hall, hf⟩⟩
  refine st1 _ ?_
  show Steps p.tables e below (T1.setTop { method := m, pc := pc + 3, locals := ls, stack := .ref T.heap.size :: rest, locked := none }) _
  jvm_step X₁.here [X₁.here.top, hexec, d3', Value.category]
  exact hsteps
/-- 'throw new E("text")': new; dup; ldc; invokespecial; athrow -/
theorem vx_throwS {cc : ByteArray} {pc : Nat} (hexec : p.tables.exec = Jvm.exec) (hb : c.code = cc) (hl : l.stackTraces = false) {own cls text : String} {names : List String} {ik is ic mc ms sa : Nat} {A : Nat → Prop}
    (hown : s.vm.findClass own = some m.cls) (hcls : Bundle.fit cls = true) (hnames : ∀ n ∈ names, Bundle.fit n = true)
    (hk : (Cond.classLink own ik cls).before args s = true) (hini : (Cond.initialized cls).before args s = true) (hstr : vk_R own is text sa s) (hat : ∀ w ∈ vx_atS own ic cls names, w.before args s = true)
    (hgood : ∀ w ∈ Cond.classLink own ik cls :: Cond.initialized cls :: vx_atS own ic cls names, vx_ot w = true)
    (hU : vx_Zq Bundle.tN "UNASSIGNED_STACK" Bundle.steD A s s.heap) (hN : vx_Zq Bundle.tN "SUPPRESSED_SENTINEL" Bundle.listD A s s.heap) (hS : va_S A s.heap H locs) (hsize : ls.size = c.maxLocals)
    (d0 : decode cc pc = .ok (.new ik, 3)) (d3 : decode cc (pc + 3) = .ok (.dup, 1)) (d4 : decode cc (pc + 4) = .ok (.ldc is, 2)) (d6 : decode cc (pc + 6) = .ok (.invokespecial ic, 3)) (d9 : decode cc (pc + 9) = .ok (.athrow, 1))
    (hout : ∀ x ∈ c.exceptionTable.toList, covers x (pc + 9) = false)
    (hRframes : names.length + 3 < R.frames) (hRlocals : (rest.map fun v => v.category).sum + (13 * (names.length + 1) + 43) ≤ R.locals) (hRcells : cells + 1 ≤ R.cells) (hRslots : slots + 6 ≤ R.slots) (hlocks : meth.locks = false)
    (hx : ∀ t : State, s.vm.Alike t.vm → H.size ≤ t.heap.size → (∀ q : Nat, q < H.size → t.heap[q]? = H[q]?) → XC cls s t)
    (hf : ∀ z ∈ locs, free z.base) (hc : cells + 1 ≤ mc) (hs : slots + 6 ≤ ms) :
    W p l e R s m args below meth c H locs cells slots (vx_MQ below Qc XC args s mc ms free) (F0 m pc ls rest) := by
  intro T hT X
  have htr : e.platform.stackTraces = false := (show e.platform.stackTraces = l.stackTraces by rw [X.admits.platform]).trans hl
  have Y := vx_rebase X (R' := { frames := R.frames, locals := R.locals, cells := 1, slots := 6 }) (Nat.le_refl _) (Nat.le_refl _) hRcells hRslots
  obtain ⟨s', hA⟩ : ∃ z, z = (T.setVm s.vm).setFrames (.invoking m args :: below) := ⟨_, rfl⟩
  rw [← hA] at Y
  have hvm : s'.vm = s.vm := by rw [hA]; rfl
  have hhp : s'.heap = H := by rw [hA]; exact hT
  have hW0 : s.WarmedH s'.vm := by rw [hvm]; exact State.WarmedH.refl s
  have hat' : ∀ w ∈ vx_atS own ic cls names, w.before args s' = true := fun w hw => vx_ot_at hW0 hvm.symm (hgood w (List.mem_cons_of_mem _ (List.mem_cons_of_mem _ hw))) (hat w hw)
  have hk' : (Cond.classLink own ik cls).before args s' = true := vx_ot_at hW0 hvm.symm (hgood _ List.mem_cons_self) hk
  have hini' : (Cond.initialized cls).before args s' = true := vx_ot_at hW0 hvm.symm (hgood _ (List.mem_cons_of_mem _ List.mem_cons_self)) hini
  have hU' : vx_Zq Bundle.tN "UNASSIGNED_STACK" Bundle.steD A s' s'.heap := by rw [hhp]; exact vx_Zq.moved hW0.alike (hU.kept hS.2.1)
  have hN' : vx_Zq Bundle.tN "SUPPRESSED_SENTINEL" Bundle.listD A s' s'.heap := by rw [hhp]; exact vx_Zq.moved hW0.alike (hN.kept hS.2.1)
  have h : ∀ w ∈ Bundle.ownAtoms own ic cls names, w.before args s' = true := vx_own hat' (vx_isRefq hU'.1) (vx_isRefq hN'.1) hU'.2.word hN'.2.word
  have hown' : s'.vm.findClass own = some m.cls := by rw [hvm]; exact hown
  have hins : (Cond.instantiable cls 6).before args s' = true := h _ (by simp [Bundle.ownAtoms])
  obtain ⟨vm₁, cX, kX, hfX, hkX, -, -, X₁, st1⟩ := Y.newCold hexec (own := own) (C := cls) (index := ik) (n := 6) hown' hk' hins hini'
    (g := F0 m pc ls rest) rfl (by rw [hb]; exact d0) (Nat.le_refl _) (Nat.le_refl _)
  generalize hT1 : (T.setVm vm₁).pushCell { cls := cX, slots := kX.instanceTypes.map defaultValue, vm := .none } = T1 at X₁ st1
  have hcat : (Value.ref T.heap.size).category = 1 := rfl
  have hcellA : T1.heap[T.heap.size]? = some (freshCell cX kX) := by rw [← hT1]; exact State.heap_pushCell_size _ _
  have d3' : decode c.code (pc + 3) = .ok (.dup, 1) := by rw [hb]; exact d3
  have d4' : decode c.code (pc + 4) = .ok (.ldc is, 2) := by rw [hb]; exact d4
  have hstr' : vk_R own is text sa s' := vk_R.warm hW0 hstr
  obtain ⟨U, hsteps, hrun, hend, hW, hsame, ce, hce, hO⟩ := X₁.ctorThrowS hexec htr (own := own) (cls := cls) (names := names) (ic := ic) hown' hcls hnames h (fun x hx => nomatch hx) hfX hkX hcellA (by rw [hhp, hT]; exact Nat.le_refl _) (msg := .ref sa) rfl
    (g := { method := m, pc := pc + 6, locals := ls, stack := .ref sa :: .ref T.heap.size :: .ref T.heap.size :: rest, locked := none }) rfl hsize rfl rfl (rest := rest) rfl
    (by rw [hb]; exact d6) (by rw [hb]; exact d9) hout hRframes (by simp only [List.map_cons, List.sum_cons, hcat]; omega) hlocks
  obtain ⟨f1, f2⟩ := vx_frame hsame
  rw [hhp] at f1 f2
  have hWs : s.WarmedH U.vm := State.WarmedH.trans hW0 hW
  have hcl : s.vm.findClass cls = some ce.cls := by
    have h9 := hO.cls
    rw [hvm] at h9
    exact h9
  have hall : s.sameButNew ({ U with vm := s.vm } : State) locs mc ms := by
    subst hA
    obtain ⟨e1, e2⟩ := hsame
    rw [State.setFrames_setFrames] at e1
    have h2 : (T.setVm s.vm).sameButNew ({ U with vm := s.vm } : State) [] (0 + 1) (0 + 6) := ⟨e1, e2⟩
    have h3 := X.same.trans h2
    rw [List.append_nil] at h3
    exact h3.mono hc hs
  refine ⟨U, ?_, .threw T.heap.size, hrun, hend, Or.inr ⟨T.heap.size, rfl, cls, ce, locs, hx U hWs.alike f1 (fun q hq => f2 q hq (fun z hz => nomatch hz)), hce, hO.vm, hcl, hWs, hall, hf⟩⟩
  refine st1 _ ?_
  show Steps p.tables e below (T1.setTop { method := m, pc := pc + 3, locals := ls, stack := .ref T.heap.size :: rest, locked := none }) _
  jvm_step X₁.here [X₁.here.top, hexec, d3', Value.category]
  exact X₁.ldcString hexec (own := own) (text := text) (index := is) (a := sa) hown' hstr'.1 hstr'.2
    (g := { method := m, pc := pc + 4, locals := ls, stack := .ref T.heap.size :: .ref T.heap.size :: rest, locked := none }) rfl d4' _ hsteps
/-- 'throw new E("text")', the text by a wide index -/
theorem vx_throwSW {cc : ByteArray} {pc : Nat} (hexec : p.tables.exec = Jvm.exec) (hb : c.code = cc) (hl : l.stackTraces = false) {own cls text : String} {names : List String} {ik is ic mc ms sa : Nat} {A : Nat → Prop}
    (hown : s.vm.findClass own = some m.cls) (hcls : Bundle.fit cls = true) (hnames : ∀ n ∈ names, Bundle.fit n = true)
    (hk : (Cond.classLink own ik cls).before args s = true) (hini : (Cond.initialized cls).before args s = true) (hstr : vk_R own is text sa s) (hat : ∀ w ∈ vx_atS own ic cls names, w.before args s = true)
    (hgood : ∀ w ∈ Cond.classLink own ik cls :: Cond.initialized cls :: vx_atS own ic cls names, vx_ot w = true)
    (hU : vx_Zq Bundle.tN "UNASSIGNED_STACK" Bundle.steD A s s.heap) (hN : vx_Zq Bundle.tN "SUPPRESSED_SENTINEL" Bundle.listD A s s.heap) (hS : va_S A s.heap H locs) (hsize : ls.size = c.maxLocals)
    (d0 : decode cc pc = .ok (.new ik, 3)) (d3 : decode cc (pc + 3) = .ok (.dup, 1)) (d4 : decode cc (pc + 4) = .ok (.ldc_w is, 3)) (d7 : decode cc (pc + 7) = .ok (.invokespecial ic, 3)) (d10 : decode cc (pc + 10) = .ok (.athrow, 1))
    (hout : ∀ x ∈ c.exceptionTable.toList, covers x (pc + 10) = false)
    (hRframes : names.length + 3 < R.frames) (hRlocals : (rest.map fun v => v.category).sum + (13 * (names.length + 1) + 43) ≤ R.locals) (hRcells : cells + 1 ≤ R.cells) (hRslots : slots + 6 ≤ R.slots) (hlocks : meth.locks = false)
    (hx : ∀ t : State, s.vm.Alike t.vm → H.size ≤ t.heap.size → (∀ q : Nat, q < H.size → t.heap[q]? = H[q]?) → XC cls s t)
    (hf : ∀ z ∈ locs, free z.base) (hc : cells + 1 ≤ mc) (hs : slots + 6 ≤ ms) :
    W p l e R s m args below meth c H locs cells slots (vx_MQ below Qc XC args s mc ms free) (F0 m pc ls rest) := by
  intro T hT X
  have htr : e.platform.stackTraces = false := (show e.platform.stackTraces = l.stackTraces by rw [X.admits.platform]).trans hl
  have Y := vx_rebase X (R' := { frames := R.frames, locals := R.locals, cells := 1, slots := 6 }) (Nat.le_refl _) (Nat.le_refl _) hRcells hRslots
  obtain ⟨s', hA⟩ : ∃ z, z = (T.setVm s.vm).setFrames (.invoking m args :: below) := ⟨_, rfl⟩
  rw [← hA] at Y
  have hvm : s'.vm = s.vm := by rw [hA]; rfl
  have hhp : s'.heap = H := by rw [hA]; exact hT
  have hW0 : s.WarmedH s'.vm := by rw [hvm]; exact State.WarmedH.refl s
  have hat' : ∀ w ∈ vx_atS own ic cls names, w.before args s' = true := fun w hw => vx_ot_at hW0 hvm.symm (hgood w (List.mem_cons_of_mem _ (List.mem_cons_of_mem _ hw))) (hat w hw)
  have hk' : (Cond.classLink own ik cls).before args s' = true := vx_ot_at hW0 hvm.symm (hgood _ List.mem_cons_self) hk
  have hini' : (Cond.initialized cls).before args s' = true := vx_ot_at hW0 hvm.symm (hgood _ (List.mem_cons_of_mem _ List.mem_cons_self)) hini
  have hU' : vx_Zq Bundle.tN "UNASSIGNED_STACK" Bundle.steD A s' s'.heap := by rw [hhp]; exact vx_Zq.moved hW0.alike (hU.kept hS.2.1)
  have hN' : vx_Zq Bundle.tN "SUPPRESSED_SENTINEL" Bundle.listD A s' s'.heap := by rw [hhp]; exact vx_Zq.moved hW0.alike (hN.kept hS.2.1)
  have h : ∀ w ∈ Bundle.ownAtoms own ic cls names, w.before args s' = true := vx_own hat' (vx_isRefq hU'.1) (vx_isRefq hN'.1) hU'.2.word hN'.2.word
  have hown' : s'.vm.findClass own = some m.cls := by rw [hvm]; exact hown
  have hins : (Cond.instantiable cls 6).before args s' = true := h _ (by simp [Bundle.ownAtoms])
  obtain ⟨vm₁, cX, kX, hfX, hkX, -, -, X₁, st1⟩ := Y.newCold hexec (own := own) (C := cls) (index := ik) (n := 6) hown' hk' hins hini'
    (g := F0 m pc ls rest) rfl (by rw [hb]; exact d0) (Nat.le_refl _) (Nat.le_refl _)
  generalize hT1 : (T.setVm vm₁).pushCell { cls := cX, slots := kX.instanceTypes.map defaultValue, vm := .none } = T1 at X₁ st1
  have hcat : (Value.ref T.heap.size).category = 1 := rfl
  have hcellA : T1.heap[T.heap.size]? = some (freshCell cX kX) := by rw [← hT1]; exact State.heap_pushCell_size _ _
  have d3' : decode c.code (pc + 3) = .ok (.dup, 1) := by rw [hb]; exact d3
  have d4' : decode c.code (pc + 4) = .ok (.ldc_w is, 3) := by rw [hb]; exact d4
  have hstr' : vk_R own is text sa s' := vk_R.warm hW0 hstr
  obtain ⟨U, hsteps, hrun, hend, hW, hsame, ce, hce, hO⟩ := X₁.ctorThrowS hexec htr (own := own) (cls := cls) (names := names) (ic := ic) hown' hcls hnames h (fun x hx => nomatch hx) hfX hkX hcellA (by rw [hhp, hT]; exact Nat.le_refl _) (msg := .ref sa) rfl
    (g := { method := m, pc := pc + 7, locals := ls, stack := .ref sa :: .ref T.heap.size :: .ref T.heap.size :: rest, locked := none }) rfl hsize rfl rfl (rest := rest) rfl
    (by rw [hb]; exact d7) (by rw [hb]; exact d10) hout hRframes (by simp only [List.map_cons, List.sum_cons, hcat]; omega) hlocks
  obtain ⟨f1, f2⟩ := vx_frame hsame
  rw [hhp] at f1 f2
  have hWs : s.WarmedH U.vm := State.WarmedH.trans hW0 hW
  have hcl : s.vm.findClass cls = some ce.cls := by
    have h9 := hO.cls
    rw [hvm] at h9
    exact h9
  have hall : s.sameButNew ({ U with vm := s.vm } : State) locs mc ms := by
    subst hA
    obtain ⟨e1, e2⟩ := hsame
    rw [State.setFrames_setFrames] at e1
    have h2 : (T.setVm s.vm).sameButNew ({ U with vm := s.vm } : State) [] (0 + 1) (0 + 6) := ⟨e1, e2⟩
    have h3 := X.same.trans h2
    rw [List.append_nil] at h3
    exact h3.mono hc hs
  refine ⟨U, ?_, .threw T.heap.size, hrun, hend, Or.inr ⟨T.heap.size, rfl, cls, ce, locs, hx U hWs.alike f1 (fun q hq => f2 q hq (fun z hz => nomatch hz)), hce, hO.vm, hcl, hWs, hall, hf⟩⟩
  refine st1 _ ?_
  show Steps p.tables e below (T1.setTop { method := m, pc := pc + 3, locals := ls, stack := .ref T.heap.size :: rest, locked := none }) _
  jvm_step X₁.here [X₁.here.top, hexec, d3', Value.category]
  exact X₁.ldcStringW hexec (own := own) (text := text) (index := is) (a := sa) hown' hstr'.1 hstr'.2
    (g := { method := m, pc := pc + 4, locals := ls, stack := .ref T.heap.size :: .ref T.heap.size :: rest, locked := none }) rfl d4' _ hsteps
end Ends
section Bodies
variable {l : Launch}
theorem vx_ofW {y : MethodName} {ws ws' : List Cond} {rm : Room} {Pc : Array Value → State → Prop} {Qc : Array Value → State → Outcome → State → Prop} {XC : String → State → State → Prop} {mc ms : Nat} {free : Addr → Prop} {cc : ByteArray} {maxL : Nat} {ret : Option FieldType}
    (hy : plainName y.cls = true) (hw : ws = Cond.code y cc maxL ret :: ws')
    (body : ∀ p e s m args below meth c s₁, BodyLoose p l y (headSpec ws rm) cc maxL ret e s m args below meth c s₁ → c.maxLocals = maxL → (∀ x ∈ c.exceptionTable.toList, False) → Pc args s →
      W p l e (headSpec ws rm).room s m args below meth c s.heap [] 0 0 (vx_MQ below Qc XC args s mc ms free) (entryFrame m args maxL)) : vx_Met l y ws rm Pc Qc XC mc ms free := by
  refine MetFree.of_bodyS (code := cc) (maxLocals := maxL) (ret := ret) hy ?_ ?_
  · intro args s m h hn
    obtain ⟨meth, c, h1, h2, h3, h4, h5, h6, -, -⟩ := Cond.code_spec hn (atoms_spec (ws := ws) h _ (by rw [hw]; exact List.mem_cons_self))
    exact ⟨meth, c, h1, h2, h3, h4, h5, h6⟩
  · intro p e s m args below meth c s₁ B hml hP _
    have hh0 : s₁.heap = s.heap := by rw [B.state]; rfl
    have ht : ∀ x ∈ c.exceptionTable.toList, False := by
      obtain ⟨meth9, c9, h1, h2, -, -, -, -, h7, -⟩ := Cond.code_spec B.named (atoms_spec (ws := ws) B.pre _ (by rw [hw]; exact List.mem_cons_self))
      cases Option.some.inj (h1.symm.trans B.method)
      cases Option.some.inj (h2.symm.trans (Stand.of_body B).code)
      intro x hx
      rw [Array.isEmpty_iff.mp h7] at hx
      cases hx
    obtain ⟨t, a1, o, b1, b2, b3⟩ := body p e s m args below meth c s₁ B hml ht hP s₁ hh0 (Stand.of_body B)
    exact ⟨t, o, a1, b1, b2, b3⟩
/-- the table of a body with handlers -/
theorem vx_table {p : Program} {x y : MethodName} {S : Spec} {cc bytes : ByteArray} {maxL maxL' : Nat} {ret ret' : Option FieldType} {e : Env} {s s₁ : State} {m : MethodId} {args : Array Value} {below : List Frame} {meth : Method} {c : Code} {hh : List (Nat × Nat × Nat × Nat)}
    (B : BodyLoose p l y S cc maxL ret e s m args below meth c s₁) (h : (Cond.codeWith y bytes maxL' ret' hh).before args s = true) : c.exceptionTable.toList = tableOf hh := by
  obtain ⟨m9, meth9, c9, hn9, h1, h2, -, -, h6, -⟩ := Cond.codeWith_spec h
  cases Option.some.inj (hn9.symm.trans B.named)
  cases Option.some.inj (h1.symm.trans B.method)
  cases Option.some.inj (h2.symm.trans (Stand.of_body B).code)
  rw [← h6, table_eq]
end Bodies
end VXA
/-! ===== END ===== -/
/-! ===== BEGIN a static call of a method with an exception table ===== -/
section VXS
variable {p : Program} {l : Launch} {e : Env} {R : Room} {s : State} {m : MethodId} {args : Array Value} {below : List Frame} {meth : Method} {c : Code} {T : State} {H : Heap} {locs : List Loc} {cells slots : Nat}
abbrev vx_CSW (R : Room) (s : State) (args : Array Value) (own : String) (index : Nat) (y : MethodName) (bytes : ByteArray) (maxL : Nat) (ret : Option FieldType) (hh : List (Nat × Nat × Nat × Nat)) (ws : List Cond) (rm : Room) (mc ms n : Nat) : Prop :=
  (rm.cells = mc ∧ rm.slots = ms ∧ rm.frames + 1 ≤ R.frames ∧ 8 + (maxL + 11) + rm.locals ≤ R.locals ∧ (∀ w ∈ ws, ∀ (a' : Array Value) (U : State), s.WarmedH U.vm → w.before a' U = true) ∧ Cond.codeWith y bytes maxL ret hh ∈ ws) ∧
  (Cond.codeWith y bytes maxL ret hh).before args s = true ∧ (Cond.initialized y.cls).before args s = true ∧ (y.cls ≠ "java/lang/invoke/MethodHandle" ∧ y.cls ≠ "java/lang/invoke/VarHandle") ∧
  (∀ sig, parseMethodDescriptor y.desc = some sig → n = sig.parameters.length) ∧ (Cond.methodLink own index y).before args s = true ∧ (Cond.static y).before args s = true
theorem vx_cwSW {own : String} {index maxL mc ms : Nat} {y : MethodName} {bytes : ByteArray} {ret : Option FieldType} {hh : List (Nat × Nat × Nat × Nat)} {Ts ws ws' : List Cond} {rm : Room} (n : Nat) (ht : ∀ w ∈ Ts, w.before args s = true) (hT : GoodIn Ts (va_wsS own index y ws)) (hw : ws = Cond.codeWith y bytes maxL ret hh :: ws') (hrc : rm.cells = mc) (hrs : rm.slots = ms)
    (hd : y.cls ≠ "java/lang/invoke/MethodHandle" ∧ y.cls ≠ "java/lang/invoke/VarHandle" ∧ (parseMethodDescriptor y.desc).map (fun d => d.parameters.length) = some n) (hR : rm.frames + 1 ≤ R.frames ∧ 8 + (maxL + 11) + rm.locals ≤ R.locals) :
    vx_CSW R s args own index y bytes maxL ret hh ws rm mc ms n := by
  have ok : ∀ w ∈ va_wsS own index y ws, w.before args s = true := fun w h => ht w (hT w h).1
  have hG : GoodIn Ts ws := fun w h => hT w (by unfold va_wsS; exact List.mem_append_right _ h)
  have hc : Cond.codeWith y bytes maxL ret hh ∈ ws := by rw [hw]; exact List.mem_cons_self
  refine ⟨⟨hrc, hrs, hR.1, hR.2, pay_in ht hG, hc⟩, ht _ (hG _ hc).1, ok _ (by simp [va_wsS]), ⟨hd.1, hd.2.1⟩, fun sig h => ?_, ok _ (by simp [va_wsS]), ok _ (by simp [va_wsS])⟩
  have h2 := hd.2.2
  rw [h] at h2
  exact (Option.some.inj h2).symm
theorem vx_callSW (X : Stand p l e R s m args below meth c T locs cells slots) (hexec : p.tables.exec = Jvm.exec) {own : String} {index : Nat} {y : MethodName} {bytes : ByteArray} {maxL : Nat} {ret : Option FieldType} {hh : List (Nat × Nat × Nat × Nat)}
    (hown : s.vm.findClass own = some m.cls) (hlink : (Cond.methodLink own index y).before args s = true) (hstat : (Cond.static y).before args s = true) (hinit : (Cond.initialized y.cls).before args s = true)
    (hcode : (Cond.codeWith y bytes maxL ret hh).before args s = true) (hy : y.cls ≠ "java/lang/invoke/MethodHandle" ∧ y.cls ≠ "java/lang/invoke/VarHandle")
    {W9 : Nat} {Pre : Pt → Array Value → Prop} {Post : Pt → Array Value → Option Value → Pt → Prop} (hK : Back l R p e below s args y 3 W9 Pre Post)
    {g : JFrame} (hg : g.method = m) (hsize : g.locals.size = c.maxLocals) {argsL rest : List Value} (hlen : ∀ sig, parseMethodDescriptor y.desc = some sig → argsL.length = sig.parameters.length)
    (hstack : g.stack = argsL.reverse ++ rest) (hW : 2 * g.monitorRoom + (rest.map fun v => v.category).sum ≤ W9) (hdg : decode c.code g.pc = .ok (.invokestatic index, 3))
    (hpre : ∀ vm₁, s.WarmedH vm₁ → Pre ⟨T.setVm vm₁, locs, cells, slots⟩ argsL.toArray) :
    ∃ (v : Option Value) (vm₁ : Vm) (B : Pt), s.WarmedH vm₁ ∧ Stand p l e R s m args below meth c B.U B.locs B.cells B.slots ∧ Post ⟨T.setVm vm₁, locs, cells, slots⟩ argsL.toArray v B ∧
      ∀ target, Steps p.tables e below (B.U.setTop { g with pc := g.pc + 3, stack := v.toList ++ rest }) target → Steps p.tables e below (T.setTop g) target := by
  obtain ⟨mk, methM, cM, hnamed, hmethM, -, -, -, -, -, -, hsigM⟩ := Cond.codeWith_spec hcode
  have hstatic : methM.isStatic = true := Cond.static_spec hnamed hmethM hstat
  obtain ⟨kP, hkP, -⟩ := className_of_methodNamed hnamed
  have hinitP : kP.init = .initialized := Cond.initialized_spec (findClass_of_methodNamed hnamed) hkP hinit
  obtain ⟨vm₁, X₁, hstep₁⟩ := X.invokestatic hexec hown hlink hnamed hmethM hstatic hkP hinitP hy (g := g) hg (argsL := argsL) (rest := rest) (hlen _ hsigM) hstack hdg
  obtain ⟨v, B, X', hpost, hsteps⟩ := hK m meth c ⟨T.setVm vm₁, locs, cells, slots⟩ { g with stack := rest } (.invokestatic index) mk argsL.toArray X₁ hg hsize hdg hW (X₁.named hnamed) (hpre vm₁ X₁.warmed)
  exact ⟨v, vm₁, B, X₁.warmed, X', hpost, fun target h => hstep₁ _ fun acts => by rw [doInvoke_state]; exact hsteps.trans h⟩
theorem vx_runSW {y : MethodName} {bytes cc : ByteArray} {maxL nL mc ms n index : Nat} {ret : Option FieldType} {hh : List (Nat × Nat × Nat × Nat)} {ws : List Cond} {rm : Room} {Pc : Array Value → State → Prop} {Qc : Array Value → State → Outcome → State → Prop} {free : Addr → Prop} {Ts : List Cond} {own : String} {As rest : List Value} {g : JFrame}
    (S : CallFix p m c cc nL s args Ts own) (hM : Met l y ws rm Pc Qc mc ms free) (cw : vx_CSW R s args own index y bytes maxL ret hh ws rm mc ms n) (hp : PreS s H Pc As)
    (hg : g.method = m) (hn : As.length = n) (hsize : g.locals.size = nL) (hstack : g.stack = As.reverse ++ rest) (hW : 2 * g.monitorRoom + (rest.map fun v => v.category).sum ≤ 8) (hdg : decode cc g.pc = .ok (.invokestatic index, 3)) (hf : cells + mc ≤ R.cells ∧ slots + ms ≤ R.slots) :
    va_Run p l e R s m args below meth c H locs cells slots mc ms g rest (Qc As.toArray) (free) := by
  obtain ⟨⟨hrc, hrs, hfr, hlo, hws, hcw⟩, hcode, hini, hy, hlen, hl, hstt⟩ := cw
  have hK : Back l R p e below s args y 3 8 (PreOf R mc ms Pc) (PostOf Qc mc ms free) := va_backW (hh := hh) (bytes := bytes) (maxL := maxL) (ret := ret) hM hp.1 hrc hrs hfr hlo hws hcw (fun a' U hW => word_at hW (Or.inl (by first | rfl | simp [Cond.onTables, Cond.keeps, Cond.steady])) hini)
  obtain ⟨hx, hb, hml, ho, -⟩ := S
  intro T hT X
  obtain ⟨v, vm₁, ⟨U', l2, c2, s2⟩, hW₁, X', ⟨g', mk, t, L, e1, e2, hq, h1, hL, h2, h3⟩, st⟩ := vx_callSW X hx (hh := hh) (bytes := bytes) (maxL := maxL) (ret := ret) ho hl hstt hini hcode hy hK hg (hsize.trans hml.symm) (argsL := As) (rest := rest) (fun sig h => hn.trans (hlen sig h)) hstack hW (by rw [hb]; exact hdg)
    (fun vm₁ hW₁ => ⟨hf.1, hf.2, hp.2 (T.setVm vm₁) hT hW₁⟩)
  dsimp only [Pt.U, Pt.locs, Pt.cells, Pt.slots] at X' e1 e2 h1 h2 h3 st
  subst h1; subst h2; subst h3
  exact ⟨v, (T.setVm vm₁).calling g' mk As.toArray, t, U', L, hT, X', hL, e1, e2, hq, st⟩
/-- not caught here, past rows that name other classes: it goes on to the caller -/
theorem vx_outP {p : Program} {l : Launch} {e : Env} {R : Room} {s : State} {m : MethodId} {args : Array Value} {below : List Frame} {meth : Method} {c : Code} {H : Heap} {locs : List Loc} {cells slots : Nat} {free : Addr → Prop} {ls : Array Slot} {rest : List Value} {Qc : Array Value → State → Outcome → State → Prop} {XC : String → State → State → Prop}
    {pc : Nat} {own E : String} {ce : Cell} {q : Addr} {mc ms : Nat} (hown : s.vm.findClass own = some m.cls) (hlocks : meth.locks = false)
    (hpass : ∀ z ∈ c.exceptionTable.toList, covers z pc = false ∨ (z.catchType ≠ 0 ∧ ∃ nm : String, (Cond.classLink own z.catchType nm).before args s = true ∧ va_Nc E nm s)) (hcell : H[q]? = some ce) (hv : ce.vm = .none) (hcl : s.vm.findClass E = some ce.cls)
    (hx : ∀ t : State, t.heap = H → s.vm.Alike t.vm → XC E s t) (hf : ∀ z ∈ locs, free z.base) (hc : cells ≤ mc) (hs : slots ≤ ms) :
    vx_W p l e R s m args below meth c H locs cells slots (vx_MQ below Qc XC args s mc ms free) (F0 m pc ls rest) q := by
  intro T hT X
  have hpl : e.platform.magicAccessors = ({} : Platform).magicAccessors := by rw [X.admits.platform]
  obtain ⟨vm', hW', X', st⟩ := X.outThrough hlocks q (g := F0 m pc ls rest) rfl rfl rfl (cell := ce) (by rw [hT]; exact hcell) (by rw [hv]; rfl)
    (by obtain ⟨k9, h9, -⟩ := Vm.findClass_spec hcl; exact ⟨k9, h9⟩) (fun z hz => by
      rcases hpass z hz with h | ⟨hz0, nm, hl1, hn1⟩
      · exact Or.inl h
      · obtain ⟨c6, hc6, hcl6⟩ := Cond.classLink_spec hown hl1 e.platform hpl
        obtain ⟨a8, b8, h1, h2, h3⟩ := hn1
        cases Option.some.inj (h1.symm.trans hcl)
        cases Option.some.inj (h2.symm.trans hc6)
        exact Or.inr ⟨hz0, _, hcl6, h3⟩)
  obtain ⟨g₀, hfr⟩ := X'.frames_eq
  have hcell9 : ((T.setVm vm').setFrames (.throwing q :: below)).heap[q]? = some ce := by
    show T.heap[q]? = some ce
    rw [hT]; exact hcell
  have hend : Ended ((T.setVm vm').setFrames (.throwing q :: below)) below (.threw q) := State.frames_setFrames _ (State.cur_lt_of_frames hfr)
  refine ⟨(T.setVm vm').setFrames (.throwing q :: below), ?_, .threw q, X'.here.running, hend, Or.inr ⟨q, rfl, E, ce, locs, hx _ hT (X'.ends _).1.alike, hcell9, hv, hcl, (X'.ends _).1, (X'.ends _).2.mono hc hs, hf⟩⟩
  rw [X.pushThrowing_eq]
  exact st
/-- a thing of a world lies in the heap -/
theorem vx_lt {D : va_G} {cl : List vw_C} {ws : va_W} {H1 : Heap} (h : va_P D cl ws H1) {k : Nat} {q : Nat × va_E} (hk : ws[k]? = some q) : q.1 < H1.size := (h k q hk).lt
end VXS
/-! ===== END ===== -/
/-! ===== BEGIN methods with a table of their own: called by a name, returning or throwing ===== -/
section VXH
/-! vx_backW, vx_callVX, vx_callSX, vx_callVW, vx_runVW, vx_runVX, vx_runSX, vx_ofWH follow the same proofs as their sisters above (Free/Laws.lean, Shelf42/LK1.lean); vx_outP calls Shelf42/NT130.lean (outThrough). -/
section
variable {l : Launch} {R : Room} {p : Program} {e : Env} {below : List Frame} {s : State} {sargs : Array Value} {y : MethodName} {len W9 : Nat}
theorem vx_backW {ws : List Cond} {rm : Room} {Pc : Array Value → State → Prop} {Qc : Array Value → State → Outcome → State → Prop} {XC : String → State → State → Prop} {mc ms : Nat} {free : Addr → Prop} {bytes : ByteArray} {maxL : Nat} {ret : Option FieldType} {hh : List (Nat × Nat × Nat × Nat)}
    (hM : vx_Met l y ws rm Pc Qc XC mc ms free) (hblind : FrameBlind Pc) (hrc : rm.cells = mc) (hrs : rm.slots = ms)
    (hframes : rm.frames + 1 ≤ R.frames) (hlocals : W9 + (maxL + 11) + rm.locals ≤ R.locals)
    (hws : ∀ w ∈ ws, ∀ a' U, s.WarmedH U.vm → w.before a' U = true) (hcode : Cond.codeWith y bytes maxL ret hh ∈ ws) (hinit : ∀ a' U, s.WarmedH U.vm → (Cond.initialized y.cls).before a' U = true) :
    vx_Back l R p e below s sargs y len W9 (PreOf R mc ms Pc) (PostOf Qc mc ms free) (vx_Post XC mc ms free) := by
  intro m meth c A g ig mk a X hg hsize hdg hW hn hp
  have h1 : (headSpec ws rm).pre.before a A.U = true := atoms_intro fun w hw => hws w hw _ _ X.warmed
  have h2 : (Cond.codeWith y bytes maxL ret hh).before a A.U = true := hws _ hcode _ _ X.warmed
  have h3 : (Cond.initialized y.cls).before a A.U = true := hinit _ _ X.warmed
  have h4 : A.cells + (headSpec ws rm).room.cells ≤ R.cells := by rw [show (headSpec ws rm).room.cells = mc from hrc]; exact hp.1
  have h5 : A.slots + (headSpec ws rm).room.slots ≤ R.slots := by rw [show (headSpec ws rm).room.slots = ms from hrs]; exact hp.2.1
  have hPc : Pc a (A.U.calling g mk a) := hblind _ _ _ _ hp.2.2
  obtain ⟨U, Ls, c0, s0⟩ := A
  dsimp only [Pt.U, Pt.locs, Pt.cells, Pt.slots] at h1 h2 h3 h4 h5 X hn hPc ⊢
  obtain ⟨m9, methY, cY, hn9, hmY, hcY, -, hlY, -⟩ := Cond.codeWith_spec h2
  cases Option.some.inj (hn9.symm.trans hn)
  obtain ⟨kY, hkY, -⟩ := className_of_methodNamed hn
  have hinitY : kY.init = .initialized := Cond.initialized_spec (findClass_of_methodNamed hn) hkY h3
  have h : At U g.method c below := by rw [hg]; exact X.here
  have hlocals9 : W9 + (maxL + 11) + (headSpec ws rm).room.locals ≤ R.locals := hlocals
  have happ : (headSpec ws rm).appliesLoose y e.platform (U.calling g mk a) = true :=
    Spec.appliesLoose_calling (g := g) h hdg hn hkY hinitY
      (X.room_calling (g := g) (R' := (headSpec ws rm).room) hsize hmY hcY hframes (by rw [hlY]; omega) h4 h5) h1
  obtain ⟨mid, hmid⟩ := h.above
  have hfr : (U.setTop g).frames = (.java g :: mid) ++ below := by rw [State.frames_setTop' g h.top, hmid]; rfl
  obtain ⟨o, s₂, hsteps, -, hend, hq⟩ := Steps.callFree hM p X.admits X.cas X.clock (acts := []) hfr happ hPc trivial
  have hq' : vx_Q Qc XC mc ms free a (U.calling g mk a) o s₂ := hq
  rw [State.frames_setTop' g h.top] at hend
  obtain ⟨g₀, hg0⟩ := Option.isSome_iff_exists.mp h.top
  obtain ⟨r, hr⟩ := State.topJava?_eq_some.mp hg0
  have hr' : (({ U with heap := s₂.heap, slotsUsed := s₂.slotsUsed } : State).setVm s₂.vm).frames = .java g₀ :: r := hr
  rcases hq' with ⟨hqc, L, hfe, hL⟩ | ⟨q, rfl, E, ce, L, hx, hce, hcv, hcl, hW₂, hsm, hL⟩
  · obtain ⟨⟨v, rfl⟩, hW₂, e2, q2, q3, q4, q5, q6⟩ := id hfe
    have e3 : s₂ = ({ (U.calling g mk a).setFrames s₂.frames with heap := s₂.heap, slotsUsed := s₂.slotsUsed } : State).setVm s₂.vm := by
      have : s₂ = ({ s₂ with vm := (U.calling g mk a).vm } : State).setVm s₂.vm := rfl
      rw [e2] at this
      exact this
    obtain ⟨c₂, i₂, len₂, hc₂, hd₂, hf₂⟩ := hend
    have hW' : U.WarmedH s₂.vm := hW₂
    have hcc : c₂ = c := by
      have h1 : s₂.code? g.method = U.code? g.method := by
        rw [State.code?_eq, State.code?_eq, hW'.alike.method?]
      exact Option.some.inj (hc₂.symm.trans (h1.trans h.code))
    subst hcc
    have hlen : len₂ = len := by rw [hdg] at hd₂; cases hd₂; rfl
    subst hlen
    have hs₂ : s₂ = (({ U with heap := s₂.heap, slotsUsed := s₂.slotsUsed } : State).setVm s₂.vm).setTop { g with pc := g.pc + len₂, stack := v.toList ++ g.stack } := by
      refine e3.trans ?_
      rw [hf₂, State.calling_eq h.top, State.setFrames_setFrames, State.setTop_of_frames _ hr', hr]
      rfl
    have hsame : U.sameButNew ({ U with heap := s₂.heap, slotsUsed := s₂.slotsUsed } : State) L mc ms := by
      refine ⟨?_, q2, q3, q4, q5, q6⟩
      obtain ⟨t, ht, -⟩ := State.frames_cons hr
      show ({ U with heap := s₂.heap, slotsUsed := s₂.slotsUsed } : State) = { U.setFrames U.frames with heap := s₂.heap, slotsUsed := s₂.slotsUsed }
      rw [State.setFrames_self ht]
    subst hg
    refine Or.inl ⟨v, ⟨(({ U with heap := s₂.heap, slotsUsed := s₂.slotsUsed } : State).setVm s₂.vm), Ls ++ L, c0 + mc, s0 + ms⟩,
      ⟨X.admits, X.cas, X.clock, X.frames, X.room, X.hears, X.method, X.code, (X.here.setHeapUsed s₂.heap s₂.slotsUsed).setVm hW'.alike, X.tail, State.WarmedH.trans X.warmed hW', X.limits, X.bytes, X.same.trans (hsame.setVm s.vm)⟩,
      ⟨g, mk, s₂, L, rfl, rfl, hqc, rfl, hL, rfl, rfl⟩, ?_⟩
    show Steps p.tables e below _ ((({ U with heap := s₂.heap, slotsUsed := s₂.slotsUsed } : State).setVm s₂.vm).setTop { g with pc := g.pc + len₂, stack := v.toList ++ g.stack })
    rw [← hs₂]
    exact hsteps
  · obtain ⟨e2, q2, q3, q4, q5, q6⟩ := id hsm
    have e3 : s₂ = ({ (U.calling g mk a).setFrames s₂.frames with heap := s₂.heap, slotsUsed := s₂.slotsUsed } : State).setVm s₂.vm := by
      have : s₂ = ({ s₂ with vm := (U.calling g mk a).vm } : State).setVm s₂.vm := rfl
      rw [e2] at this
      exact this
    have hf₂ : s₂.frames = .throwing q :: .java g :: U.frames.tail := hend
    have hW' : U.WarmedH s₂.vm := hW₂
    have hs₂ : s₂ = ((({ U with heap := s₂.heap, slotsUsed := s₂.slotsUsed } : State).setVm s₂.vm).setTop g).pushFrame (.throwing q) := by
      refine e3.trans ?_
      rw [hf₂, State.calling_eq h.top, State.setFrames_setFrames, State.pushFrame, State.frames_setTop _ hr', State.setTop_of_frames _ hr', State.setFrames_setFrames, hr]
      rfl
    have hsame : U.sameButNew ({ U with heap := s₂.heap, slotsUsed := s₂.slotsUsed } : State) L mc ms := by
      refine ⟨?_, q2, q3, q4, q5, q6⟩
      obtain ⟨t, ht, -⟩ := State.frames_cons hr
      show ({ U with heap := s₂.heap, slotsUsed := s₂.slotsUsed } : State) = { U.setFrames U.frames with heap := s₂.heap, slotsUsed := s₂.slotsUsed }
      rw [State.setFrames_self ht]
    subst hg
    refine Or.inr ⟨q, ⟨(({ U with heap := s₂.heap, slotsUsed := s₂.slotsUsed } : State).setVm s₂.vm), Ls ++ L, c0 + mc, s0 + ms⟩,
      ⟨X.admits, X.cas, X.clock, X.frames, X.room, X.hears, X.method, X.code, (X.here.setHeapUsed s₂.heap s₂.slotsUsed).setVm hW'.alike, X.tail, State.WarmedH.trans X.warmed hW', X.limits, X.bytes, X.same.trans (hsame.setVm s.vm)⟩,
      ⟨g, mk, s₂, L, E, ce, rfl, rfl, hx, hce, hcv, hcl, rfl, hL, rfl, rfl⟩, ?_⟩
    show Steps p.tables e below _ (((({ U with heap := s₂.heap, slotsUsed := s₂.slotsUsed } : State).setVm s₂.vm).setTop g).pushFrame (.throwing q))
    rw [← hs₂]
    exact hsteps
end
variable {p : Program} {l : Launch} {e : Env} {R : Room} {s : State} {m : MethodId} {args : Array Value} {below : List Frame} {meth : Method} {c : Code} {T : State} {H : Heap} {locs : List Loc} {cells slots : Nat}
theorem vx_callVX (X : Stand p l e R s m args below meth c T locs cells slots) (hexec : p.tables.exec = Jvm.exec) {own C : String} {index : Nat} {y : MethodName} {bytes : ByteArray} {maxL : Nat} {ret : Option FieldType} {hh : List (Nat × Nat × Nat × Nat)}
    (hown : s.vm.findClass own = some m.cls) (hlink : (Cond.methodLink own index y).before args s = true) (hinst : (Cond.instanceMethod y).before args s = true) (hsel : (Cond.selects C y y).before args s = true)
    (hcode : (Cond.codeWith y bytes maxL ret hh).before args s = true) (hy : y.cls ≠ "java/lang/invoke/MethodHandle" ∧ y.cls ≠ "java/lang/invoke/VarHandle")
    {W9 : Nat} {Pre : Pt → Array Value → Prop} {Post : Pt → Array Value → Option Value → Pt → Prop} {PostX : Pt → Array Value → Addr → Pt → Prop} (hK : vx_Back l R p e below s args y 3 W9 Pre Post PostX)
    {b : Addr} {cellB : Cell} (hcell : T.heap[b]? = some cellB) (hobj : cellB.vm.isStatics = false) (hcls : s.vm.findClass C = some cellB.cls)
    {g : JFrame} (hg : g.method = m) (hsize : g.locals.size = c.maxLocals) {argsL rest : List Value} (hlen : ∀ sig, parseMethodDescriptor y.desc = some sig → argsL.length = sig.parameters.length)
    (hstack : g.stack = argsL.reverse ++ .ref b :: rest) (hW : 2 * g.monitorRoom + (rest.map fun v => v.category).sum ≤ W9) (hdg : decode c.code g.pc = .ok (.invokevirtual index, 3))
    (hpre : ∀ vm₁, s.WarmedH vm₁ → Pre ⟨T.setVm vm₁, locs, cells, slots⟩ (Value.ref b :: argsL).toArray) :
    (∃ (v : Option Value) (vm₁ : Vm) (B : Pt), s.WarmedH vm₁ ∧ Stand p l e R s m args below meth c B.U B.locs B.cells B.slots ∧ Post ⟨T.setVm vm₁, locs, cells, slots⟩ (Value.ref b :: argsL).toArray v B ∧
      ∀ target, Steps p.tables e below (B.U.setTop { g with pc := g.pc + 3, stack := v.toList ++ rest }) target → Steps p.tables e below (T.setTop g) target) ∨
    (∃ (q : Addr) (vm₁ : Vm) (B : Pt), s.WarmedH vm₁ ∧ Stand p l e R s m args below meth c B.U B.locs B.cells B.slots ∧ PostX ⟨T.setVm vm₁, locs, cells, slots⟩ (Value.ref b :: argsL).toArray q B ∧
      Steps p.tables e below (T.setTop g) ((B.U.setTop { g with stack := rest }).pushFrame (.throwing q))) := by
  obtain ⟨mk, methM, hnamed, hmethM, hstM, habM⟩ := Cond.instanceMethod_spec hinst
  obtain ⟨m8, methM', cM, hn8, hmethM', -, -, -, -, -, -, hsigM⟩ := Cond.codeWith_spec hcode
  cases Option.some.inj (hn8.symm.trans hnamed)
  cases hmethM.symm.trans hmethM'
  obtain ⟨c2, r2, m2, q1, q2, q3, q4, kP, hkP, hkPi⟩ := Cond.selects_spec hsel
  cases hcls.symm.trans q1
  cases (State.methodFound?_of_named hnamed hy).symm.trans q2
  cases hnamed.symm.trans q3
  have hselP : selectMethod e.platform s.vm cellB.cls mk = .method mk := by rw [Launch.admits_selectMethod X.admits]; exact q4
  obtain ⟨vm₁, X₁, hstep₁⟩ := X.invokevirtual hexec hown hlink hnamed hmethM hstM hkP hkPi hy (a := b) (cell := cellB) hcell
    (fun z h => by rw [h] at hobj; cases hobj) hselP hmethM habM hkP hkPi (g := g) hg (argsL := argsL) (rest := rest) (hlen _ hsigM) hstack hdg
  rcases hK m meth c ⟨T.setVm vm₁, locs, cells, slots⟩ { g with stack := rest } (.invokevirtual index) mk (Value.ref b :: argsL).toArray X₁ hg hsize hdg hW (X₁.named hnamed) (hpre vm₁ X₁.warmed) with ⟨v, B, X', hpost, hsteps⟩ | ⟨q, B, X', hpost, hsteps⟩
  · exact Or.inl ⟨v, vm₁, B, X₁.warmed, X', hpost, fun target h => hstep₁ _ fun acts => by rw [doInvoke_state]; exact hsteps.trans h⟩
  · exact Or.inr ⟨q, vm₁, B, X₁.warmed, X', hpost, hstep₁ _ fun acts => by rw [doInvoke_state]; exact hsteps⟩
theorem vx_callSX (X : Stand p l e R s m args below meth c T locs cells slots) (hexec : p.tables.exec = Jvm.exec) {own : String} {index : Nat} {y : MethodName} {bytes : ByteArray} {maxL : Nat} {ret : Option FieldType} {hh : List (Nat × Nat × Nat × Nat)}
    (hown : s.vm.findClass own = some m.cls) (hlink : (Cond.methodLink own index y).before args s = true) (hstat : (Cond.static y).before args s = true) (hinit : (Cond.initialized y.cls).before args s = true)
    (hcode : (Cond.codeWith y bytes maxL ret hh).before args s = true) (hy : y.cls ≠ "java/lang/invoke/MethodHandle" ∧ y.cls ≠ "java/lang/invoke/VarHandle")
    {W9 : Nat} {Pre : Pt → Array Value → Prop} {Post : Pt → Array Value → Option Value → Pt → Prop} {PostX : Pt → Array Value → Addr → Pt → Prop} (hK : vx_Back l R p e below s args y 3 W9 Pre Post PostX)
    {g : JFrame} (hg : g.method = m) (hsize : g.locals.size = c.maxLocals) {argsL rest : List Value} (hlen : ∀ sig, parseMethodDescriptor y.desc = some sig → argsL.length = sig.parameters.length)
    (hstack : g.stack = argsL.reverse ++ rest) (hW : 2 * g.monitorRoom + (rest.map fun v => v.category).sum ≤ W9) (hdg : decode c.code g.pc = .ok (.invokestatic index, 3))
    (hpre : ∀ vm₁, s.WarmedH vm₁ → Pre ⟨T.setVm vm₁, locs, cells, slots⟩ argsL.toArray) :
    (∃ (v : Option Value) (vm₁ : Vm) (B : Pt), s.WarmedH vm₁ ∧ Stand p l e R s m args below meth c B.U B.locs B.cells B.slots ∧ Post ⟨T.setVm vm₁, locs, cells, slots⟩ argsL.toArray v B ∧
      ∀ target, Steps p.tables e below (B.U.setTop { g with pc := g.pc + 3, stack := v.toList ++ rest }) target → Steps p.tables e below (T.setTop g) target) ∨
    (∃ (q : Addr) (vm₁ : Vm) (B : Pt), s.WarmedH vm₁ ∧ Stand p l e R s m args below meth c B.U B.locs B.cells B.slots ∧ PostX ⟨T.setVm vm₁, locs, cells, slots⟩ argsL.toArray q B ∧
      Steps p.tables e below (T.setTop g) ((B.U.setTop { g with stack := rest }).pushFrame (.throwing q))) := by
  obtain ⟨mk, methM, cM, hnamed, hmethM, -, -, -, -, -, -, hsigM⟩ := Cond.codeWith_spec hcode
  have hstatic : methM.isStatic = true := Cond.static_spec hnamed hmethM hstat
  obtain ⟨kP, hkP, -⟩ := className_of_methodNamed hnamed
  have hinitP : kP.init = .initialized := Cond.initialized_spec (findClass_of_methodNamed hnamed) hkP hinit
  obtain ⟨vm₁, X₁, hstep₁⟩ := X.invokestatic hexec hown hlink hnamed hmethM hstatic hkP hinitP hy (g := g) hg (argsL := argsL) (rest := rest) (hlen _ hsigM) hstack hdg
  rcases hK m meth c ⟨T.setVm vm₁, locs, cells, slots⟩ { g with stack := rest } (.invokestatic index) mk argsL.toArray X₁ hg hsize hdg hW (X₁.named hnamed) (hpre vm₁ X₁.warmed) with ⟨v, B, X', hpost, hsteps⟩ | ⟨q, B, X', hpost, hsteps⟩
  · exact Or.inl ⟨v, vm₁, B, X₁.warmed, X', hpost, fun target h => hstep₁ _ fun acts => by rw [doInvoke_state]; exact hsteps.trans h⟩
  · exact Or.inr ⟨q, vm₁, B, X₁.warmed, X', hpost, hstep₁ _ fun acts => by rw [doInvoke_state]; exact hsteps⟩
theorem vx_callVW (X : Stand p l e R s m args below meth c T locs cells slots) (hexec : p.tables.exec = Jvm.exec) {own C : String} {index : Nat} {y : MethodName} {bytes : ByteArray} {maxL : Nat} {ret : Option FieldType} {hh : List (Nat × Nat × Nat × Nat)}
    (hown : s.vm.findClass own = some m.cls) (hlink : (Cond.methodLink own index y).before args s = true) (hinst : (Cond.instanceMethod y).before args s = true) (hsel : (Cond.selects C y y).before args s = true)
    (hcode : (Cond.codeWith y bytes maxL ret hh).before args s = true) (hy : y.cls ≠ "java/lang/invoke/MethodHandle" ∧ y.cls ≠ "java/lang/invoke/VarHandle")
    {W9 : Nat} {Pre : Pt → Array Value → Prop} {Post : Pt → Array Value → Option Value → Pt → Prop} (hK : Back l R p e below s args y 3 W9 Pre Post)
    {b : Addr} {cellB : Cell} (hcell : T.heap[b]? = some cellB) (hobj : cellB.vm.isStatics = false) (hcls : s.vm.findClass C = some cellB.cls)
    {g : JFrame} (hg : g.method = m) (hsize : g.locals.size = c.maxLocals) {argsL rest : List Value} (hlen : ∀ sig, parseMethodDescriptor y.desc = some sig → argsL.length = sig.parameters.length)
    (hstack : g.stack = argsL.reverse ++ .ref b :: rest) (hW : 2 * g.monitorRoom + (rest.map fun v => v.category).sum ≤ W9) (hdg : decode c.code g.pc = .ok (.invokevirtual index, 3))
    (hpre : ∀ vm₁, s.WarmedH vm₁ → Pre ⟨T.setVm vm₁, locs, cells, slots⟩ (Value.ref b :: argsL).toArray) :
    ∃ (v : Option Value) (vm₁ : Vm) (B : Pt), s.WarmedH vm₁ ∧ Stand p l e R s m args below meth c B.U B.locs B.cells B.slots ∧ Post ⟨T.setVm vm₁, locs, cells, slots⟩ (Value.ref b :: argsL).toArray v B ∧
      ∀ target, Steps p.tables e below (B.U.setTop { g with pc := g.pc + 3, stack := v.toList ++ rest }) target → Steps p.tables e below (T.setTop g) target := by
  obtain ⟨mk, methM, hnamed, hmethM, hstM, habM⟩ := Cond.instanceMethod_spec hinst
  obtain ⟨m8, methM', cM, hn8, hmethM', -, -, -, -, -, -, hsigM⟩ := Cond.codeWith_spec hcode
  cases Option.some.inj (hn8.symm.trans hnamed)
  cases hmethM.symm.trans hmethM'
  obtain ⟨c2, r2, m2, q1, q2, q3, q4, kP, hkP, hkPi⟩ := Cond.selects_spec hsel
  cases hcls.symm.trans q1
  cases (State.methodFound?_of_named hnamed hy).symm.trans q2
  cases hnamed.symm.trans q3
  have hselP : selectMethod e.platform s.vm cellB.cls mk = .method mk := by rw [Launch.admits_selectMethod X.admits]; exact q4
  obtain ⟨vm₁, X₁, hstep₁⟩ := X.invokevirtual hexec hown hlink hnamed hmethM hstM hkP hkPi hy (a := b) (cell := cellB) hcell
    (fun z h => by rw [h] at hobj; cases hobj) hselP hmethM habM hkP hkPi (g := g) hg (argsL := argsL) (rest := rest) (hlen _ hsigM) hstack hdg
  obtain ⟨v, B, X', hpost, hsteps⟩ := hK m meth c ⟨T.setVm vm₁, locs, cells, slots⟩ { g with stack := rest } (.invokevirtual index) mk (Value.ref b :: argsL).toArray X₁ hg hsize hdg hW (X₁.named hnamed) (hpre vm₁ X₁.warmed)
  exact ⟨v, vm₁, B, X₁.warmed, X', hpost, fun target h => hstep₁ _ fun acts => by rw [doInvoke_state]; exact hsteps.trans h⟩
abbrev vx_CVW (R : Room) (s : State) (args : Array Value) (own C : String) (index : Nat) (y : MethodName) (bytes : ByteArray) (maxL : Nat) (ret : Option FieldType) (hh : List (Nat × Nat × Nat × Nat)) (ws : List Cond) (rm : Room) (mc ms n : Nat) : Prop :=
  (rm.cells = mc ∧ rm.slots = ms ∧ rm.frames + 1 ≤ R.frames ∧ 8 + (maxL + 11) + rm.locals ≤ R.locals ∧ (∀ w ∈ ws, ∀ (a' : Array Value) (U : State), s.WarmedH U.vm → w.before a' U = true) ∧ Cond.codeWith y bytes maxL ret hh ∈ ws) ∧
  (Cond.codeWith y bytes maxL ret hh).before args s = true ∧ (Cond.initialized y.cls).before args s = true ∧ (y.cls ≠ "java/lang/invoke/MethodHandle" ∧ y.cls ≠ "java/lang/invoke/VarHandle") ∧
  (∀ sig, parseMethodDescriptor y.desc = some sig → n = sig.parameters.length) ∧ (Cond.methodLink own index y).before args s = true ∧ (Cond.instanceMethod y).before args s = true ∧ (Cond.selects C y y).before args s = true
theorem vx_cwVW {own C : String} {index maxL mc ms : Nat} {y : MethodName} {bytes : ByteArray} {ret : Option FieldType} {hh : List (Nat × Nat × Nat × Nat)} {Ts ws ws' : List Cond} {rm : Room} (n : Nat) (ht : ∀ w ∈ Ts, w.before args s = true) (hT : GoodIn Ts (wsV own index C y ws)) (hw : ws = Cond.codeWith y bytes maxL ret hh :: ws') (hrc : rm.cells = mc) (hrs : rm.slots = ms)
    (hd : y.cls = C ∧ y.cls ≠ "java/lang/invoke/MethodHandle" ∧ y.cls ≠ "java/lang/invoke/VarHandle" ∧ (parseMethodDescriptor y.desc).map (fun d => d.parameters.length) = some n) (hR : rm.frames + 1 ≤ R.frames ∧ 8 + (maxL + 11) + rm.locals ≤ R.locals) :
    vx_CVW R s args own C index y bytes maxL ret hh ws rm mc ms n := by
  obtain ⟨hC, hd⟩ := hd
  subst hC
  have ok : ∀ w ∈ wsV own index y.cls y ws, w.before args s = true := fun w h => ht w (hT w h).1
  have hG : GoodIn Ts ws := fun w h => hT w (by unfold wsV; exact List.mem_append_right _ h)
  have hc : Cond.codeWith y bytes maxL ret hh ∈ ws := by rw [hw]; exact List.mem_cons_self
  refine ⟨⟨hrc, hrs, hR.1, hR.2, pay_in ht hG, hc⟩, ht _ (hG _ hc).1, ok _ (by simp [wsV]), ⟨hd.1, hd.2.1⟩, fun sig h => ?_, ok _ (by simp [wsV]), ok _ (by simp [wsV]), ok _ (by simp [wsV])⟩
  have h2 := hd.2.2
  rw [h] at h2
  exact (Option.some.inj h2).symm
theorem vx_runVW {y : MethodName} {bytes cc : ByteArray} {maxL nL mc ms n index : Nat} {ret : Option FieldType} {hh : List (Nat × Nat × Nat × Nat)} {ws : List Cond} {rm : Room} {Pc : Array Value → State → Prop} {Qc : Array Value → State → Outcome → State → Prop} {free : Addr → Prop} {Ts : List Cond} {own C : String} {b : Addr} {As rest : List Value} {g : JFrame}
    (S : CallFix p m c cc nL s args Ts own) (hM : Met l y ws rm Pc Qc mc ms free) (cw : vx_CVW R s args own C index y bytes maxL ret hh ws rm mc ms n) (hp : PreV s H C b Pc As)
    (hg : g.method = m) (hn : As.length = n) (hsize : g.locals.size = nL) (hstack : g.stack = As.reverse ++ .ref b :: rest) (hW : 2 * g.monitorRoom + (rest.map fun v => v.category).sum ≤ 8) (hdg : decode cc g.pc = .ok (.invokevirtual index, 3)) (hf : cells + mc ≤ R.cells ∧ slots + ms ≤ R.slots) :
    va_Run p l e R s m args below meth c H locs cells slots mc ms g rest (Qc (Value.ref b :: As).toArray) free := by
  obtain ⟨⟨hrc, hrs, hfr, hlo, hws, hcw⟩, hcode, hini, hy, hlen, hl, hin, hse⟩ := cw
  have hK : Back l R p e below s args y 3 8 (PreOf R mc ms Pc) (PostOf Qc mc ms free) := va_backW (hh := hh) (bytes := bytes) (maxL := maxL) (ret := ret) hM hp.1 hrc hrs hfr hlo hws hcw (fun a' U hW => word_at hW (Or.inl (by first | rfl | simp [Cond.onTables, Cond.keeps, Cond.steady])) hini)
  obtain ⟨hx, hb, hml, ho, -⟩ := S
  obtain ⟨-, ⟨cellB, hcB, hoB, hclB⟩, hPc⟩ := hp
  intro T hT X
  obtain ⟨v, vm₁, ⟨U', l2, c2, s2⟩, hW₁, X', ⟨g', mk, t, L, e1, e2, hq, h1, hL, h2, h3⟩, st⟩ := vx_callVW X hx (C := C) (hh := hh) (bytes := bytes) (maxL := maxL) (ret := ret) ho hl hin hse hcode hy hK (by rw [hT]; exact hcB) hoB hclB hg (hsize.trans hml.symm) (argsL := As) (rest := rest) (fun sig h => hn.trans (hlen sig h)) hstack hW (by rw [hb]; exact hdg)
    (fun vm₁ hW₁ => ⟨hf.1, hf.2, hPc (T.setVm vm₁) hT hW₁⟩)
  dsimp only [Pt.U, Pt.locs, Pt.cells, Pt.slots] at X' e1 e2 h1 h2 h3 st
  subst h1; subst h2; subst h3
  exact ⟨v, (T.setVm vm₁).calling g' mk (Value.ref b :: As).toArray, t, U', L, hT, X', hL, e1, e2, hq, st⟩
section
variable {y : MethodName} {bytes cc : ByteArray} {maxL nL mc ms n index : Nat} {ret : Option FieldType} {ws : List Cond} {rm : Room} {Pc : Array Value → State → Prop} {Qc : Array Value → State → Outcome → State → Prop} {XC : String → State → State → Prop} {free : Addr → Prop} {Ts : List Cond} {own C : String} {b : Addr} {As rest : List Value} {g : JFrame}
theorem vx_runVX {hh : List (Nat × Nat × Nat × Nat)} (S : CallFix p m c cc nL s args Ts own) (hM : vx_Met l y ws rm Pc Qc XC mc ms free) (cw : vx_CVW R s args own C index y bytes maxL ret hh ws rm mc ms n) (hp : PreV s H C b Pc As)
    (hg : g.method = m) (hn : As.length = n) (hsize : g.locals.size = nL) (hstack : g.stack = As.reverse ++ .ref b :: rest) (hW : 2 * g.monitorRoom + (rest.map fun v => v.category).sum ≤ 8) (hdg : decode cc g.pc = .ok (.invokevirtual index, 3)) (hf : cells + mc ≤ R.cells ∧ slots + ms ≤ R.slots) :
    vx_Run p l e R s m args below meth c H locs cells slots mc ms g rest (Qc (Value.ref b :: As).toArray) XC free := by
  obtain ⟨⟨hrc, hrs, hfr, hlo, hws, hcw⟩, hcode, hini, hy, hlen, hl, hin, hse⟩ := cw
  have hK : vx_Back l R p e below s args y 3 8 (PreOf R mc ms Pc) (PostOf Qc mc ms free) (vx_Post XC mc ms free) := vx_backW (hh := hh) (bytes := bytes) (maxL := maxL) (ret := ret) hM hp.1 hrc hrs hfr hlo hws hcw (fun a' U hW => word_at hW (Or.inl (by first | rfl | simp [Cond.onTables, Cond.keeps, Cond.steady])) hini)
  obtain ⟨hx, hb, hml, ho, -⟩ := S
  obtain ⟨-, ⟨cellB, hcB, hoB, hclB⟩, hPc⟩ := hp
  intro T hT X
  rcases vx_callVX X hx (C := C) (hh := hh) (bytes := bytes) (maxL := maxL) (ret := ret) ho hl hin hse hcode hy hK (by rw [hT]; exact hcB) hoB hclB hg (hsize.trans hml.symm) (argsL := As) (rest := rest) (fun sig h => hn.trans (hlen sig h)) hstack hW (by rw [hb]; exact hdg)
    (fun vm₁ hW₁ => ⟨hf.1, hf.2, hPc (T.setVm vm₁) hT hW₁⟩) with ⟨v, vm₁, ⟨U', l2, c2, s2⟩, hW₁, X', ⟨g', mk, t, L, e1, e2, hq, h1, hL, h2, h3⟩, st⟩ | ⟨q, vm₁, ⟨U', l2, c2, s2⟩, hW₁, X', ⟨g', mk, t, L, E, ce, e1, e2, hq, hce, hcv, hcl, h1, hL, h2, h3⟩, st⟩
  · dsimp only [Pt.U, Pt.locs, Pt.cells, Pt.slots] at X' e1 e2 h1 h2 h3 st
    subst h1; subst h2; subst h3
    exact Or.inl ⟨v, (T.setVm vm₁).calling g' mk (Value.ref b :: As).toArray, t, U', L, hT, X', hL, e1, e2, hq, st⟩
  · dsimp only [Pt.U, Pt.locs, Pt.cells, Pt.slots] at X' e1 e2 h1 h2 h3 st hcl
    subst h1; subst h2; subst h3
    exact Or.inr ⟨q, (T.setVm vm₁).calling g' mk (Value.ref b :: As).toArray, t, U', L, E, ce, hT, X', hL, e1, e2, hq, hce, hcv, vx_cls hW₁ hcl, st⟩
theorem vx_runSX {hh : List (Nat × Nat × Nat × Nat)} (S : CallFix p m c cc nL s args Ts own) (hM : vx_Met l y ws rm Pc Qc XC mc ms free) (cw : vx_CSW R s args own index y bytes maxL ret hh ws rm mc ms n) (hp : PreS s H Pc As)
    (hg : g.method = m) (hn : As.length = n) (hsize : g.locals.size = nL) (hstack : g.stack = As.reverse ++ rest) (hW : 2 * g.monitorRoom + (rest.map fun v => v.category).sum ≤ 8) (hdg : decode cc g.pc = .ok (.invokestatic index, 3)) (hf : cells + mc ≤ R.cells ∧ slots + ms ≤ R.slots) :
    vx_Run p l e R s m args below meth c H locs cells slots mc ms g rest (Qc As.toArray) XC free := by
  obtain ⟨⟨hrc, hrs, hfr, hlo, hws, hcw⟩, hcode, hini, hy, hlen, hl, hstt⟩ := cw
  have hK : vx_Back l R p e below s args y 3 8 (PreOf R mc ms Pc) (PostOf Qc mc ms free) (vx_Post XC mc ms free) := vx_backW (hh := hh) (bytes := bytes) (maxL := maxL) (ret := ret) hM hp.1 hrc hrs hfr hlo hws hcw (fun a' U hW => word_at hW (Or.inl (by first | rfl | simp [Cond.onTables, Cond.keeps, Cond.steady])) hini)
  obtain ⟨hx, hb, hml, ho, -⟩ := S
  intro T hT X
  rcases vx_callSX X hx (hh := hh) (bytes := bytes) (maxL := maxL) (ret := ret) ho hl hstt hini hcode hy hK hg (hsize.trans hml.symm) (argsL := As) (rest := rest) (fun sig h => hn.trans (hlen sig h)) hstack hW (by rw [hb]; exact hdg)
    (fun vm₁ hW₁ => ⟨hf.1, hf.2, hp.2 (T.setVm vm₁) hT hW₁⟩) with ⟨v, vm₁, ⟨U', l2, c2, s2⟩, hW₁, X', ⟨g', mk, t, L, e1, e2, hq, h1, hL, h2, h3⟩, st⟩ | ⟨q, vm₁, ⟨U', l2, c2, s2⟩, hW₁, X', ⟨g', mk, t, L, E, ce, e1, e2, hq, hce, hcv, hcl, h1, hL, h2, h3⟩, st⟩
  · dsimp only [Pt.U, Pt.locs, Pt.cells, Pt.slots] at X' e1 e2 h1 h2 h3 st
    subst h1; subst h2; subst h3
    exact Or.inl ⟨v, (T.setVm vm₁).calling g' mk As.toArray, t, U', L, hT, X', hL, e1, e2, hq, st⟩
  · dsimp only [Pt.U, Pt.locs, Pt.cells, Pt.slots] at X' e1 e2 h1 h2 h3 st hcl
    subst h1; subst h2; subst h3
    exact Or.inr ⟨q, (T.setVm vm₁).calling g' mk As.toArray, t, U', L, E, ce, hT, X', hL, e1, e2, hq, hce, hcv, vx_cls hW₁ hcl, st⟩
end
end VXH
theorem vx_ofWH {l : Launch} {y : MethodName} {ws ws' : List Cond} {rm : Room} {Pc : Array Value → State → Prop} {Qc : Array Value → State → Outcome → State → Prop} {XC : String → State → State → Prop} {mc ms : Nat} {free : Addr → Prop} {cc : ByteArray} {maxL : Nat} {ret : Option FieldType} {hh : List (Nat × Nat × Nat × Nat)}
    (hy : plainName y.cls = true) (hw : ws = Cond.codeWith y cc maxL ret hh :: ws')
    (body : ∀ p e s m args below meth c s₁, BodyLoose p l y (headSpec ws rm) cc maxL ret e s m args below meth c s₁ → c.maxLocals = maxL → Pc args s →
      W p l e (headSpec ws rm).room s m args below meth c s.heap [] 0 0 (vx_MQ below Qc XC args s mc ms free) (entryFrame m args maxL)) : vx_Met l y ws rm Pc Qc XC mc ms free := by
  refine MetFree.of_bodyS (code := cc) (maxLocals := maxL) (ret := ret) hy ?_ ?_
  · intro args s m h hn
    obtain ⟨m9, meth, c, hn9, h1, h2, h3, h4, -, h5, h6, -⟩ := Cond.codeWith_spec (atoms_spec (ws := ws) h _ (by rw [hw]; exact List.mem_cons_self))
    cases hn.symm.trans hn9
    exact ⟨meth, c, h1, h2, h3, h4, h5, h6⟩
  · intro p e s m args below meth c s₁ B hml hP _
    have hh0 : s₁.heap = s.heap := by rw [B.state]; rfl
    obtain ⟨t, a1, o, b1, b2, b3⟩ := body p e s m args below meth c s₁ B hml hP s₁ hh0 (Stand.of_body B)
    exact ⟨t, o, a1, b1, b2, b3⟩
/-! ===== END ===== -/

/-! ===== BEGIN printed: names, fields, word lists, decode rows ===== -/
def RX0 : String := "Twinrow$RowList"
def TX0 : u_T := fun k => match k with
  | 0 => ("Twinrow$RowList", "row", "I", true)
  | 1 => ("Twinrow$RowList", "values", "[I", true)
  | 2 => ("Twinrow$RowList", "begin", "I", true)
  | _ => ("Twinrow$RowList", "length", "I", true)
def tyX0 : Nat → FieldType := fun k => match k with
  | 0 => .int
  | 1 => .array .int
  | 2 => .int
  | _ => .int
abbrev wsX00 : List Cond := u_ws RX0 TX0 4
theorem nmX0 : ∀ a, a < 4 → ∀ b, b < 4 → a ≠ b → (TX0 a).2.1 ≠ (TX0 b).2.1 := by decide +kernel
theorem tyX0_ok : ∀ k, k < 4 → parseFieldDescriptor (TX0 k).2.2.1 = some (tyX0 k) := by decide +kernel
abbrev cX0_init : ByteArray := prog_2_method_1_code
def yX0_init : MethodName := ⟨RX0, "<init>", "(I[III)V"⟩
abbrev cX0_isPlace : ByteArray := prog_2_method_2_code
def yX0_isPlace : MethodName := ⟨RX0, "isPlace", "(I)Z"⟩
abbrev cX0_read : ByteArray := prog_2_method_3_code
def yX0_read : MethodName := ⟨RX0, "read", "(I)I"⟩
abbrev cX0_write : ByteArray := prog_2_method_4_code
def yX0_write : MethodName := ⟨RX0, "write", "(II)I"⟩
abbrev cX0_exchange : ByteArray := prog_2_method_5_code
def yX0_exchange : MethodName := ⟨RX0, "exchange", "(II)V"⟩
abbrev cX0_pieceOf : ByteArray := prog_2_method_6_code
def yX0_pieceOf : MethodName := ⟨RX0, "pieceOf", "(II)LTwinrow$RowList;"⟩
def RX1 : String := "Twinrow"
def TX1 : u_T := fun k => match k with
  | 0 => ("Twinrow", "lists", "[LTwinrow$RowList;", true)
  | 1 => ("Twinrow", "spare", "[I", true)
  | 2 => ("Twinrow", "knocks", "I", false)
  | _ => ("Twinrow", "refusals", "I", false)
def tyX1 : Nat → FieldType := fun k => match k with
  | 0 => .array (.object "Twinrow$RowList")
  | 1 => .array .int
  | 2 => .int
  | _ => .int
abbrev wsX10 : List Cond := u_ws RX1 TX1 4
theorem nmX1 : ∀ a, a < 4 → ∀ b, b < 4 → a ≠ b → (TX1 a).2.1 ≠ (TX1 b).2.1 := by decide +kernel
theorem tyX1_ok : ∀ k, k < 4 → parseFieldDescriptor (TX1 k).2.2.1 = some (tyX1 k) := by decide +kernel
abbrev cX1_init : ByteArray := prog_1_method_1_code
def yX1_init : MethodName := ⟨RX1, "<init>", "()V"⟩
abbrev cX1_lay : ByteArray := prog_1_method_2_code
def yX1_lay : MethodName := ⟨RX1, "lay", "(II)I"⟩
abbrev cX1_put : ByteArray := prog_1_method_3_code
def yX1_put : MethodName := ⟨RX1, "put", "(III)I"⟩
abbrev cX1_at : ByteArray := prog_1_method_4_code
def yX1_at : MethodName := ⟨RX1, "at", "(II)I"⟩
abbrev cX1_part : ByteArray := prog_1_method_5_code
def yX1_part : MethodName := ⟨RX1, "part", "(IIII)I"⟩
abbrev cX1_set : ByteArray := prog_1_method_6_code
def yX1_set : MethodName := ⟨RX1, "set", "(III)I"⟩
abbrev cX1_get : ByteArray := prog_1_method_7_code
def yX1_get : MethodName := ⟨RX1, "get", "(II)I"⟩
abbrev cX1_length : ByteArray := prog_1_method_8_code
def yX1_length : MethodName := ⟨RX1, "length", "(I)I"⟩
abbrev cX1_isEmpty : ByteArray := prog_1_method_9_code
def yX1_isEmpty : MethodName := ⟨RX1, "isEmpty", "(I)Z"⟩
abbrev cX1_text : ByteArray := prog_1_method_10_code
def yX1_text : MethodName := ⟨RX1, "text", "(I)Ljava/lang/String;"⟩
abbrev cX1_back : ByteArray := prog_1_method_11_code
def yX1_back : MethodName := ⟨RX1, "back", "(I)Ljava/lang/String;"⟩
abbrev cX1_indexOf : ByteArray := prog_1_method_12_code
def yX1_indexOf : MethodName := ⟨RX1, "indexOf", "(II)I"⟩
abbrev cX1_lastIndexOf : ByteArray := prog_1_method_13_code
def yX1_lastIndexOf : MethodName := ⟨RX1, "lastIndexOf", "(II)I"⟩
abbrev cX1_has : ByteArray := prog_1_method_14_code
def yX1_has : MethodName := ⟨RX1, "has", "(II)Z"⟩
abbrev cX1_often : ByteArray := prog_1_method_15_code
def yX1_often : MethodName := ⟨RX1, "often", "(II)I"⟩
abbrev cX1_hasAll : ByteArray := prog_1_method_16_code
def yX1_hasAll : MethodName := ⟨RX1, "hasAll", "(II)Z"⟩
abbrev cX1_areApart : ByteArray := prog_1_method_17_code
def yX1_areApart : MethodName := ⟨RX1, "areApart", "(II)Z"⟩
abbrev cX1_indexOfAll : ByteArray := prog_1_method_18_code
def yX1_indexOfAll : MethodName := ⟨RX1, "indexOfAll", "(II)I"⟩
abbrev cX1_areEqual : ByteArray := prog_1_method_19_code
def yX1_areEqual : MethodName := ⟨RX1, "areEqual", "(II)Z"⟩
abbrev cX1_code : ByteArray := prog_1_method_20_code
def yX1_code : MethodName := ⟨RX1, "code", "(I)I"⟩
abbrev cX1_walk : ByteArray := prog_1_method_21_code
def yX1_walk : MethodName := ⟨RX1, "walk", "(IIIZ)Ljava/lang/String;"⟩
abbrev cX1_sum : ByteArray := prog_1_method_22_code
def yX1_sum : MethodName := ⟨RX1, "sum", "(I)I"⟩
abbrev cX1_walkSet : ByteArray := prog_1_method_23_code
def yX1_walkSet : MethodName := ⟨RX1, "walkSet", "(IIIIZ)I"⟩
abbrev cX1_replaceAll : ByteArray := prog_1_method_24_code
def yX1_replaceAll : MethodName := ⟨RX1, "replaceAll", "(III)I"⟩
abbrev cX1_replaceOld : ByteArray := prog_1_method_25_code
def yX1_replaceOld : MethodName := ⟨RX1, "replaceOld", "(III)I"⟩
abbrev cX1_fill : ByteArray := prog_1_method_26_code
def yX1_fill : MethodName := ⟨RX1, "fill", "(II)I"⟩
abbrev cX1_sort : ByteArray := prog_1_method_27_code
def yX1_sort : MethodName := ⟨RX1, "sort", "(IZ)I"⟩
abbrev cX1_reverse : ByteArray := prog_1_method_28_code
def yX1_reverse : MethodName := ⟨RX1, "reverse", "(I)I"⟩
abbrev cX1_rotate : ByteArray := prog_1_method_29_code
def yX1_rotate : MethodName := ⟨RX1, "rotate", "(II)I"⟩
abbrev cX1_swap : ByteArray := prog_1_method_30_code
def yX1_swap : MethodName := ⟨RX1, "swap", "(III)I"⟩
abbrev cX1_add : ByteArray := prog_1_method_31_code
def yX1_add : MethodName := ⟨RX1, "add", "(II)I"⟩
abbrev cX1_addAt : ByteArray := prog_1_method_32_code
def yX1_addAt : MethodName := ⟨RX1, "addAt", "(III)I"⟩
abbrev cX1_addAll : ByteArray := prog_1_method_33_code
def yX1_addAll : MethodName := ⟨RX1, "addAll", "(II)I"⟩
abbrev cX1_remove : ByteArray := prog_1_method_34_code
def yX1_remove : MethodName := ⟨RX1, "remove", "(II)I"⟩
abbrev cX1_removeValue : ByteArray := prog_1_method_35_code
def yX1_removeValue : MethodName := ⟨RX1, "removeValue", "(II)I"⟩
abbrev cX1_removeAll : ByteArray := prog_1_method_36_code
def yX1_removeAll : MethodName := ⟨RX1, "removeAll", "(II)I"⟩
abbrev cX1_retainAll : ByteArray := prog_1_method_37_code
def yX1_retainAll : MethodName := ⟨RX1, "retainAll", "(II)I"⟩
abbrev cX1_removeIf : ByteArray := prog_1_method_38_code
def yX1_removeIf : MethodName := ⟨RX1, "removeIf", "(III)I"⟩
abbrev cX1_clear : ByteArray := prog_1_method_39_code
def yX1_clear : MethodName := ⟨RX1, "clear", "(I)I"⟩
abbrev cX1_walkChange : ByteArray := prog_1_method_40_code
def yX1_walkChange : MethodName := ⟨RX1, "walkChange", "(III)I"⟩
abbrev cX1_knock : ByteArray := prog_1_method_41_code
def yX1_knock : MethodName := ⟨RX1, "knock", "()I"⟩
abbrev cX1_house : ByteArray := prog_1_method_42_code
def yX1_house : MethodName := ⟨RX1, "house", "(I)I"⟩
abbrev cX1_rowOf : ByteArray := prog_1_method_43_code
def yX1_rowOf : MethodName := ⟨RX1, "rowOf", "(I)I"⟩
abbrev cX1_begin : ByteArray := prog_1_method_44_code
def yX1_begin : MethodName := ⟨RX1, "begin", "(I)I"⟩
abbrev cX1_isSound : ByteArray := prog_1_method_45_code
def yX1_isSound : MethodName := ⟨RX1, "isSound", "()Z"⟩
abbrev cX1_digest : ByteArray := prog_1_method_46_code
def yX1_digest : MethodName := ⟨RX1, "digest", "()J"⟩
abbrev cX1_listOrNull : ByteArray := prog_1_method_47_code
def yX1_listOrNull : MethodName := ⟨RX1, "listOrNull", "(I)LTwinrow$RowList;"⟩
abbrev cX1_listAt : ByteArray := prog_1_method_48_code
def yX1_listAt : MethodName := ⟨RX1, "listAt", "(I)LTwinrow$RowList;"⟩
abbrev cX1_twinAt : ByteArray := prog_1_method_49_code
def yX1_twinAt : MethodName := ⟨RX1, "twinAt", "(I)LTwinrow$RowList;"⟩
abbrev cX1_dropPartsOf : ByteArray := prog_1_method_50_code
def yX1_dropPartsOf : MethodName := ⟨RX1, "dropPartsOf", "(I)I"⟩
abbrev cX1_partsThere : ByteArray := prog_1_method_51_code
def yX1_partsThere : MethodName := ⟨RX1, "partsThere", "()I"⟩
abbrev cX1_placesOfRows : ByteArray := prog_1_method_52_code
def yX1_placesOfRows : MethodName := ⟨RX1, "placesOfRows", "()I"⟩
abbrev cX1_checkPart : ByteArray := prog_1_method_53_code
def yX1_checkPart : MethodName := ⟨RX1, "checkPart", "(I)V"⟩
abbrev cX1_checkPlace : ByteArray := prog_1_method_54_code
def yX1_checkPlace : MethodName := ⟨RX1, "checkPlace", "(LTwinrow$RowList;I)V"⟩
abbrev cX1_checkNumber : ByteArray := prog_1_method_55_code
def yX1_checkNumber : MethodName := ⟨RX1, "checkNumber", "(III)V"⟩
abbrev cX1_checkValue : ByteArray := prog_1_method_56_code
def yX1_checkValue : MethodName := ⟨RX1, "checkValue", "(I)V"⟩
abbrev cX1_checkRule : ByteArray := prog_1_method_57_code
def yX1_checkRule : MethodName := ⟨RX1, "checkRule", "(II)V"⟩
abbrev cX1_refuseIf : ByteArray := prog_1_method_58_code
def yX1_refuseIf : MethodName := ⟨RX1, "refuseIf", "(Z)I"⟩
abbrev cX1_stepsLeft : ByteArray := prog_1_method_59_code
def yX1_stepsLeft : MethodName := ⟨RX1, "stepsLeft", "(LTwinrow$RowList;IZ)I"⟩
abbrev cX1_placeAfter : ByteArray := prog_1_method_60_code
def yX1_placeAfter : MethodName := ⟨RX1, "placeAfter", "(IIZ)I"⟩
abbrev cX1_textOf : ByteArray := prog_1_method_61_code
def yX1_textOf : MethodName := ⟨RX1, "textOf", "(LTwinrow$RowList;IIZZ)Ljava/lang/String;"⟩
abbrev cX1_appendValue : ByteArray := prog_1_method_62_code
def yX1_appendValue : MethodName := ⟨RX1, "appendValue", "(Ljava/lang/StringBuilder;I)V"⟩
abbrev cX1_numberOf : ByteArray := prog_1_method_63_code
def yX1_numberOf : MethodName := ⟨RX1, "numberOf", "(I)I"⟩
abbrev cX1_codeOf : ByteArray := prog_1_method_64_code
def yX1_codeOf : MethodName := ⟨RX1, "codeOf", "(LTwinrow$RowList;II)I"⟩
abbrev cX1_firstPlace : ByteArray := prog_1_method_65_code
def yX1_firstPlace : MethodName := ⟨RX1, "firstPlace", "(LTwinrow$RowList;I)I"⟩
abbrev cX1_lastPlace : ByteArray := prog_1_method_66_code
def yX1_lastPlace : MethodName := ⟨RX1, "lastPlace", "(LTwinrow$RowList;I)I"⟩
abbrev cX1_stands : ByteArray := prog_1_method_67_code
def yX1_stands : MethodName := ⟨RX1, "stands", "(LTwinrow$RowList;I)Z"⟩
abbrev cX1_hasOneThatStands : ByteArray := prog_1_method_68_code
def yX1_hasOneThatStands : MethodName := ⟨RX1, "hasOneThatStands", "(LTwinrow$RowList;LTwinrow$RowList;Z)Z"⟩
abbrev cX1_hasAllFrom : ByteArray := prog_1_method_69_code
def yX1_hasAllFrom : MethodName := ⟨RX1, "hasAllFrom", "(LTwinrow$RowList;ILTwinrow$RowList;)Z"⟩
abbrev cX1_areSame : ByteArray := prog_1_method_70_code
def yX1_areSame : MethodName := ⟨RX1, "areSame", "(LTwinrow$RowList;LTwinrow$RowList;)Z"⟩
abbrev cX1_hasOneOfTest : ByteArray := prog_1_method_71_code
def yX1_hasOneOfTest : MethodName := ⟨RX1, "hasOneOfTest", "(LTwinrow$RowList;II)Z"⟩
abbrev cX1_isOfTest : ByteArray := prog_1_method_72_code
def yX1_isOfTest : MethodName := ⟨RX1, "isOfTest", "(III)Z"⟩
abbrev cX1_writeAll : ByteArray := prog_1_method_73_code
def yX1_writeAll : MethodName := ⟨RX1, "writeAll", "(LTwinrow$RowList;I)V"⟩
abbrev cX1_writeRuled : ByteArray := prog_1_method_74_code
def yX1_writeRuled : MethodName := ⟨RX1, "writeRuled", "(LTwinrow$RowList;IIIZ)I"⟩
abbrev cX1_ruled : ByteArray := prog_1_method_75_code
def yX1_ruled : MethodName := ⟨RX1, "ruled", "(III)I"⟩
abbrev cX1_withinNumbers : ByteArray := prog_1_method_76_code
def yX1_withinNumbers : MethodName := ⟨RX1, "withinNumbers", "(I)I"⟩
abbrev cX1_sink : ByteArray := prog_1_method_77_code
def yX1_sink : MethodName := ⟨RX1, "sink", "(LTwinrow$RowList;IZ)V"⟩
abbrev cX1_turn : ByteArray := prog_1_method_78_code
def yX1_turn : MethodName := ⟨RX1, "turn", "(LTwinrow$RowList;II)V"⟩
abbrev cX1_isSoundList : ByteArray := prog_1_method_79_code
def yX1_isSoundList : MethodName := ⟨RX1, "isSoundList", "(LTwinrow$RowList;)Z"⟩
abbrev cX1_isInRow : ByteArray := prog_1_method_80_code
def yX1_isInRow : MethodName := ⟨RX1, "isInRow", "(LTwinrow$RowList;LTwinrow$RowList;)Z"⟩
abbrev cX1_isEqualToOwn : ByteArray := prog_1_method_81_code
def yX1_isEqualToOwn : MethodName := ⟨RX1, "isEqualToOwn", "(LTwinrow$RowList;)Z"⟩
abbrev cX1_isSameBothWays : ByteArray := prog_1_method_82_code
def yX1_isSameBothWays : MethodName := ⟨RX1, "isSameBothWays", "(LTwinrow$RowList;)Z"⟩
abbrev cX1_areFirstsAndLasts : ByteArray := prog_1_method_83_code
def yX1_areFirstsAndLasts : MethodName := ⟨RX1, "areFirstsAndLasts", "(LTwinrow$RowList;)Z"⟩
abbrev cX1_mixed : ByteArray := prog_1_method_84_code
def yX1_mixed : MethodName := ⟨RX1, "mixed", "(JJ)J"⟩
abbrev cX1_mixedWithRow : ByteArray := prog_1_method_85_code
def yX1_mixedWithRow : MethodName := ⟨RX1, "mixedWithRow", "(JI)J"⟩
abbrev cX1_mixedWithList : ByteArray := prog_1_method_86_code
def yX1_mixedWithList : MethodName := ⟨RX1, "mixedWithList", "(JI)J"⟩
def RX2 : String := "TwinrowLaw$Out"
def TX2 : u_T := fun k => match k with
  | 0 => ("TwinrowLaw$Out", "n", "J", false)
  | _ => ("TwinrowLaw$Out", "s", "Ljava/lang/String;", false)
def tyX2 : Nat → FieldType := fun k => match k with
  | 0 => .long
  | _ => .object "java/lang/String"
abbrev wsX20 : List Cond := u_ws RX2 TX2 2
theorem nmX2 : ∀ a, a < 2 → ∀ b, b < 2 → a ≠ b → (TX2 a).2.1 ≠ (TX2 b).2.1 := by decide +kernel
theorem tyX2_ok : ∀ k, k < 2 → parseFieldDescriptor (TX2 k).2.2.1 = some (tyX2 k) := by decide +kernel
abbrev cX2_init : ByteArray := prog_4_method_1_code
def yX2_init : MethodName := ⟨RX2, "<init>", "()V"⟩
def RX3 : String := "TwinrowModel"
def TX3 : u_T := fun k => match k with
  | 0 => ("TwinrowModel", "rows", "[[I", true)
  | 1 => ("TwinrowModel", "rowsOf", "[I", true)
  | 2 => ("TwinrowModel", "begins", "[I", true)
  | 3 => ("TwinrowModel", "lengths", "[I", true)
  | 4 => ("TwinrowModel", "knocks", "I", false)
  | 5 => ("TwinrowModel", "refusals", "I", false)
  | 6 => ("TwinrowModel", "thrown", "I", false)
  | _ => ("TwinrowModel", "sum", "J", false)
def tyX3 : Nat → FieldType := fun k => match k with
  | 0 => .array (.array .int)
  | 1 => .array .int
  | 2 => .array .int
  | 3 => .array .int
  | 4 => .int
  | 5 => .int
  | 6 => .int
  | _ => .long
abbrev wsX30 : List Cond := u_ws RX3 TX3 8
theorem nmX3 : ∀ a, a < 8 → ∀ b, b < 8 → a ≠ b → (TX3 a).2.1 ≠ (TX3 b).2.1 := by decide +kernel
theorem tyX3_ok : ∀ k, k < 8 → parseFieldDescriptor (TX3 k).2.2.1 = some (tyX3 k) := by decide +kernel
abbrev cX3_init : ByteArray := prog_5_method_1_code
def yX3_init : MethodName := ⟨RX3, "<init>", "()V"⟩
abbrev cX3_isIn : ByteArray := prog_5_method_2_code
def yX3_isIn : MethodName := ⟨RX3, "isIn", "(III)Z"⟩
abbrev cX3_one : ByteArray := prog_5_method_3_code
def yX3_one : MethodName := ⟨RX3, "one", "(Z)I"⟩
abbrev cX3_isNoValue : ByteArray := prog_5_method_4_code
def yX3_isNoValue : MethodName := ⟨RX3, "isNoValue", "(I)Z"⟩
abbrev cX3_fails : ByteArray := prog_5_method_6_code
def yX3_fails : MethodName := ⟨RX3, "fails", "(ZZ)Z"⟩
abbrev cX3_isNoList : ByteArray := prog_5_method_7_code
def yX3_isNoList : MethodName := ⟨RX3, "isNoList", "(I)Z"⟩
abbrev cX3_isNoPlace : ByteArray := prog_5_method_8_code
def yX3_isNoPlace : MethodName := ⟨RX3, "isNoPlace", "(II)Z"⟩
abbrev cX3_isNoRowPlace : ByteArray := prog_5_method_9_code
def yX3_isNoRowPlace : MethodName := ⟨RX3, "isNoRowPlace", "(II)Z"⟩
abbrev cX3_value : ByteArray := prog_5_method_10_code
def yX3_value : MethodName := ⟨RX3, "value", "(II)I"⟩
abbrev cX3_write : ByteArray := prog_5_method_11_code
def yX3_write : MethodName := ⟨RX3, "write", "(III)V"⟩
abbrev cX3_all : ByteArray := prog_5_method_12_code
def yX3_all : MethodName := ⟨RX3, "all", "(I)[I"⟩
abbrev cX3_writeAll : ByteArray := prog_5_method_13_code
def yX3_writeAll : MethodName := ⟨RX3, "writeAll", "(I[I)V"⟩
abbrev cX3_refused : ByteArray := prog_5_method_14_code
def yX3_refused : MethodName := ⟨RX3, "refused", "()I"⟩
abbrev cX3_bounded : ByteArray := prog_5_method_15_code
def yX3_bounded : MethodName := ⟨RX3, "bounded", "(I)I"⟩
abbrev cX3_ruled : ByteArray := prog_5_method_16_code
def yX3_ruled : MethodName := ⟨RX3, "ruled", "(III)I"⟩
abbrev cX3_tested : ByteArray := prog_5_method_17_code
def yX3_tested : MethodName := ⟨RX3, "tested", "(III)Z"⟩
abbrev cX3_placeOf : ByteArray := prog_5_method_18_code
def yX3_placeOf : MethodName := ⟨RX3, "placeOf", "([II)I"⟩
abbrev cX3_oftenIn : ByteArray := prog_5_method_19_code
def yX3_oftenIn : MethodName := ⟨RX3, "oftenIn", "([II)I"⟩
abbrev cX3_shown : ByteArray := prog_5_method_20_code
def yX3_shown : MethodName := ⟨RX3, "shown", "(I)Ljava/lang/String;"⟩
abbrev cX3_lay : ByteArray := prog_5_method_21_code
def yX3_lay : MethodName := ⟨RX3, "lay", "(II)I"⟩
abbrev cX3_put : ByteArray := prog_5_method_22_code
def yX3_put : MethodName := ⟨RX3, "put", "(III)I"⟩
abbrev cX3_at : ByteArray := prog_5_method_23_code
def yX3_at : MethodName := ⟨RX3, "at", "(II)I"⟩
abbrev cX3_part : ByteArray := prog_5_method_24_code
def yX3_part : MethodName := ⟨RX3, "part", "(IIII)I"⟩
abbrev cX3_set : ByteArray := prog_5_method_25_code
def yX3_set : MethodName := ⟨RX3, "set", "(III)I"⟩
abbrev cX3_get : ByteArray := prog_5_method_26_code
def yX3_get : MethodName := ⟨RX3, "get", "(II)I"⟩
abbrev cX3_length : ByteArray := prog_5_method_27_code
def yX3_length : MethodName := ⟨RX3, "length", "(I)I"⟩
abbrev cX3_isEmpty : ByteArray := prog_5_method_28_code
def yX3_isEmpty : MethodName := ⟨RX3, "isEmpty", "(I)Z"⟩
abbrev cX3_line : ByteArray := prog_5_method_29_code
def yX3_line : MethodName := ⟨RX3, "line", "(IZ)Ljava/lang/String;"⟩
abbrev cX3_text : ByteArray := prog_5_method_30_code
def yX3_text : MethodName := ⟨RX3, "text", "(I)Ljava/lang/String;"⟩
abbrev cX3_back : ByteArray := prog_5_method_31_code
def yX3_back : MethodName := ⟨RX3, "back", "(I)Ljava/lang/String;"⟩
abbrev cX3_indexOf : ByteArray := prog_5_method_32_code
def yX3_indexOf : MethodName := ⟨RX3, "indexOf", "(II)I"⟩
abbrev cX3_lastIndexOf : ByteArray := prog_5_method_33_code
def yX3_lastIndexOf : MethodName := ⟨RX3, "lastIndexOf", "(II)I"⟩
abbrev cX3_has : ByteArray := prog_5_method_34_code
def yX3_has : MethodName := ⟨RX3, "has", "(II)Z"⟩
abbrev cX3_often : ByteArray := prog_5_method_35_code
def yX3_often : MethodName := ⟨RX3, "often", "(II)I"⟩
abbrev cX3_shared : ByteArray := prog_5_method_36_code
def yX3_shared : MethodName := ⟨RX3, "shared", "(II)I"⟩
abbrev cX3_isNoPair : ByteArray := prog_5_method_37_code
def yX3_isNoPair : MethodName := ⟨RX3, "isNoPair", "(II)Z"⟩
abbrev cX3_hasAll : ByteArray := prog_5_method_38_code
def yX3_hasAll : MethodName := ⟨RX3, "hasAll", "(II)Z"⟩
abbrev cX3_areApart : ByteArray := prog_5_method_39_code
def yX3_areApart : MethodName := ⟨RX3, "areApart", "(II)Z"⟩
abbrev cX3_isAt : ByteArray := prog_5_method_40_code
def yX3_isAt : MethodName := ⟨RX3, "isAt", "([II[I)Z"⟩
abbrev cX3_indexOfAll : ByteArray := prog_5_method_41_code
def yX3_indexOfAll : MethodName := ⟨RX3, "indexOfAll", "(II)I"⟩
abbrev cX3_areEqual : ByteArray := prog_5_method_42_code
def yX3_areEqual : MethodName := ⟨RX3, "areEqual", "(II)Z"⟩
abbrev cX3_codeNow : ByteArray := prog_5_method_43_code
def yX3_codeNow : MethodName := ⟨RX3, "codeNow", "(I)I"⟩
abbrev cX3_code : ByteArray := prog_5_method_44_code
def yX3_code : MethodName := ⟨RX3, "code", "(I)I"⟩
abbrev cX3_isBeyond : ByteArray := prog_5_method_45_code
def yX3_isBeyond : MethodName := ⟨RX3, "isBeyond", "(II)Z"⟩
abbrev cX3_walk : ByteArray := prog_5_method_46_code
def yX3_walk : MethodName := ⟨RX3, "walk", "(IIIZ)Ljava/lang/String;"⟩
abbrev cX3_sumNow : ByteArray := prog_5_method_47_code
def yX3_sumNow : MethodName := ⟨RX3, "sumNow", "(I)I"⟩
abbrev cX3_sum : ByteArray := prog_5_method_48_code
def yX3_sum : MethodName := ⟨RX3, "sum", "(I)I"⟩
abbrev cX3_isNoRule : ByteArray := prog_5_method_49_code
def yX3_isNoRule : MethodName := ⟨RX3, "isNoRule", "(II)Z"⟩
abbrev cX3_ruledAll : ByteArray := prog_5_method_50_code
def yX3_ruledAll : MethodName := ⟨RX3, "ruledAll", "(IIIII)I"⟩
abbrev cX3_walkSet : ByteArray := prog_5_method_51_code
def yX3_walkSet : MethodName := ⟨RX3, "walkSet", "(IIIIZ)I"⟩
abbrev cX3_replaceAll : ByteArray := prog_5_method_52_code
def yX3_replaceAll : MethodName := ⟨RX3, "replaceAll", "(III)I"⟩
abbrev cX3_replaceOld : ByteArray := prog_5_method_53_code
def yX3_replaceOld : MethodName := ⟨RX3, "replaceOld", "(III)I"⟩
abbrev cX3_fill : ByteArray := prog_5_method_54_code
def yX3_fill : MethodName := ⟨RX3, "fill", "(II)I"⟩
abbrev cX3_sort : ByteArray := prog_5_method_55_code
def yX3_sort : MethodName := ⟨RX3, "sort", "(IZ)I"⟩
abbrev cX3_reverse : ByteArray := prog_5_method_56_code
def yX3_reverse : MethodName := ⟨RX3, "reverse", "(I)I"⟩
abbrev cX3_rotate : ByteArray := prog_5_method_57_code
def yX3_rotate : MethodName := ⟨RX3, "rotate", "(II)I"⟩
abbrev cX3_swap : ByteArray := prog_5_method_58_code
def yX3_swap : MethodName := ⟨RX3, "swap", "(III)I"⟩
abbrev cX3_refusedIf : ByteArray := prog_5_method_59_code
def yX3_refusedIf : MethodName := ⟨RX3, "refusedIf", "(Z)I"⟩
abbrev cX3_add : ByteArray := prog_5_method_60_code
def yX3_add : MethodName := ⟨RX3, "add", "(II)I"⟩
abbrev cX3_addAt : ByteArray := prog_5_method_61_code
def yX3_addAt : MethodName := ⟨RX3, "addAt", "(III)I"⟩
abbrev cX3_addAll : ByteArray := prog_5_method_62_code
def yX3_addAll : MethodName := ⟨RX3, "addAll", "(II)I"⟩
abbrev cX3_remove : ByteArray := prog_5_method_63_code
def yX3_remove : MethodName := ⟨RX3, "remove", "(II)I"⟩
abbrev cX3_removeValue : ByteArray := prog_5_method_64_code
def yX3_removeValue : MethodName := ⟨RX3, "removeValue", "(II)I"⟩
abbrev cX3_removeAll : ByteArray := prog_5_method_65_code
def yX3_removeAll : MethodName := ⟨RX3, "removeAll", "(II)I"⟩
abbrev cX3_retainAll : ByteArray := prog_5_method_66_code
def yX3_retainAll : MethodName := ⟨RX3, "retainAll", "(II)I"⟩
abbrev cX3_removeIf : ByteArray := prog_5_method_67_code
def yX3_removeIf : MethodName := ⟨RX3, "removeIf", "(III)I"⟩
abbrev cX3_clear : ByteArray := prog_5_method_68_code
def yX3_clear : MethodName := ⟨RX3, "clear", "(I)I"⟩
abbrev cX3_walkChange : ByteArray := prog_5_method_69_code
def yX3_walkChange : MethodName := ⟨RX3, "walkChange", "(III)I"⟩
abbrev cX3_knock : ByteArray := prog_5_method_70_code
def yX3_knock : MethodName := ⟨RX3, "knock", "()I"⟩
abbrev cX3_houseNow : ByteArray := prog_5_method_71_code
def yX3_houseNow : MethodName := ⟨RX3, "houseNow", "(I)I"⟩
abbrev cX3_house : ByteArray := prog_5_method_72_code
def yX3_house : MethodName := ⟨RX3, "house", "(I)I"⟩
abbrev cX3_beginNow : ByteArray := prog_5_method_73_code
def yX3_beginNow : MethodName := ⟨RX3, "beginNow", "(I)I"⟩
abbrev cX3_rowOf : ByteArray := prog_5_method_74_code
def yX3_rowOf : MethodName := ⟨RX3, "rowOf", "(I)I"⟩
abbrev cX3_begin : ByteArray := prog_5_method_75_code
def yX3_begin : MethodName := ⟨RX3, "begin", "(I)I"⟩
abbrev cX3_isSound : ByteArray := prog_5_method_76_code
def yX3_isSound : MethodName := ⟨RX3, "isSound", "()Z"⟩
abbrev cX3_add_ : ByteArray := prog_5_method_77_code
def yX3_add_ : MethodName := ⟨RX3, "add", "(J)V"⟩
abbrev cX3_digest : ByteArray := prog_5_method_78_code
def yX3_digest : MethodName := ⟨RX3, "digest", "()J"⟩
def RJ5 : String := "java/lang/AbstractStringBuilder"
def TJ5 : u_T := fun k => match k with
  | _ => ("", "", "", false)
def tyJ5 : Nat → FieldType := fun k => match k with
  | _ => .int
abbrev wsJ50 : List Cond := u_ws RJ5 TJ5 0
theorem nmJ5 : ∀ a, a < 0 → ∀ b, b < 0 → a ≠ b → (TJ5 a).2.1 ≠ (TJ5 b).2.1 := by decide +kernel
theorem tyJ5_ok : ∀ k, k < 0 → parseFieldDescriptor (TJ5 k).2.2.1 = some (tyJ5 k) := by decide +kernel
abbrev cJ5_init_d00df : ByteArray := prog_6_method_2_code
def yJ5_init_d00df : MethodName := ⟨RJ5, "<init>", "(I)V"⟩
abbrev cJ5_length_8abf5 : ByteArray := prog_6_method_6_code
def yJ5_length_8abf5 : MethodName := ⟨RJ5, "length", "()I"⟩
abbrev cJ5_ensureCapacityInternal_d00df : ByteArray := prog_6_method_9_code
def yJ5_ensureCapacityInternal_d00df : MethodName := ⟨RJ5, "ensureCapacityInternal", "(I)V"⟩
abbrev cJ5_newCapacity_0f7a4 : ByteArray := prog_6_method_10_code
def yJ5_newCapacity_0f7a4 : MethodName := ⟨RJ5, "newCapacity", "(I)I"⟩
abbrev cJ5_inflate_da8c8 : ByteArray := prog_6_method_11_code
def yJ5_inflate_da8c8 : MethodName := ⟨RJ5, "inflate", "()V"⟩
abbrev cJ5_append_cf1ce : ByteArray := prog_6_method_22_code
def yJ5_append_cf1ce : MethodName := ⟨RJ5, "append", "(Ljava/lang/String;)Ljava/lang/AbstractStringBuilder;"⟩
abbrev cJ5_appendNull_278bc : ByteArray := prog_6_method_26_code
def yJ5_appendNull_278bc : MethodName := ⟨RJ5, "appendNull", "()Ljava/lang/AbstractStringBuilder;"⟩
abbrev cJ5_append_3fe6f : ByteArray := prog_6_method_31_code
def yJ5_append_3fe6f : MethodName := ⟨RJ5, "append", "(C)Ljava/lang/AbstractStringBuilder;"⟩
abbrev cJ5_append_c97b9 : ByteArray := prog_6_method_32_code
def yJ5_append_c97b9 : MethodName := ⟨RJ5, "append", "(I)Ljava/lang/AbstractStringBuilder;"⟩
abbrev cJ5_getValue_6d5f1 : ByteArray := prog_6_method_64_code
def yJ5_getValue_6d5f1 : MethodName := ⟨RJ5, "getValue", "()[B"⟩
abbrev cJ5_isLatin1_aae02 : ByteArray := prog_6_method_68_code
def yJ5_isLatin1_aae02 : MethodName := ⟨RJ5, "isLatin1", "()Z"⟩
abbrev cJ5_inflateIfNeededFor_a7421 : ByteArray := prog_6_method_71_code
def yJ5_inflateIfNeededFor_a7421 : MethodName := ⟨RJ5, "inflateIfNeededFor", "(Ljava/lang/String;)V"⟩
abbrev cJ5_putStringAt_47b60 : ByteArray := prog_6_method_73_code
def yJ5_putStringAt_47b60 : MethodName := ⟨RJ5, "putStringAt", "(ILjava/lang/String;)V"⟩
def RJx8e188 : String := "java/lang/Cloneable"
def TJx8e188 : u_T := fun k => match k with
  | _ => ("", "", "", false)
def tyJx8e188 : Nat → FieldType := fun k => match k with
  | _ => .int
abbrev wsJx8e1880 : List Cond := u_ws RJx8e188 TJx8e188 0
theorem nmJx8e188 : ∀ a, a < 0 → ∀ b, b < 0 → a ≠ b → (TJx8e188 a).2.1 ≠ (TJx8e188 b).2.1 := by decide +kernel
theorem tyJx8e188_ok : ∀ k, k < 0 → parseFieldDescriptor (TJx8e188 k).2.2.1 = some (tyJx8e188 k) := by decide +kernel
def RJ6 : String := "java/lang/Integer"
def TJ6 : u_T := fun k => match k with
  | _ => ("", "", "", false)
def tyJ6 : Nat → FieldType := fun k => match k with
  | _ => .int
abbrev wsJ60 : List Cond := u_ws RJ6 TJ6 0
theorem nmJ6 : ∀ a, a < 0 → ∀ b, b < 0 → a ≠ b → (TJ6 a).2.1 ≠ (TJ6 b).2.1 := by decide +kernel
theorem tyJ6_ok : ∀ k, k < 0 → parseFieldDescriptor (TJ6 k).2.2.1 = some (tyJ6 k) := by decide +kernel
abbrev cJ6_getChars_ba4f3 : ByteArray := prog_11_method_12_code
def yJ6_getChars_ba4f3 : MethodName := ⟨RJ6, "getChars", "(II[B)I"⟩
abbrev cJ6_stringSize_0f7a4 : ByteArray := prog_11_method_13_code
def yJ6_stringSize_0f7a4 : MethodName := ⟨RJ6, "stringSize", "(I)I"⟩
abbrev cJ6_compare_7cf53 : ByteArray := prog_11_method_40_code
def yJ6_compare_7cf53 : MethodName := ⟨RJ6, "compare", "(II)I"⟩
def RJ9 : String := "java/lang/Math"
def TJ9 : u_T := fun k => match k with
  | _ => ("", "", "", false)
def tyJ9 : Nat → FieldType := fun k => match k with
  | _ => .int
abbrev wsJ90 : List Cond := u_ws RJ9 TJ9 0
theorem nmJ9 : ∀ a, a < 0 → ∀ b, b < 0 → a ≠ b → (TJ9 a).2.1 ≠ (TJ9 b).2.1 := by decide +kernel
theorem tyJ9_ok : ∀ k, k < 0 → parseFieldDescriptor (TJ9 k).2.2.1 = some (tyJ9 k) := by decide +kernel
abbrev cJ9_floorMod_7cf53 : ByteArray := prog_12_method_50_code
def yJ9_floorMod_7cf53 : MethodName := ⟨RJ9, "floorMod", "(II)I"⟩
abbrev cJ9_max_7cf53 : ByteArray := prog_12_method_65_code
def yJ9_max_7cf53 : MethodName := ⟨RJ9, "max", "(II)I"⟩
abbrev cJ9_min_7cf53 : ByteArray := prog_12_method_69_code
def yJ9_min_7cf53 : MethodName := ⟨RJ9, "min", "(II)I"⟩
def RJ0 : String := "java/lang/String"
def TJ0 : u_T := fun k => match k with
  | 0 => ("java/lang/String", "value", "[B", true)
  | 1 => ("java/lang/String", "coder", "B", true)
  | 2 => ("java/lang/String", "hash", "I", false)
  | _ => ("java/lang/String", "hashIsZero", "Z", false)
def tyJ0 : Nat → FieldType := fun k => match k with
  | 0 => .array .byte
  | 1 => .byte
  | 2 => .int
  | _ => .boolean
abbrev wsJ00 : List Cond := u_ws RJ0 TJ0 4
theorem nmJ0 : ∀ a, a < 4 → ∀ b, b < 4 → a ≠ b → (TJ0 a).2.1 ≠ (TJ0 b).2.1 := by decide +kernel
theorem tyJ0_ok : ∀ k, k < 4 → parseFieldDescriptor (TJ0 k).2.2.1 = some (tyJ0 k) := by decide +kernel
abbrev cJ0_init_81219 : ByteArray := prog_14_method_53_code
def yJ0_init_81219 : MethodName := ⟨RJ0, "<init>", "(Ljava/lang/StringBuilder;)V"⟩
abbrev cJ0_length_8abf5 : ByteArray := prog_14_method_54_code
def yJ0_length_8abf5 : MethodName := ⟨RJ0, "length", "()I"⟩
abbrev cJ0_isEmpty_aae02 : ByteArray := prog_14_method_55_code
def yJ0_isEmpty_aae02 : MethodName := ⟨RJ0, "isEmpty", "()Z"⟩
abbrev cJ0_getBytes_840e7 : ByteArray := prog_14_method_147_code
def yJ0_getBytes_840e7 : MethodName := ⟨RJ0, "getBytes", "([BIB)V"⟩
abbrev cJ0_init_db425 : ByteArray := prog_14_method_150_code
def yJ0_init_db425 : MethodName := ⟨RJ0, "<init>", "(Ljava/lang/AbstractStringBuilder;Ljava/lang/Void;)V"⟩
abbrev cJ0_coder_7d493 : ByteArray := prog_14_method_152_code
def yJ0_coder_7d493 : MethodName := ⟨RJ0, "coder", "()B"⟩
abbrev cJ0_checkIndex_df160 : ByteArray := prog_14_method_155_code
def yJ0_checkIndex_df160 : MethodName := ⟨RJ0, "checkIndex", "(II)V"⟩
abbrev cJ0_checkBoundsOffCount_cabcc : ByteArray := prog_14_method_157_code
def yJ0_checkBoundsOffCount_cabcc : MethodName := ⟨RJ0, "checkBoundsOffCount", "(III)I"⟩
abbrev cJ0_checkBoundsBeginEnd_23922 : ByteArray := prog_14_method_158_code
def yJ0_checkBoundsBeginEnd_23922 : MethodName := ⟨RJ0, "checkBoundsBeginEnd", "(III)V"⟩
def RJ4 : String := "java/lang/StringBuilder"
def TJ4 : u_T := fun k => match k with
  | 0 => ("java/lang/AbstractStringBuilder", "value", "[B", false)
  | 1 => ("java/lang/AbstractStringBuilder", "coder", "B", false)
  | 2 => ("java/lang/AbstractStringBuilder", "maybeLatin1", "Z", false)
  | _ => ("java/lang/AbstractStringBuilder", "count", "I", false)
def tyJ4 : Nat → FieldType := fun k => match k with
  | 0 => .array .byte
  | 1 => .byte
  | 2 => .boolean
  | _ => .int
abbrev wsJ40 : List Cond := u_ws RJ4 TJ4 4
theorem nmJ4 : ∀ a, a < 4 → ∀ b, b < 4 → a ≠ b → (TJ4 a).2.1 ≠ (TJ4 b).2.1 := by decide +kernel
theorem tyJ4_ok : ∀ k, k < 4 → parseFieldDescriptor (TJ4 k).2.2.1 = some (tyJ4 k) := by decide +kernel
abbrev cJ4_init_da8c8 : ByteArray := prog_15_method_1_code
def yJ4_init_da8c8 : MethodName := ⟨RJ4, "<init>", "()V"⟩
abbrev cJ4_append_15ec4 : ByteArray := prog_15_method_7_code
def yJ4_append_15ec4 : MethodName := ⟨RJ4, "append", "(Ljava/lang/String;)Ljava/lang/StringBuilder;"⟩
abbrev cJ4_append_cf468 : ByteArray := prog_15_method_14_code
def yJ4_append_cf468 : MethodName := ⟨RJ4, "append", "(C)Ljava/lang/StringBuilder;"⟩
abbrev cJ4_append_bf812 : ByteArray := prog_15_method_15_code
def yJ4_append_bf812 : MethodName := ⟨RJ4, "append", "(I)Ljava/lang/StringBuilder;"⟩
abbrev cJ4_toString_0e30d : ByteArray := prog_15_method_42_code
def yJ4_toString_0e30d : MethodName := ⟨RJ4, "toString", "()Ljava/lang/String;"⟩
abbrev cJ4_length_8abf5 : ByteArray := prog_15_method_93_code
def yJ4_length_8abf5 : MethodName := ⟨RJ4, "length", "()I"⟩
def RJ1 : String := "java/lang/StringLatin1"
def TJ1 : u_T := fun k => match k with
  | _ => ("", "", "", false)
def tyJ1 : Nat → FieldType := fun k => match k with
  | _ => .int
abbrev wsJ10 : List Cond := u_ws RJ1 TJ1 0
theorem nmJ1 : ∀ a, a < 0 → ∀ b, b < 0 → a ≠ b → (TJ1 a).2.1 ≠ (TJ1 b).2.1 := by decide +kernel
theorem tyJ1_ok : ∀ k, k < 0 → parseFieldDescriptor (TJ1 k).2.2.1 = some (tyJ1 k) := by decide +kernel
abbrev cJ1_canEncode_fc78d : ByteArray := prog_16_method_3_code
def yJ1_canEncode_fc78d : MethodName := ⟨RJ1, "canEncode", "(C)Z"⟩
abbrev cJ1_inflate_0e8fd : ByteArray := prog_16_method_50_code
def yJ1_inflate_0e8fd : MethodName := ⟨RJ1, "inflate", "([BI[BII)V"⟩
def RJ2 : String := "java/lang/StringUTF16"
def TJ2 : u_T := fun k => match k with
  | _ => ("", "", "", false)
def tyJ2 : Nat → FieldType := fun k => match k with
  | _ => .int
abbrev wsJ20 : List Cond := u_ws RJ2 TJ2 0
theorem nmJ2 : ∀ a, a < 0 → ∀ b, b < 0 → a ≠ b → (TJ2 a).2.1 ≠ (TJ2 b).2.1 := by decide +kernel
theorem tyJ2_ok : ∀ k, k < 0 → parseFieldDescriptor (TJ2 k).2.2.1 = some (tyJ2 k) := by decide +kernel
abbrev cJ2_newBytesFor_77867 : ByteArray := prog_17_method_2_code
def yJ2_newBytesFor_77867 : MethodName := ⟨RJ2, "newBytesFor", "(I)[B"⟩
abbrev cJ2_newBytesLength_0f7a4 : ByteArray := prog_17_method_3_code
def yJ2_newBytesLength_0f7a4 : MethodName := ⟨RJ2, "newBytesLength", "(I)I"⟩
abbrev cJ2_putChar_b72d1 : ByteArray := prog_17_method_4_code
def yJ2_putChar_b72d1 : MethodName := ⟨RJ2, "putChar", "([BII)V"⟩
abbrev cJ2_getChar_3b067 : ByteArray := prog_17_method_5_code
def yJ2_getChar_3b067 : MethodName := ⟨RJ2, "getChar", "([BI)C"⟩
abbrev cJ2_length_9d52b : ByteArray := prog_17_method_6_code
def yJ2_length_9d52b : MethodName := ⟨RJ2, "length", "([B)I"⟩
abbrev cJ2_coderFromArrayLen_85cad : ByteArray := prog_17_method_15_code
def yJ2_coderFromArrayLen_85cad : MethodName := ⟨RJ2, "coderFromArrayLen", "([BI)B"⟩
abbrev cJ2_compress_39247 : ByteArray := prog_17_method_17_code
def yJ2_compress_39247 : MethodName := ⟨RJ2, "compress", "([BII)[B"⟩
abbrev cJ2_compress_5af95 : ByteArray := prog_17_method_22_code
def yJ2_compress_5af95 : MethodName := ⟨RJ2, "compress", "([BI[BII)I"⟩
abbrev cJ2_putCharSB_b72d1 : ByteArray := prog_17_method_71_code
def yJ2_putCharSB_b72d1 : MethodName := ⟨RJ2, "putCharSB", "([BII)V"⟩
abbrev cJ2_getChars_46870 : ByteArray := prog_17_method_77_code
def yJ2_getChars_46870 : MethodName := ⟨RJ2, "getChars", "(III[B)I"⟩
abbrev cJ2_putCharsAt_cd4e5 : ByteArray := prog_17_method_81_code
def yJ2_putCharsAt_cd4e5 : MethodName := ⟨RJ2, "putCharsAt", "([BICCCC)I"⟩
abbrev cJ2_inflate_0e8fd : ByteArray := prog_17_method_86_code
def yJ2_inflate_0e8fd : MethodName := ⟨RJ2, "inflate", "([BI[BII)V"⟩
abbrev cJ2_getChars_ba4f3 : ByteArray := prog_17_method_89_code
def yJ2_getChars_ba4f3 : MethodName := ⟨RJ2, "getChars", "(II[B)I"⟩
abbrev cJ2_checkIndex_2214a : ByteArray := prog_17_method_91_code
def yJ2_checkIndex_2214a : MethodName := ⟨RJ2, "checkIndex", "(I[B)V"⟩
abbrev cJ2_checkBoundsBeginEnd_d044e : ByteArray := prog_17_method_93_code
def yJ2_checkBoundsBeginEnd_d044e : MethodName := ⟨RJ2, "checkBoundsBeginEnd", "(II[B)V"⟩
abbrev cJ2_checkBoundsOffCount_d044e : ByteArray := prog_17_method_94_code
def yJ2_checkBoundsOffCount_d044e : MethodName := ⟨RJ2, "checkBoundsOffCount", "(II[B)V"⟩
def RJ10 : String := "java/lang/System"
def TJ10 : u_T := fun k => match k with
  | _ => ("", "", "", false)
def tyJ10 : Nat → FieldType := fun k => match k with
  | _ => .int
abbrev wsJ100 : List Cond := u_ws RJ10 TJ10 0
theorem nmJ10 : ∀ a, a < 0 → ∀ b, b < 0 → a ≠ b → (TJ10 a).2.1 ≠ (TJ10 b).2.1 := by decide +kernel
theorem tyJ10_ok : ∀ k, k < 0 → parseFieldDescriptor (TJ10 k).2.2.1 = some (tyJ10 k) := by decide +kernel
def RJ7 : String := "java/util/Arrays"
def TJ7 : u_T := fun k => match k with
  | _ => ("", "", "", false)
def tyJ7 : Nat → FieldType := fun k => match k with
  | _ => .int
abbrev wsJ70 : List Cond := u_ws RJ7 TJ7 0
theorem nmJ7 : ∀ a, a < 0 → ∀ b, b < 0 → a ≠ b → (TJ7 a).2.1 ≠ (TJ7 b).2.1 := by decide +kernel
theorem tyJ7_ok : ∀ k, k < 0 → parseFieldDescriptor (TJ7 k).2.2.1 = some (tyJ7 k) := by decide +kernel
abbrev cJ7_copyOf_9075b : ByteArray := prog_20_method_121_code
def yJ7_copyOf_9075b : MethodName := ⟨RJ7, "copyOf", "([BI)[B"⟩
abbrev cJ7_checkLength_df160 : ByteArray := prog_20_method_131_code
def yJ7_checkLength_df160 : MethodName := ⟨RJ7, "checkLength", "(II)V"⟩
abbrev cJ7_copyOfRange_39247 : ByteArray := prog_20_method_132_code
def yJ7_copyOfRange_39247 : MethodName := ⟨RJ7, "copyOfRange", "([BII)[B"⟩
abbrev cJ7_copyOfRangeByte_39247 : ByteArray := prog_20_method_133_code
def yJ7_copyOfRangeByte_39247 : MethodName := ⟨RJ7, "copyOfRangeByte", "([BII)[B"⟩
def RJ8 : String := "jdk/internal/util/ArraysSupport"
def TJ8 : u_T := fun k => match k with
  | _ => ("", "", "", false)
def tyJ8 : Nat → FieldType := fun k => match k with
  | _ => .int
abbrev wsJ80 : List Cond := u_ws RJ8 TJ8 0
theorem nmJ8 : ∀ a, a < 0 → ∀ b, b < 0 → a ≠ b → (TJ8 a).2.1 ≠ (TJ8 b).2.1 := by decide +kernel
theorem tyJ8_ok : ∀ k, k < 0 → parseFieldDescriptor (TJ8 k).2.2.1 = some (tyJ8 k) := by decide +kernel
abbrev cJ8_newLength_cabcc : ByteArray := prog_21_method_27_code
def yJ8_newLength_cabcc : MethodName := ⟨RJ8, "newLength", "(III)I"⟩
abbrev cJ8_hugeLength_7cf53 : ByteArray := prog_21_method_28_code
def yJ8_hugeLength_7cf53 : MethodName := ⟨RJ8, "hugeLength", "(II)I"⟩
def RJ3 : String := "jdk/internal/util/Preconditions"
def TJ3 : u_T := fun k => match k with
  | _ => ("", "", "", false)
def tyJ3 : Nat → FieldType := fun k => match k with
  | _ => .int
abbrev wsJ30 : List Cond := u_ws RJ3 TJ3 0
theorem nmJ3 : ∀ a, a < 0 → ∀ b, b < 0 → a ≠ b → (TJ3 a).2.1 ≠ (TJ3 b).2.1 := by decide +kernel
theorem tyJ3_ok : ∀ k, k < 0 → parseFieldDescriptor (TJ3 k).2.2.1 = some (tyJ3 k) := by decide +kernel
abbrev cJ3_checkIndex_8e157 : ByteArray := prog_22_method_11_code
def yJ3_checkIndex_8e157 : MethodName := ⟨RJ3, "checkIndex", "(IILjava/util/function/BiFunction;)I"⟩
abbrev cJ3_checkFromToIndex_8c36e : ByteArray := prog_22_method_12_code
def yJ3_checkFromToIndex_8c36e : MethodName := ⟨RJ3, "checkFromToIndex", "(IIILjava/util/function/BiFunction;)I"⟩
abbrev cJ3_checkFromIndexSize_8c36e : ByteArray := prog_22_method_13_code
def yJ3_checkFromIndexSize_8c36e : MethodName := ⟨RJ3, "checkFromIndexSize", "(IIILjava/util/function/BiFunction;)I"⟩
def RL : String := "TwinrowLaw"
abbrev cL_lay : ByteArray := method_2_code
def yL_lay : MethodName := ⟨RL, "lay", "(LTwinrow;IILTwinrowLaw$Out;)I"⟩
abbrev cL_put : ByteArray := method_3_code
def yL_put : MethodName := ⟨RL, "put", "(LTwinrow;IIILTwinrowLaw$Out;)I"⟩
abbrev cL_at : ByteArray := method_4_code
def yL_at : MethodName := ⟨RL, "at", "(LTwinrow;IILTwinrowLaw$Out;)I"⟩
abbrev cL_part : ByteArray := method_5_code
def yL_part : MethodName := ⟨RL, "part", "(LTwinrow;IIIILTwinrowLaw$Out;)I"⟩
abbrev cL_set : ByteArray := method_6_code
def yL_set : MethodName := ⟨RL, "set", "(LTwinrow;IIILTwinrowLaw$Out;)I"⟩
abbrev cL_get : ByteArray := method_7_code
def yL_get : MethodName := ⟨RL, "get", "(LTwinrow;IILTwinrowLaw$Out;)I"⟩
abbrev cL_length : ByteArray := method_8_code
def yL_length : MethodName := ⟨RL, "length", "(LTwinrow;ILTwinrowLaw$Out;)I"⟩
abbrev cL_isEmpty : ByteArray := method_9_code
def yL_isEmpty : MethodName := ⟨RL, "isEmpty", "(LTwinrow;ILTwinrowLaw$Out;)I"⟩
abbrev cL_text : ByteArray := method_10_code
def yL_text : MethodName := ⟨RL, "text", "(LTwinrow;ILTwinrowLaw$Out;)I"⟩
abbrev cL_back : ByteArray := method_11_code
def yL_back : MethodName := ⟨RL, "back", "(LTwinrow;ILTwinrowLaw$Out;)I"⟩
abbrev cL_indexOf : ByteArray := method_12_code
def yL_indexOf : MethodName := ⟨RL, "indexOf", "(LTwinrow;IILTwinrowLaw$Out;)I"⟩
abbrev cL_lastIndexOf : ByteArray := method_13_code
def yL_lastIndexOf : MethodName := ⟨RL, "lastIndexOf", "(LTwinrow;IILTwinrowLaw$Out;)I"⟩
abbrev cL_has : ByteArray := method_14_code
def yL_has : MethodName := ⟨RL, "has", "(LTwinrow;IILTwinrowLaw$Out;)I"⟩
abbrev cL_often : ByteArray := method_15_code
def yL_often : MethodName := ⟨RL, "often", "(LTwinrow;IILTwinrowLaw$Out;)I"⟩
abbrev cL_hasAll : ByteArray := method_16_code
def yL_hasAll : MethodName := ⟨RL, "hasAll", "(LTwinrow;IILTwinrowLaw$Out;)I"⟩
abbrev cL_areApart : ByteArray := method_17_code
def yL_areApart : MethodName := ⟨RL, "areApart", "(LTwinrow;IILTwinrowLaw$Out;)I"⟩
abbrev cL_indexOfAll : ByteArray := method_18_code
def yL_indexOfAll : MethodName := ⟨RL, "indexOfAll", "(LTwinrow;IILTwinrowLaw$Out;)I"⟩
abbrev cL_areEqual : ByteArray := method_19_code
def yL_areEqual : MethodName := ⟨RL, "areEqual", "(LTwinrow;IILTwinrowLaw$Out;)I"⟩
abbrev cL_code : ByteArray := method_20_code
def yL_code : MethodName := ⟨RL, "code", "(LTwinrow;ILTwinrowLaw$Out;)I"⟩
abbrev cL_walk : ByteArray := method_21_code
def yL_walk : MethodName := ⟨RL, "walk", "(LTwinrow;IIIZLTwinrowLaw$Out;)I"⟩
abbrev cL_sum : ByteArray := method_22_code
def yL_sum : MethodName := ⟨RL, "sum", "(LTwinrow;ILTwinrowLaw$Out;)I"⟩
abbrev cL_walkSet : ByteArray := method_23_code
def yL_walkSet : MethodName := ⟨RL, "walkSet", "(LTwinrow;IIIIZLTwinrowLaw$Out;)I"⟩
abbrev cL_replaceAll : ByteArray := method_24_code
def yL_replaceAll : MethodName := ⟨RL, "replaceAll", "(LTwinrow;IIILTwinrowLaw$Out;)I"⟩
abbrev cL_replaceOld : ByteArray := method_25_code
def yL_replaceOld : MethodName := ⟨RL, "replaceOld", "(LTwinrow;IIILTwinrowLaw$Out;)I"⟩
abbrev cL_fill : ByteArray := method_26_code
def yL_fill : MethodName := ⟨RL, "fill", "(LTwinrow;IILTwinrowLaw$Out;)I"⟩
abbrev cL_sort : ByteArray := method_27_code
def yL_sort : MethodName := ⟨RL, "sort", "(LTwinrow;IZLTwinrowLaw$Out;)I"⟩
abbrev cL_reverse : ByteArray := method_28_code
def yL_reverse : MethodName := ⟨RL, "reverse", "(LTwinrow;ILTwinrowLaw$Out;)I"⟩
abbrev cL_rotate : ByteArray := method_29_code
def yL_rotate : MethodName := ⟨RL, "rotate", "(LTwinrow;IILTwinrowLaw$Out;)I"⟩
abbrev cL_swap : ByteArray := method_30_code
def yL_swap : MethodName := ⟨RL, "swap", "(LTwinrow;IIILTwinrowLaw$Out;)I"⟩
abbrev cL_add : ByteArray := method_31_code
def yL_add : MethodName := ⟨RL, "add", "(LTwinrow;IILTwinrowLaw$Out;)I"⟩
abbrev cL_addAt : ByteArray := method_32_code
def yL_addAt : MethodName := ⟨RL, "addAt", "(LTwinrow;IIILTwinrowLaw$Out;)I"⟩
abbrev cL_addAll : ByteArray := method_33_code
def yL_addAll : MethodName := ⟨RL, "addAll", "(LTwinrow;IILTwinrowLaw$Out;)I"⟩
abbrev cL_remove : ByteArray := method_34_code
def yL_remove : MethodName := ⟨RL, "remove", "(LTwinrow;IILTwinrowLaw$Out;)I"⟩
abbrev cL_removeValue : ByteArray := method_35_code
def yL_removeValue : MethodName := ⟨RL, "removeValue", "(LTwinrow;IILTwinrowLaw$Out;)I"⟩
abbrev cL_removeAll : ByteArray := method_36_code
def yL_removeAll : MethodName := ⟨RL, "removeAll", "(LTwinrow;IILTwinrowLaw$Out;)I"⟩
abbrev cL_retainAll : ByteArray := method_37_code
def yL_retainAll : MethodName := ⟨RL, "retainAll", "(LTwinrow;IILTwinrowLaw$Out;)I"⟩
abbrev cL_removeIf : ByteArray := method_38_code
def yL_removeIf : MethodName := ⟨RL, "removeIf", "(LTwinrow;IIILTwinrowLaw$Out;)I"⟩
abbrev cL_clear : ByteArray := method_39_code
def yL_clear : MethodName := ⟨RL, "clear", "(LTwinrow;ILTwinrowLaw$Out;)I"⟩
abbrev cL_walkChange : ByteArray := method_40_code
def yL_walkChange : MethodName := ⟨RL, "walkChange", "(LTwinrow;IIILTwinrowLaw$Out;)I"⟩
abbrev cL_house : ByteArray := method_41_code
def yL_house : MethodName := ⟨RL, "house", "(LTwinrow;ILTwinrowLaw$Out;)I"⟩
abbrev cL_rowOf : ByteArray := method_42_code
def yL_rowOf : MethodName := ⟨RL, "rowOf", "(LTwinrow;ILTwinrowLaw$Out;)I"⟩
abbrev cL_begin : ByteArray := method_43_code
def yL_begin : MethodName := ⟨RL, "begin", "(LTwinrow;ILTwinrowLaw$Out;)I"⟩
abbrev cL_law : ByteArray := code
def yL_law : MethodName := ⟨RL, "law", "([I)Z"⟩
abbrev vwCl : List vw_C := [(RJ0, TJ0, 4), (RJ4, TJ4, 4), (RX0, TX0, 4), (RX1, TX1, 4), (RX2, TX2, 2), (RX3, TX3, 8)]
end
section
/-! THE WORLD AS A MAP: what each of the program's own cells holds, by its address; constants apart; a contract over it; the rows for what touches it. -/
abbrev tE : Type := (FieldType × vp_A) ⊕ (Nat × List Value)
abbrev tG : Type := Nat → Option tE
def tg_up (G : tG) (a : Nat) (e : tE) : tG := fun b => if b = a then some e else G b
theorem tg_s (G : tG) (a : Nat) (e : tE) : tg_up G a e a = some e := by simp [tg_up]
theorem tg_n (G : tG) {a b : Nat} (e : tE) (h : b ≠ a) : tg_up G a e b = G b := by simp [tg_up, h]
/-- constants: a String constant's address to its bytes' address; outer byte arrays; which address a constant has, by a number of ours -/
abbrev tK : Type := (Nat → Option Nat) × (Nat → Option (Nat × (Nat → Int32))) × (Nat → Nat)
def tg_at (D : va_G) (U : State) (H : Heap) (q : Nat) (e : tE) : Prop := match e with
  | .inl x => ∃ cA : ClassId, (ArrOfT U cA x.1 ∧ va_RA U cA x.1) ∧ H[q]? = some (vp_cell cA x.2)
  | .inr o => va_at D vwCl (q, .inr o) H
def tg_W (D : va_G) (A : Nat → Prop) (U : State) (H : Heap) (G : tG) : Prop := ∀ (q : Nat) (e : tE), G q = some e → A q ∧ tg_at D U H q e
theorem tg_at.kept {D : va_G} {U : State} {H H1 : Heap} {q : Nat} {e : tE} (h : tg_at D U H q e) (hq : H1[q]? = H[q]?) : tg_at D U H1 q e := by
  cases e with
  | inl x =>
    obtain ⟨cA, h1, h2⟩ := h
    exact ⟨cA, h1, by rw [hq]; exact h2⟩
  | inr o => exact va_at.kept (q := (q, .inr o)) h hq
theorem tg_at.lt {D : va_G} {U : State} {H : Heap} {q : Nat} {e : tE} (h : tg_at D U H q e) : q < H.size := by
  cases e with
  | inl x =>
    obtain ⟨cA, h1, h2⟩ := h
    exact (Array.getElem?_eq_some_iff.mp h2).1
  | inr o => exact va_at.lt (q := (q, .inr o)) h
theorem tg_at.moved {D : va_G} {u U : State} (hvm : u.vm.Alike U.vm) {H : Heap} {q : Nat} {e : tE} (h : tg_at D u H q e) : tg_at D U H q e := by
  cases e with
  | inl x =>
    obtain ⟨cA, h1, h2⟩ := h
    exact ⟨cA, ⟨arrOfT_moved hvm h1.1, h1.2.moved hvm⟩, h2⟩
  | inr o => exact h
theorem tg_W.moved {D : va_G} {A : Nat → Prop} {u U : State} (hvm : u.vm.Alike U.vm) {H : Heap} {G : tG} (h : tg_W D A u H G) : tg_W D A U H G := fun q e hq => ⟨(h q e hq).1, (h q e hq).2.moved hvm⟩
theorem tg_W.fresh {D : va_G} {A : Nat → Prop} {U : State} {H : Heap} {G : tG} (h : tg_W D A U H G) : G H.size = none := by
  cases hg : G H.size with
  | none => rfl
  | some e => exact absurd (h _ e hg).2.lt (Nat.lt_irrefl _)
/-- a cell is written -/
theorem tg_W.put {D : va_G} {A : Nat → Prop} {U : State} {H H1 : Heap} {G : tG} {a : Nat} {e : tE} (h : tg_W D A U H G) (ha : A a) (he : tg_at D U H1 a e) (oq : ∀ q : Nat, q ≠ a → H1[q]? = H[q]?) : tg_W D A U H1 (tg_up G a e) := by
  intro q e' hq
  by_cases hqa : q = a
  · subst hqa
    rw [tg_s] at hq
    cases hq
    exact ⟨ha, he⟩
  · rw [tg_n _ _ hqa] at hq
    exact ⟨(h q e' hq).1, (h q e' hq).2.kept (oq q hqa)⟩
/-- a cell is made -/
theorem tg_W.make {D : va_G} {A : Nat → Prop} {U : State} {H H1 : Heap} {G : tG} {e : tE} (h : tg_W D A U H G) (hA : A H.size) (he : tg_at D U H1 H.size e) (o1 : ∀ q : Nat, q < H.size → H1[q]? = H[q]?) : tg_W D A U H1 (tg_up G H.size e) := by
  intro q e' hq
  by_cases hqa : q = H.size
  · subst hqa
    rw [tg_s] at hq
    cases hq
    exact ⟨hA, he⟩
  · rw [tg_n _ _ hqa] at hq
    exact ⟨(h q e' hq).1, (h q e' hq).2.kept (o1 q (h q e' hq).2.lt)⟩
theorem ts_make {A : Nat → Prop} {H0 H H1 : Heap} {locs : List Loc} (hS : va_S A H0 H locs) (z : H1.size = H.size + 1) (o1 : ∀ q : Nat, q < H.size → H1[q]? = H[q]?) : va_S A H0 H1 locs :=
  ⟨Nat.le_trans hS.1 (by omega), fun x h1 h2 => (o1 x (Nat.lt_of_lt_of_le h1 hS.1)).trans (hS.2.1 x h1 h2), hS.2.2⟩
/-! the constants -/
def tk_AOA (U : State) : Prop := (Cond.arrayOver (.array .int)).before #[] U = true
theorem tk_AOA.moved {u U : State} (hvm : u.vm.Alike U.vm) (h : tk_AOA u) : tk_AOA U := by
  obtain ⟨comp, c, k, h1, h2, h3, h4, h5⟩ := arrayOverA_spec h
  obtain ⟨k', hk', he⟩ := hvm.2.2 _ _ h3
  have hi : (U.vm.classes.findIdx? fun (x : Class) => match x.kind with | .array component _ => component == comp | _ => false) = some c := by
    rw [hvm.findIdx?_eq _ (fun _ => rfl)]
    exact h2
  have hkind : k'.kind = .array comp (.array .int) := by rw [he]; exact h4
  have f1 : U.vm.findClass (FieldType.array .int).toString = some comp := by rw [hvm.findClass]; exact h1
  have f2 : U.vm.findClass ("[" ++ (FieldType.array .int).toString) = some c := by rw [hvm.findClass]; exact h5
  unfold tk_AOA Cond.before Cond.holds
  simp only [Cond.value]
  rw [f1, Option.bind_some]
  refine (congrArg (fun o : Option Nat => (o.bind (fun c => (U.vm.classes[c]?).map fun (k : Class) => match k.kind with | .array _ ty => decide (ty = FieldType.array .int) && decide (U.vm.findClass ("[" ++ (FieldType.array .int).toString) = some c) | _ => false) == some true)) hi).trans ?_
  simp [hk', hkind, f2]
/-- the String constants that the program loads: class, entry, text, its number -/
def tk_strs : List (String × Nat × String × Nat) := [(RX1, 190, "there is no such list", 0), (RX1, 195, "there is no such row", 1), (RX1, 197, "there is no such part", 2), (RX1, 203, "there is no such place", 3), (RX1, 207, "the number is not let", 4), (RX3, 63, "-", 5), (RX3, 68, "", 6), (RX3, 109, " ", 7), (RX3, 138, ":", 8)]
/-- what the law's wrappers need of the tables -/
def kx_nn : Cond := .fieldLinkNest RL 13 "TwinrowLaw$Out" "n" "J" "TwinrowLaw"
def kx_ns : Cond := .fieldLinkNest RL 52 "TwinrowLaw$Out" "s" "Ljava/lang/String;" "TwinrowLaw"
abbrev kx_d1 : Cond := .declares ⟨"java/lang/RuntimeException", "<init>", "(Ljava/lang/String;)V"⟩
abbrev kx_d2 : Cond := .declares ⟨"java/lang/Exception", "<init>", "(Ljava/lang/String;)V"⟩
abbrev kx_d3 : Cond := .declares ⟨"java/lang/Throwable", "<init>", "(Ljava/lang/String;)V"⟩
def kx_C (U : State) : Prop := va_Nw kx_nn U ∧ va_Nw kx_ns U ∧ va_Nw (.castable "java/lang/IndexOutOfBoundsException" "java/lang/IndexOutOfBoundsException") U ∧ va_Nw (.castable "java/lang/IllegalArgumentException" "java/lang/IllegalArgumentException") U ∧ va_Nc "java/lang/IllegalArgumentException" "java/lang/IndexOutOfBoundsException" U ∧ va_Nw kx_d1 U ∧ va_Nw kx_d2 U ∧ va_Nw kx_d3 U ∧ va_Nw (.castable "[B" "java/lang/Cloneable") U
theorem kx_C.moved {u U : State} (hW : u.WarmedH U.vm) (h : kx_C u) : kx_C U := ⟨va_Nw.warmF hW h.1, va_Nw.warmF hW h.2.1, va_Nw.warmC hW h.2.2.1, va_Nw.warmC hW h.2.2.2.1, h.2.2.2.2.1.moved hW.alike, va_Nw.warmD hW h.2.2.2.2.2.1, va_Nw.warmD hW h.2.2.2.2.2.2.1, va_Nw.warmD hW h.2.2.2.2.2.2.2.1, va_Nw.warmC hW h.2.2.2.2.2.2.2.2⟩
/-- what is given of the constants, in any state of the run -/
def tk_C (K : tK) (A : Nat → Prop) (U : State) (H : Heap) : Prop :=
  vx_Zq Bundle.tN "UNASSIGNED_STACK" Bundle.steD A U H ∧ vx_Zq Bundle.tN "SUPPRESSED_SENTINEL" Bundle.listD A U H ∧
  va_AO "Twinrow$RowList" U ∧ tk_AOA U ∧
  (∀ q ∈ tk_strs, vk_R q.1 q.2.1 q.2.2.1 (K.2.2 q.2.2.2) U) ∧
  (∀ (a v : Nat), K.1 a = some v → va_O "java/lang/String" a A U H ∧ va_OF "java/lang/String" "coder" "B" (.int 0) a A U H ∧ va_OF "java/lang/String" "value" "[B" (.ref v) a A U H) ∧
  (∀ (v n : Nat) (f : Nat → Int32), K.2.1 v = some (n, f) → va_T .byte v n (fun j => .int (f j)) A U H ∧ ∀ j, fits .byte (.int (f j)) = true) ∧
  va_Z "java/lang/String" "COMPACT_STRINGS" "Z" (.int 1) A U H ∧ va_Z "java/lang/Integer" "DigitTens" "[B" (.ref (K.2.2 20)) A U H ∧ va_Z "java/lang/Integer" "DigitOnes" "[B" (.ref (K.2.2 21)) A U H ∧ kx_C U
theorem tk_C.moved {K : tK} {A : Nat → Prop} {u U : State} {H : Heap} (hW : u.WarmedH U.vm) (h : tk_C K A u H) : tk_C K A U H := by
  obtain ⟨h1, h2, h3, h4, h5, h6, h7, h8, h9, h10, h11⟩ := h
  have hvm := hW.alike
  exact ⟨h1.moved hvm, h2.moved hvm, h3.moved hvm, h4.moved hvm, fun q hq => vk_R.warm hW (h5 q hq), fun a v hv => ⟨va_O.moved hvm (h6 a v hv).1, va_OF.moved hvm (h6 a v hv).2.1, va_OF.moved hvm (h6 a v hv).2.2⟩,
    fun v n f hv => ⟨va_T.moved hvm (h7 v n f hv).1, (h7 v n f hv).2⟩, va_Z.moved hvm h8, va_Z.moved hvm h9, va_Z.moved hvm h10, h11.moved hW⟩
theorem tk_C.kept {K : tK} {A : Nat → Prop} {U : State} {H H1 : Heap} (h : tk_C K A U H) (hq : ∀ a : Nat, a < H.size → ¬ A a → H1[a]? = H[a]?) : tk_C K A U H1 := by
  obtain ⟨h1, h2, h3, h4, h5, h6, h7, h8, h9, h10, h11⟩ := h
  exact ⟨h1.kept hq, h2.kept hq, h3, h4, h5, fun a v hv => ⟨(h6 a v hv).1.kept hq, (h6 a v hv).2.1.kept hq, (h6 a v hv).2.2.kept hq⟩,
    fun v n f hv => ⟨(h7 v n f hv).1.kept hq, (h7 v n f hv).2⟩, va_Z.kept h8 hq, va_Z.kept h9 hq, va_Z.kept h10 hq, h11⟩
/-! contracts -/
def tc_Pc (D : va_G) (K : tK) (A : Nat → Prop) (sz : Nat) (G : tG) (av : List Value) : Array Value → State → Prop := va_Pc av (fun U => U.heap.size = sz ∧ tg_W D A U U.heap G ∧ va_K D vwCl [] U ∧ tk_C K A U U.heap ∧ ∀ q, sz ≤ q → A q)
def tc_Qc (D : va_G) (A : Nat → Prop) (pr : Option Value → tG → Prop) : Array Value → State → Outcome → State → Prop := fun _ st oc t => (∃ (v : Option Value) (G : tG), oc = .returned v ∧ pr v G ∧ tg_W D A t t.heap G) ∧ va_F A st t
def tc_XC (D : va_G) (A : Nat → Prop) (px : String → tG → Prop) : String → State → State → Prop := fun E st t => (∃ G : tG, px E G ∧ tg_W D A t t.heap G) ∧ va_F A st t
/-- a method that returns -/
def Ct (l : Launch) (y : MethodName) (ws : List Cond) (rm : Room) (mc ms : Nat) (av : List Value) (K : tK) (pr : Option Value → tG → Prop) (wp : tG → Prop) : Prop :=
  ∀ (D : va_G) (A : Nat → Prop) (sz : Nat) (G : tG), wp G → Met l y ws rm (tc_Pc D K A sz G av) (tc_Qc D A pr) mc ms A
/-- a method that returns or throws -/
def Cx (l : Launch) (y : MethodName) (ws : List Cond) (rm : Room) (mc ms : Nat) (av : List Value) (K : tK) (pr : Option Value → tG → Prop) (px : String → tG → Prop) (wp : tG → Prop) : Prop :=
  ∀ (D : va_G) (A : Nat → Prop) (sz : Nat) (G : tG), wp G → vx_Met l y ws rm (tc_Pc D K A sz G av) (tc_Qc D A pr) (tc_XC D A px) mc ms A
def retI (post : Int32 → tG → Prop) : Option Value → tG → Prop := fun v G => ∃ x : Int32, v = some (.int x) ∧ post x G
def retL (post : Int64 → tG → Prop) : Option Value → tG → Prop := fun v G => ∃ x : Int64, v = some (.long x) ∧ post x G
def retR (post : Option Nat → tG → Prop) : Option Value → tG → Prop := fun v G => ∃ x : Option Nat, v = some (va_rf x) ∧ post x G
def retV (post : tG → Prop) : Option Value → tG → Prop := fun v G => v = none ∧ post G
theorem tc_blind (D : va_G) (K : tK) (A : Nat → Prop) (sz : Nat) (G : tG) (av : List Value) : FrameBlind (tc_Pc D K A sz G av) := by
  intro a U g mk q
  obtain ⟨q0, q1, q2, q3, q4, q5⟩ := q
  have hvm : U.vm.Alike (U.calling g mk a).vm := Vm.Alike.refl U.vm
  exact ⟨q0, q1, tg_W.moved (u := U) (U := U.calling g mk a) hvm q2, va_K.moved (u := U) (U := U.calling g mk a) hvm q3, tk_C.moved (u := U) (U := U.calling g mk a) (State.WarmedH.refl U) q4, q5⟩
/-! locals: what the slots hold, by kinds -/
abbrev tV : Type := Int32 ⊕ Int64 ⊕ Option Nat
def tv_v (x : tV) : Value := match x with
  | .inl n => .int n
  | .inr (.inl n) => .long n
  | .inr (.inr r) => va_rf r
def tv_2 (x : tV) : Bool := match x with
  | .inr (.inl _) => true
  | _ => false
theorem va_rf_cat (r : Option Nat) : (va_rf r).category = 1 := by cases r <;> rfl
theorem tv_cat (x : tV) : (tv_v x).category = if tv_2 x then 2 else 1 := by
  rcases x with n | n | r
  · rfl
  · rfl
  · exact va_rf_cat r
def tl (ls : Array Slot) (nL : Nat) (l : List (Nat × tV)) : Prop := lv_has ls nL (l.map fun q => (q.1, tv_v q.2))
theorem tl_at {ls : Array Slot} {nL : Nat} {l : List (Nat × tV)} (h : tl ls nL l) (k : Nat) {i : Nat} {v : tV} (hk : l[k]? = some (i, v)) : ls[i]? = some (.val (tv_v v)) :=
  lv_at h k (by rw [List.getElem?_map, hk]; rfl)
def tl_pick (l : List (Nat × tV)) (ks : List Nat) : List (Nat × tV) := ks.filterMap (fun k => l[k]?)
theorem tl_sub {ls : Array Slot} {nL : Nat} {l l' : List (Nat × tV)} (h : tl ls nL l) (ks : List Nat) (hl : tl_pick l ks = l') : tl ls nL l' := by
  refine lv_sub h ks ?_
  rw [← hl]
  simp only [lv_pick, tl_pick, List.getElem?_map, List.map_filterMap]
def tl_put (l : List (Nat × tV)) (i : Nat) (v : tV) : List (Nat × tV) := (i, v) :: l.filter (fun q => !(q.1 == i) && !(q.1 + 1 == i && tv_2 q.2))
def tl_put2 (l : List (Nat × tV)) (i : Nat) (v : tV) : List (Nat × tV) := (i, v) :: l.filter (fun q => !(q.1 == i) && (!(q.1 == i + 1) && !(q.1 + 1 == i && tv_2 q.2)))
theorem tl_cat2 (x : tV) : ((tv_v x).category == 2) = tv_2 x := by
  rw [tv_cat]
  cases tv_2 x <;> rfl
theorem tl_put_eq (l : List (Nat × tV)) (i : Nat) (v : tV) : (i, tv_v v) :: (l.map fun q => (q.1, tv_v q.2)).filter (fun q => !(q.1 == i) && !(q.1 + 1 == i && q.2.category == 2)) = (tl_put l i v).map fun q => (q.1, tv_v q.2) := by
  unfold tl_put
  rw [List.map_cons, List.filter_map]
  congr 2
  apply List.filter_congr
  intro q _
  simp only [Function.comp, tl_cat2]
theorem tl_put2_eq (l : List (Nat × tV)) (i : Nat) (v : tV) : (i, tv_v v) :: (l.map fun q => (q.1, tv_v q.2)).filter (fun q => !(q.1 == i) && (!(q.1 == i + 1) && !(q.1 + 1 == i && q.2.category == 2))) = (tl_put2 l i v).map fun q => (q.1, tv_v q.2) := by
  unfold tl_put2
  rw [List.map_cons, List.filter_map]
  congr 2
  apply List.filter_congr
  intro q _
  simp only [Function.comp, tl_cat2]
def tl_args : Nat → List tV → List (Nat × tV)
  | _, [] => []
  | i, v :: vs => (i, v) :: tl_args (if tv_2 v then i + 2 else i + 1) vs
theorem tl_args_eq : ∀ (vs : List tV) (i : Nat), lv_args i (vs.map tv_v) = (tl_args i vs).map fun q => (q.1, tv_v q.2)
  | [], _ => rfl
  | v :: vs, i => by
    show (i, tv_v v) :: lv_args (if (tv_v v).category = 2 then i + 2 else i + 1) (vs.map tv_v) = (i, tv_v v) :: (tl_args (if tv_2 v then i + 2 else i + 1) vs).map fun q => (q.1, tv_v q.2)
    rw [← tl_args_eq vs, tv_cat]
    cases tv_2 v <;> rfl
theorem tl_len : ∀ (vs : List tV), (lg_sl (vs.map tv_v)).length = (vs.map fun v => if tv_2 v then 2 else 1).sum
  | [] => rfl
  | v :: vs => by
    have h := tl_len vs
    show (lg_sl (tv_v v :: vs.map tv_v)).length = _
    unfold lg_sl at h ⊢
    rw [List.flatMap_cons, List.length_append, h, List.map_cons, List.sum_cons, tv_cat]
    cases tv_2 v <;> rfl
/-! what an instruction asks of the world, and what goes on behind it -/
def gfI (G : tG) (r : Option Nat) (ci k : Nat) (P : Int32 → Prop) : Prop := ∃ (a : Nat) (fs : List Value) (x : Int32), r = some a ∧ G a = some (.inr (ci, fs)) ∧ fs[k]? = some (.int x) ∧ P x
def gfL (G : tG) (r : Option Nat) (ci k : Nat) (P : Int64 → Prop) : Prop := ∃ (a : Nat) (fs : List Value) (x : Int64), r = some a ∧ G a = some (.inr (ci, fs)) ∧ fs[k]? = some (.long x) ∧ P x
def gfR (G : tG) (r : Option Nat) (ci k : Nat) (P : Option Nat → Prop) : Prop := ∃ (a : Nat) (fs : List Value) (x : Option Nat), r = some a ∧ G a = some (.inr (ci, fs)) ∧ fs[k]? = some (va_rf x) ∧ P x
def gsV (K : tK) (G : tG) (r : Option Nat) (ci : Nat) (P : Option Nat → Prop) : Prop := gfR G r ci 0 P ∨ ∃ a v : Nat, r = some a ∧ K.1 a = some v ∧ P (some v)
def gsC (K : tK) (G : tG) (r : Option Nat) (ci : Nat) (P : Int32 → Prop) : Prop := gfI G r ci 1 P ∨ ∃ a v : Nat, r = some a ∧ K.1 a = some v ∧ P 0
def pfV (G : tG) (r : Option Nat) (ci k : Nat) (v : Value) (P : tG → Prop) : Prop := ∃ (a : Nat) (fs : List Value), r = some a ∧ G a = some (.inr (ci, fs)) ∧ k < fs.length ∧ P (tg_up G a (.inr (ci, fs.set k v)))
def alI (G : tG) (r : Option Nat) (i : Int32) (ty : FieldType) (P : Int32 → Prop) : Prop := ∃ (a n : Nat) (f : Nat → Int32) (j : Nat), r = some a ∧ G a = some (.inl (ty, n, .inl f)) ∧ i.toInt = (j : Int) ∧ j < n ∧ P (f j)
def alR (G : tG) (r : Option Nat) (i : Int32) (ty : FieldType) (P : Option Nat → Prop) : Prop := ∃ (a n : Nat) (f : Nat → Option Nat) (j : Nat), r = some a ∧ G a = some (.inl (ty, n, .inr (.inr (.inr (.inr f))))) ∧ i.toInt = (j : Int) ∧ j < n ∧ P (f j)
def alK (K : tK) (r : Option Nat) (i : Int32) (P : Int32 → Prop) : Prop := ∃ (a n : Nat) (f : Nat → Int32) (j : Nat), r = some a ∧ K.2.1 a = some (n, f) ∧ i.toInt = (j : Int) ∧ j < n ∧ P (f j)
def asI (G : tG) (r : Option Nat) (i : Int32) (ty : FieldType) (x : Int32) (P : tG → Prop) : Prop := ∃ (a n : Nat) (f : Nat → Int32) (j : Nat), r = some a ∧ G a = some (.inl (ty, n, .inl f)) ∧ i.toInt = (j : Int) ∧ j < n ∧ P (tg_up G a (.inl (ty, n, .inl (upd f j x))))
def asR (G : tG) (r : Option Nat) (i : Int32) (ty : FieldType) (v : Option Nat) (ok : tE → Prop) (P : tG → Prop) : Prop := ∃ (a n : Nat) (f : Nat → Option Nat) (j : Nat), r = some a ∧ G a = some (.inl (ty, n, .inr (.inr (.inr (.inr f))))) ∧ i.toInt = (j : Int) ∧ j < n ∧ (v = none ∨ ∃ (b : Nat) (e : tE), v = some b ∧ G b = some e ∧ ok e) ∧ P (tg_up G a (.inl (ty, n, .inr (.inr (.inr (.inr (va_up f j v)))))))
def okO (ci : Nat) (e : tE) : Prop := ∃ fs, e = .inr (ci, fs)
def okI (e : tE) : Prop := ∃ x, e = .inl (.int, x)
def lenA (G : tG) (r : Option Nat) (P : Int32 → Prop) : Prop := ∃ (a : Nat) (ty : FieldType) (x : vp_A), r = some a ∧ G a = some (.inl (ty, x)) ∧ P (Int32.ofNat x.1)
def lenK (K : tK) (G : tG) (r : Option Nat) (P : Int32 → Prop) : Prop := lenA G r P ∨ ∃ (a n : Nat) (f : Nat → Int32), r = some a ∧ K.2.1 a = some (n, f) ∧ P (Int32.ofNat n)
def nwO (G : tG) (ci : Nat) (fs : List Value) (P : Option Nat → tG → Prop) : Prop := ∀ q : Nat, G q = none → P (some q) (tg_up G q (.inr (ci, fs)))
def nwA (G : tG) (ty : FieldType) (n : Int32) (lim : Nat) (z : (Nat → Int32) ⊕ (Nat → Int64) ⊕ (Nat → UInt32) ⊕ (Nat → UInt64) ⊕ (Nat → Option Nat)) (P : Option Nat → tG → Prop) : Prop := ∃ N : Nat, n.toInt = (N : Int) ∧ N ≤ lim ∧ ∀ q : Nat, G q = none → P (some q) (tg_up G q (.inl (ty, N, z)))
def rcv (G : tG) (r : Option Nat) (ci : Nat) (P : Prop) : Prop := ∃ (a : Nat) (fs : List Value), r = some a ∧ G a = some (.inr (ci, fs)) ∧ P
def rcvS (K : tK) (G : tG) (r : Option Nat) (ci : Nat) (P : Prop) : Prop := ∃ (a : Nat), r = some a ∧ ((∃ fs, G a = some (.inr (ci, fs))) ∨ ∃ v, K.1 a = some v) ∧ P
/-- System.arraycopy of bytes out of the own world, or out of a constant -/
def cpB (K : tK) (G : tG) (r : Option Nat) (sp : Int32) (r2 : Option Nat) (dp n : Int32) (P : tG → Prop) : Prop := ∃ (a n0 : Nat) (f : Nat → Int32) (b n1 : Nat) (g : Nat → Int32) (sp' dp' n' : Nat), r = some a ∧ (G a = some (.inl (.byte, n0, .inl f)) ∨ K.2.1 a = some (n0, f)) ∧ r2 = some b ∧ G b = some (.inl (.byte, n1, .inl g)) ∧
  sp.toInt = (sp' : Int) ∧ dp.toInt = (dp' : Int) ∧ n.toInt = (n' : Int) ∧ sp' + n' ≤ n0 ∧ dp' + n' ≤ n1 ∧ (∀ i, i < n' → fits .byte (.int (f (sp' + i))) = true) ∧ P (tg_up G b (.inl (.byte, n1, .inl (va_cpy f g sp' dp' n'))))
/-- a copy of a whole byte array -/
def clB (G : tG) (r : Option Nat) (lim : Nat) (P : Option Nat → tG → Prop) : Prop := ∃ (a n : Nat) (f : Nat → Int32), r = some a ∧ G a = some (.inl (.byte, n, .inl f)) ∧ n ≤ lim ∧ (∀ i, i < n → fits .byte (.int (f i)) = true) ∧ ∀ q : Nat, G q = none → P (some q) (tg_up G q (.inl (.byte, n, .inl f)))
def isB (G : tG) (r : Option Nat) (P : Prop) : Prop := ∃ (a : Nat) (x : vp_A), r = some a ∧ G a = some (.inl (.byte, x)) ∧ P
/-- a piece of the room -/
def bud (nc ns MC MS : Nat) (P : Nat → Nat → Prop) : Prop := ∃ mc ms : Nat, nc + mc ≤ MC ∧ ns + ms ≤ MS ∧ P mc ms
/-- an int of the law's script -/
def sld (xL : Nat) (xs : Nat → Int32) (i : Int32) (P : Int32 → Prop) : Prop := ∃ j : Nat, i.toInt = (j : Int) ∧ j < xL ∧ P (xs j)
end
section
/-! THE ROWS over the world as a map -/
/-- what stands fast inside a method's body -/
def tc_B (p : Program) (l : Launch) (s : State) (m : MethodId) (args : Array Value) (meth : Method) (c : Code) (D : va_G) (K : tK) (A : Nat → Prop) (Ts : List Cond) (own : String) (cc : ByteArray) (nL : Nat) : Prop :=
  (p.tables.exec = Jvm.exec ∧ c.code = cc ∧ c.maxLocals = nL ∧ s.vm.findClass own = some m.cls ∧ ∀ w ∈ Ts, w.before args s = true) ∧ meth.locks = false ∧ va_K D vwCl [] s ∧ tk_C K A s s.heap ∧ (∀ q : Nat, s.heap.size ≤ q → A q) ∧ l.stackTraces = false
section TRA
variable {p : Program} {l : Launch} {e : Env} {R : Room} {s : State} {m : MethodId} {args : Array Value} {below : List Frame} {meth : Method} {c : Code} {H : Heap} {locs : List Loc} {cells slots : Nat} {Q : State → Prop}
variable {D : va_G} {K : tK} {A : Nat → Prop} {Ts : List Cond} {own : String} {cc : ByteArray} {nL : Nat} {pc : Nat} {ls : Array Slot} {rest : List Value} {G : tG}
/-! locals and the stack -/
theorem tr_iload_n (C : tc_B p l s m args meth c D K A Ts own cc nL) {lv : List (Nat × tV)} (hl : tl ls nL lv) {k : Fin 4} (j : Nat) {x : Int32} (hj : lv[j]? = some ((k : Nat), .inl x)) (hdg : decode cc pc = .ok (.iload_n k, 1))
    (kk : W p l e R s m args below meth c H locs cells slots Q (F0 m (pc + 1) ls (.int x :: rest))) : W p l e R s m args below meth c H locs cells slots Q (F0 m pc ls rest) := lv_iload_n C.1.1 C.1.2.1 hdg rfl (tl_at hl j hj) kk
theorem tr_iload (C : tc_B p l s m args meth c D K A Ts own cc nL) {lv : List (Nat × tV)} (hl : tl ls nL lv) {i : Nat} (j : Nat) {x : Int32} (hj : lv[j]? = some (i, .inl x)) (hdg : decode cc pc = .ok (.iload i, 2))
    (kk : W p l e R s m args below meth c H locs cells slots Q (F0 m (pc + 2) ls (.int x :: rest))) : W p l e R s m args below meth c H locs cells slots Q (F0 m pc ls rest) := lv_iload C.1.1 C.1.2.1 hdg (tl_at hl j hj) kk
theorem tr_lload_n (C : tc_B p l s m args meth c D K A Ts own cc nL) {lv : List (Nat × tV)} (hl : tl ls nL lv) {k : Fin 4} (j : Nat) {x : Int64} (hj : lv[j]? = some ((k : Nat), .inr (.inl x))) (hdg : decode cc pc = .ok (.lload_n k, 1))
    (kk : W p l e R s m args below meth c H locs cells slots Q (F0 m (pc + 1) ls (.long x :: rest))) : W p l e R s m args below meth c H locs cells slots Q (F0 m pc ls rest) := lv_lload_n C.1.1 C.1.2.1 hdg rfl (tl_at hl j hj) kk
theorem tr_lload (C : tc_B p l s m args meth c D K A Ts own cc nL) {lv : List (Nat × tV)} (hl : tl ls nL lv) {i : Nat} (j : Nat) {x : Int64} (hj : lv[j]? = some (i, .inr (.inl x))) (hdg : decode cc pc = .ok (.lload i, 2))
    (kk : W p l e R s m args below meth c H locs cells slots Q (F0 m (pc + 2) ls (.long x :: rest))) : W p l e R s m args below meth c H locs cells slots Q (F0 m pc ls rest) := lv_lload C.1.1 C.1.2.1 hdg (tl_at hl j hj) kk
theorem tr_aload_n (C : tc_B p l s m args meth c D K A Ts own cc nL) {lv : List (Nat × tV)} (hl : tl ls nL lv) {k : Fin 4} (j : Nat) {x : Option Nat} (hj : lv[j]? = some ((k : Nat), .inr (.inr x))) (hdg : decode cc pc = .ok (.aload_n k, 1))
    (kk : W p l e R s m args below meth c H locs cells slots Q (F0 m (pc + 1) ls (va_rf x :: rest))) : W p l e R s m args below meth c H locs cells slots Q (F0 m pc ls rest) := by
  have h := tl_at hl j hj
  cases x with
  | none => exact lv_aload_nN C.1.1 C.1.2.1 hdg rfl h kk
  | some a => exact lv_aload_n C.1.1 C.1.2.1 hdg rfl h kk
theorem tr_aload (C : tc_B p l s m args meth c D K A Ts own cc nL) {lv : List (Nat × tV)} (hl : tl ls nL lv) {i : Nat} (j : Nat) {x : Option Nat} (hj : lv[j]? = some (i, .inr (.inr x))) (hdg : decode cc pc = .ok (.aload i, 2))
    (kk : W p l e R s m args below meth c H locs cells slots Q (F0 m (pc + 2) ls (va_rf x :: rest))) : W p l e R s m args below meth c H locs cells slots Q (F0 m pc ls rest) := by
  have h := tl_at hl j hj
  cases x with
  | none => exact lv_aloadN C.1.1 C.1.2.1 hdg h kk
  | some a => exact lv_aload C.1.1 C.1.2.1 hdg h kk
theorem tr_istore_n (C : tc_B p l s m args meth c D K A Ts own cc nL) {lv : List (Nat × tV)} (hl : tl ls nL lv) {k : Fin 4} (lv' : List (Nat × tV)) {x : Int32} (hn : (k : Nat) < nL) (hp : tl_put lv (k : Nat) (.inl x) = lv') (hdg : decode cc pc = .ok (.istore_n k, 1))
    (kk : ∀ ls : Array Slot, tl ls nL lv' → W p l e R s m args below meth c H locs cells slots Q (F0 m (pc + 1) ls rest)) : W p l e R s m args below meth c H locs cells slots Q (F0 m pc ls (.int x :: rest)) := by
  subst hp
  exact lv_istore_n C.1.1 C.1.2.1 hdg rfl hl hn (tl_put_eq lv _ (.inl x)) kk
theorem tr_istore (C : tc_B p l s m args meth c D K A Ts own cc nL) {lv : List (Nat × tV)} (hl : tl ls nL lv) {i : Nat} (lv' : List (Nat × tV)) {x : Int32} (hn : i < nL) (hp : tl_put lv i (.inl x) = lv') (hdg : decode cc pc = .ok (.istore i, 2))
    (kk : ∀ ls : Array Slot, tl ls nL lv' → W p l e R s m args below meth c H locs cells slots Q (F0 m (pc + 2) ls rest)) : W p l e R s m args below meth c H locs cells slots Q (F0 m pc ls (.int x :: rest)) := by
  subst hp
  exact lv_istore C.1.1 C.1.2.1 hdg hl hn (tl_put_eq lv _ (.inl x)) kk
theorem tr_lstore_n (C : tc_B p l s m args meth c D K A Ts own cc nL) {lv : List (Nat × tV)} (hl : tl ls nL lv) {k : Fin 4} (lv' : List (Nat × tV)) {x : Int64} (hn : (k : Nat) + 1 < nL) (hp : tl_put2 lv (k : Nat) (.inr (.inl x)) = lv') (hdg : decode cc pc = .ok (.lstore_n k, 1))
    (kk : ∀ ls : Array Slot, tl ls nL lv' → W p l e R s m args below meth c H locs cells slots Q (F0 m (pc + 1) ls rest)) : W p l e R s m args below meth c H locs cells slots Q (F0 m pc ls (.long x :: rest)) := by
  subst hp
  exact lv_lstore_n C.1.1 C.1.2.1 hdg rfl hl hn (tl_put2_eq lv _ (.inr (.inl x))) kk
theorem tr_lstore (C : tc_B p l s m args meth c D K A Ts own cc nL) {lv : List (Nat × tV)} (hl : tl ls nL lv) {i : Nat} (lv' : List (Nat × tV)) {x : Int64} (hn : i + 1 < nL) (hp : tl_put2 lv i (.inr (.inl x)) = lv') (hdg : decode cc pc = .ok (.lstore i, 2))
    (kk : ∀ ls : Array Slot, tl ls nL lv' → W p l e R s m args below meth c H locs cells slots Q (F0 m (pc + 2) ls rest)) : W p l e R s m args below meth c H locs cells slots Q (F0 m pc ls (.long x :: rest)) := by
  subst hp
  exact lv_lstore C.1.1 C.1.2.1 hdg hl hn (tl_put2_eq lv _ (.inr (.inl x))) kk
theorem tr_astore_n (C : tc_B p l s m args meth c D K A Ts own cc nL) {lv : List (Nat × tV)} (hl : tl ls nL lv) {k : Fin 4} (lv' : List (Nat × tV)) {x : Option Nat} (hn : (k : Nat) < nL) (hp : tl_put lv (k : Nat) (.inr (.inr x)) = lv') (hdg : decode cc pc = .ok (.astore_n k, 1))
    (kk : ∀ ls : Array Slot, tl ls nL lv' → W p l e R s m args below meth c H locs cells slots Q (F0 m (pc + 1) ls rest)) : W p l e R s m args below meth c H locs cells slots Q (F0 m pc ls (va_rf x :: rest)) := by
  subst hp
  cases x with
  | none => exact lv_astore_nN C.1.1 C.1.2.1 hdg rfl hl hn (tl_put_eq lv _ (.inr (.inr none))) kk
  | some a => exact lv_astore_n C.1.1 C.1.2.1 hdg rfl hl hn (tl_put_eq lv _ (.inr (.inr (some a)))) kk
theorem tr_astore (C : tc_B p l s m args meth c D K A Ts own cc nL) {lv : List (Nat × tV)} (hl : tl ls nL lv) {i : Nat} (lv' : List (Nat × tV)) {x : Option Nat} (hn : i < nL) (hp : tl_put lv i (.inr (.inr x)) = lv') (hdg : decode cc pc = .ok (.astore i, 2))
    (kk : ∀ ls : Array Slot, tl ls nL lv' → W p l e R s m args below meth c H locs cells slots Q (F0 m (pc + 2) ls rest)) : W p l e R s m args below meth c H locs cells slots Q (F0 m pc ls (va_rf x :: rest)) := by
  subst hp
  cases x with
  | none => exact lv_astoreN C.1.1 C.1.2.1 hdg hl hn (tl_put_eq lv _ (.inr (.inr none))) kk
  | some a => exact lv_astore C.1.1 C.1.2.1 hdg hl hn (tl_put_eq lv _ (.inr (.inr (some a)))) kk
theorem tr_iinc (C : tc_B p l s m args meth c D K A Ts own cc nL) {lv : List (Nat × tV)} (hl : tl ls nL lv) {i : Nat} {n : Int} (j : Nat) {x : Int32} (v : Int32) (lv' : List (Nat × tV)) (hj : lv[j]? = some (i, .inl x)) (hv : x + Int32.ofInt n = v) (hn : i < nL) (hp : tl_put lv i (.inl v) = lv') (hdg : decode cc pc = .ok (.iinc i n, 3))
    (kk : ∀ ls : Array Slot, tl ls nL lv' → W p l e R s m args below meth c H locs cells slots Q (F0 m (pc + 3) ls rest)) : W p l e R s m args below meth c H locs cells slots Q (F0 m pc ls rest) := by
  subst hp
  exact lv_iinc C.1.1 C.1.2.1 hdg hl (k := j) (by rw [List.getElem?_map, hj]; rfl) hv hn (tl_put_eq lv _ (.inl v)) kk
theorem tr_null (C : tc_B p l s m args meth c D K A Ts own cc nL) (hdg : decode cc pc = .ok (.aconst_null, 1)) (kk : W p l e R s m args below meth c H locs cells slots Q (F0 m (pc + 1) ls (va_rf none :: rest))) : W p l e R s m args below meth c H locs cells slots Q (F0 m pc ls rest) := lv_null C.1.1 C.1.2.1 hdg kk
theorem tr_ifnull (C : tc_B p l s m args meth c D K A Ts own cc nL) {r : Option Nat} {off : Int} {tgt : Nat} (hdg : decode cc pc = .ok (.ifnull off, 3)) (ht : (pc : Int) + off = (tgt : Int)) (k1 : r = none → W p l e R s m args below meth c H locs cells slots Q (F0 m tgt ls rest)) (k2 : ¬ r = none → W p l e R s m args below meth c H locs cells slots Q (F0 m (pc + 3) ls rest)) : W p l e R s m args below meth c H locs cells slots Q (F0 m pc ls (va_rf r :: rest)) := by
  cases r with
  | none => exact lv_ifnullN C.1.1 C.1.2.1 hdg ht (k1 rfl)
  | some a => exact lv_ifnull C.1.1 C.1.2.1 hdg (k2 (fun h => by cases h))
theorem tr_ifnonnull (C : tc_B p l s m args meth c D K A Ts own cc nL) {r : Option Nat} {off : Int} {tgt : Nat} (hdg : decode cc pc = .ok (.ifnonnull off, 3)) (ht : (pc : Int) + off = (tgt : Int)) (k1 : ¬ r = none → W p l e R s m args below meth c H locs cells slots Q (F0 m tgt ls rest)) (k2 : r = none → W p l e R s m args below meth c H locs cells slots Q (F0 m (pc + 3) ls rest)) : W p l e R s m args below meth c H locs cells slots Q (F0 m pc ls (va_rf r :: rest)) := by
  cases r with
  | none => exact lv_ifnonnullN C.1.1 C.1.2.1 hdg (k2 rfl)
  | some a => exact lv_ifnonnull C.1.1 C.1.2.1 hdg ht (k1 (fun h => by cases h))
/-! fields -/
theorem tr_gfI (C : tc_B p l s m args meth c D K A Ts own cc nL) {ref C0 : String} {T : u_T} {N ci index : Nat} (hin : ∀ w ∈ u_ws C0 T N, w ∈ Ts) (hc : vwCl[ci]? = some (C0, T, N)) {k : Nat} (hk : k < N) (hlink : Cond.fieldLink own index ref (T k).2.1 (T k).2.2.1 ∈ Ts) (href : (T k).1 = ref) (hdg : decode cc pc = .ok (.getfield index, 3)) (hW : tg_W D A s H G)
    {r : Option Nat} {P : Int32 → Prop} (hw : gfI G r ci k P) (kk : ∀ x : Int32, P x → W p l e R s m args below meth c H locs cells slots Q (F0 m (pc + 3) ls (.int x :: rest))) : W p l e R s m args below meth c H locs cells slots Q (F0 m pc ls (va_rf r :: rest)) := by
  obtain ⟨a, fs, x, rfl, hG, hx, hP⟩ := hw
  have hp : va_P D vwCl [(a, .inr (ci, fs))] H := fun k q hk => by
    cases k with
    | zero => cases hk; exact (hW a _ hG).2
    | succ k => simp at hk
  exact va_get C.1.1 C.1.2.1 C.1.2.2.2.2 hin C.1.2.2.2.1 C.2.2.1 hp 0 rfl hc k hk (C.1.2.2.2.2 _ hlink) (fun _ h => by rw [← href]; exact h) hx hdg (kk x hP)
theorem tr_gfL (C : tc_B p l s m args meth c D K A Ts own cc nL) {ref C0 : String} {T : u_T} {N ci index : Nat} (hin : ∀ w ∈ u_ws C0 T N, w ∈ Ts) (hc : vwCl[ci]? = some (C0, T, N)) {k : Nat} (hk : k < N) (hlink : Cond.fieldLink own index ref (T k).2.1 (T k).2.2.1 ∈ Ts) (href : (T k).1 = ref) (hdg : decode cc pc = .ok (.getfield index, 3)) (hW : tg_W D A s H G)
    {r : Option Nat} {P : Int64 → Prop} (hw : gfL G r ci k P) (kk : ∀ x : Int64, P x → W p l e R s m args below meth c H locs cells slots Q (F0 m (pc + 3) ls (.long x :: rest))) : W p l e R s m args below meth c H locs cells slots Q (F0 m pc ls (va_rf r :: rest)) := by
  obtain ⟨a, fs, x, rfl, hG, hx, hP⟩ := hw
  have hp : va_P D vwCl [(a, .inr (ci, fs))] H := fun k q hk => by
    cases k with
    | zero => cases hk; exact (hW a _ hG).2
    | succ k => simp at hk
  exact va_get C.1.1 C.1.2.1 C.1.2.2.2.2 hin C.1.2.2.2.1 C.2.2.1 hp 0 rfl hc k hk (C.1.2.2.2.2 _ hlink) (fun _ h => by rw [← href]; exact h) hx hdg (kk x hP)
theorem tr_gfR (C : tc_B p l s m args meth c D K A Ts own cc nL) {ref C0 : String} {T : u_T} {N ci index : Nat} (hin : ∀ w ∈ u_ws C0 T N, w ∈ Ts) (hc : vwCl[ci]? = some (C0, T, N)) {k : Nat} (hk : k < N) (hlink : Cond.fieldLink own index ref (T k).2.1 (T k).2.2.1 ∈ Ts) (href : (T k).1 = ref) (hdg : decode cc pc = .ok (.getfield index, 3)) (hW : tg_W D A s H G)
    {r : Option Nat} {P : Option Nat → Prop} (hw : gfR G r ci k P) (kk : ∀ x : Option Nat, P x → W p l e R s m args below meth c H locs cells slots Q (F0 m (pc + 3) ls (va_rf x :: rest))) : W p l e R s m args below meth c H locs cells slots Q (F0 m pc ls (va_rf r :: rest)) := by
  obtain ⟨a, fs, x, rfl, hG, hx, hP⟩ := hw
  have hp : va_P D vwCl [(a, .inr (ci, fs))] H := fun k q hk => by
    cases k with
    | zero => cases hk; exact (hW a _ hG).2
    | succ k => simp at hk
  exact va_get C.1.1 C.1.2.1 C.1.2.2.2.2 hin C.1.2.2.2.1 C.2.2.1 hp 0 rfl hc k hk (C.1.2.2.2.2 _ hlink) (fun _ h => by rw [← href]; exact h) hx hdg (kk x hP)
/-- String.value, of an own String or of a constant -/
theorem tr_gsV (C : tc_B p l s m args meth c D K A Ts own cc nL) {N ci index : Nat} {T : u_T} (hin : ∀ w ∈ u_ws "java/lang/String" T N, w ∈ Ts) (hc : vwCl[ci]? = some ("java/lang/String", T, N)) (hk : 0 < N) (hlink : Cond.fieldLink own index "java/lang/String" (T 0).2.1 (T 0).2.2.1 ∈ Ts) (h1 : (T 0).1 = "java/lang/String") (h2 : (T 0).2.1 = "value") (h3 : (T 0).2.2.1 = "[B") (hdg : decode cc pc = .ok (.getfield index, 3)) (hW : tg_W D A s H G) (hS : va_S A s.heap H locs)
    {r : Option Nat} {P : Option Nat → Prop} (hw : gsV K G r ci P) (kk : ∀ x : Option Nat, P x → W p l e R s m args below meth c H locs cells slots Q (F0 m (pc + 3) ls (va_rf x :: rest))) : W p l e R s m args below meth c H locs cells slots Q (F0 m pc ls (va_rf r :: rest)) := by
  rcases hw with hw | ⟨a, v, rfl, hK, hP⟩
  · exact tr_gfR C hin hc hk hlink h1 hdg hW hw kk
  · have hE := (C.2.2.2.1.2.2.2.2.2.1 a v hK).2.2
    have hlk := C.1.2.2.2.2 _ hlink
    rw [h2, h3] at hlk
    exact vk_getf (v := .ref v) C.1.1 C.1.2.1 hE hS C.1.2.2.2.1 hlk (fun _ h => h) hdg (kk (some v) hP)
theorem tr_gsC (C : tc_B p l s m args meth c D K A Ts own cc nL) {N ci index : Nat} {T : u_T} (hin : ∀ w ∈ u_ws "java/lang/String" T N, w ∈ Ts) (hc : vwCl[ci]? = some ("java/lang/String", T, N)) (hk : 1 < N) (hlink : Cond.fieldLink own index "java/lang/String" (T 1).2.1 (T 1).2.2.1 ∈ Ts) (h1 : (T 1).1 = "java/lang/String") (h2 : (T 1).2.1 = "coder") (h3 : (T 1).2.2.1 = "B") (hdg : decode cc pc = .ok (.getfield index, 3)) (hW : tg_W D A s H G) (hS : va_S A s.heap H locs)
    {r : Option Nat} {P : Int32 → Prop} (hw : gsC K G r ci P) (kk : ∀ x : Int32, P x → W p l e R s m args below meth c H locs cells slots Q (F0 m (pc + 3) ls (.int x :: rest))) : W p l e R s m args below meth c H locs cells slots Q (F0 m pc ls (va_rf r :: rest)) := by
  rcases hw with hw | ⟨a, v, rfl, hK, hP⟩
  · exact tr_gfI C hin hc hk hlink h1 hdg hW hw kk
  · have hE := (C.2.2.2.1.2.2.2.2.2.1 a v hK).2.1
    have hlk := C.1.2.2.2.2 _ hlink
    rw [h2, h3] at hlk
    exact vk_getf (v := .int 0) C.1.1 C.1.2.1 hE hS C.1.2.2.2.1 hlk (fun _ h => h) hdg (kk 0 hP)
theorem ts_set {A : Nat → Prop} {H0 H H1 : Heap} {locs : List Loc} {a k : Nat} (h : va_S A H0 H locs) (z : H1.size = H.size) (oq : ∀ q : Nat, q ≠ a → H1[q]? = H[q]?) (ha : A a) : va_S A H0 H1 (locs ++ [⟨a, k⟩]) := h.put z oq ha
theorem tr_pf (C : tc_B p l s m args meth c D K A Ts own cc nL) {ref C0 : String} {T : u_T} {N ci index : Nat} (hin : ∀ w ∈ u_ws C0 T N, w ∈ Ts) (ty0 : Nat → FieldType) (hty : ∀ k, k < N → parseFieldDescriptor (T k).2.2.1 = some (ty0 k)) (hnm : ∀ a, a < N → ∀ b, b < N → a ≠ b → (T a).2.1 ≠ (T b).2.1) (hc : vwCl[ci]? = some (C0, T, N)) {k : Nat} (hk : k < N) (hlink : Cond.fieldLink own index ref (T k).2.1 (T k).2.2.1 ∈ Ts) (href : (T k).1 = ref) (hfin : (T k).2.2.2 = false) {ty : FieldType} {v : Value} (hd : parseFieldDescriptor (T k).2.2.1 = some ty) (hn : narrow ty v = v) (hfit : fits ty v = true) (hdg : decode cc pc = .ok (.putfield index, 3)) (hW : tg_W D A s H G) (hS : va_S A s.heap H locs)
    {r : Option Nat} {P : tG → Prop} (hw : pfV G r ci k v P) (kk : ∀ (G : tG) (H : Heap) (locs : List Loc), P G → tg_W D A s H G → va_S A s.heap H locs → W p l e R s m args below meth c H locs cells slots Q (F0 m (pc + 3) ls rest)) : W p l e R s m args below meth c H locs cells slots Q (F0 m pc ls (v :: va_rf r :: rest)) := by
  obtain ⟨a, fs, rfl, hG, hl, hP⟩ := hw
  obtain ⟨hA, ha⟩ := hW a _ hG
  have hap := va_apart (own := own) C.1.2.2.2.2 hin ty0 hty hnm C.2.2.1 hc
  obtain ⟨r, h1, cell, q1, q2, q3, q4⟩ := ha
  have hr : r = (C0, T, N) := Option.some.inj (h1.symm.trans hc)
  subst hr
  obtain ⟨hS2, hfc, kC, hkC, hkind⟩ := C.2.2.1.1 ci _ hc
  obtain ⟨cf, kf, fi, f, hi, hsl⟩ := hS2 k hk
  have hlay := C.1.2.2.2.2 _ (hin _ (u_in_lay hk))
  unfold u_lay at hlay
  rw [if_neg (by rw [hfin]; decide)] at hlay
  have hst := (u_facts hfc hkC (u_lays C.1.2.2.2.2 hin hk) hi).1
  have h6 := u_store hfc hkC hkind hlay hi hd hn hfit
  have hi2 : s.fieldFound? ref (T k).2.1 (T k).2.2.1 = some (cf, kf, fi, f) := by rw [← href]; exact hi
  refine W.putK C.1.1 C.1.2.1 (f := f) ⟨C.1.2.2.2.1, C.1.2.2.2.2 _ hlink, ⟨_, _, _, hi2⟩, hst⟩ (by rw [q2]; exact h6) q1 q3 (by rw [hsl]; exact k2_hasslot (q4 k hk)) rfl rfl hdg fun H' e1 e2 e3 => ?_
  rw [hsl] at e1 ⊢
  exact kk _ H' _ hP (hW.put hA ⟨_, hc, t_OB.to (V := updV (vp_V fs) k v) ⟨_, e1, q2, q3, t_set q4 hap hk v⟩ (fun j _ => vp_updV_set hl v j)⟩ e3) (hS.put e2 e3 hA)
theorem tr_pfF (C : tc_B p l s m args meth c D K A Ts own cc nL) {ref C0 : String} {T : u_T} {N ci index : Nat} (hin : ∀ w ∈ u_ws C0 T N, w ∈ Ts) (ty0 : Nat → FieldType) (hty : ∀ k, k < N → parseFieldDescriptor (T k).2.2.1 = some (ty0 k)) (hnm : ∀ a, a < N → ∀ b, b < N → a ≠ b → (T a).2.1 ≠ (T b).2.1) (hc : vwCl[ci]? = some (C0, T, N)) {k : Nat} (hk : k < N) (hlink : Cond.fieldLink own index ref (T k).2.1 (T k).2.2.1 ∈ Ts) (href : (T k).1 = ref) (hfin : (T k).2.2.2 = true) (hin2 : meth.name = "<init>") (hdecl : (T k).1 = own) {ty : FieldType} {v : Value} (hd : parseFieldDescriptor (T k).2.2.1 = some ty) (hn : narrow ty v = v) (hfit : fits ty v = true) (hdg : decode cc pc = .ok (.putfield index, 3)) (hW : tg_W D A s H G) (hS : va_S A s.heap H locs)
    {r : Option Nat} {P : tG → Prop} (hw : pfV G r ci k v P) (kk : ∀ (G : tG) (H : Heap) (locs : List Loc), P G → tg_W D A s H G → va_S A s.heap H locs → W p l e R s m args below meth c H locs cells slots Q (F0 m (pc + 3) ls rest)) : W p l e R s m args below meth c H locs cells slots Q (F0 m pc ls (v :: va_rf r :: rest)) := by
  obtain ⟨a, fs, rfl, hG, hl, hP⟩ := hw
  obtain ⟨hA, ha⟩ := hW a _ hG
  have hap := va_apart (own := own) C.1.2.2.2.2 hin ty0 hty hnm C.2.2.1 hc
  obtain ⟨r, h1, cell, q1, q2, q3, q4⟩ := ha
  have hr : r = (C0, T, N) := Option.some.inj (h1.symm.trans hc)
  subst hr
  obtain ⟨hS2, hfc, kC, hkC, hkind⟩ := C.2.2.1.1 ci _ hc
  obtain ⟨cf, kf, fi, f, hi, hsl⟩ := hS2 k hk
  have hlay := C.1.2.2.2.2 _ (hin _ (u_in_lay hk))
  unfold u_lay at hlay
  rw [if_pos hfin] at hlay
  have hst := (u_facts hfc hkC (u_lays C.1.2.2.2.2 hin hk) hi).1
  have hcf : m.cls = cf := by
    obtain ⟨_, _, c', _, _, _, -, -, hf', -, -, -, hown2, -⟩ := Cond.laysFinal_spec hlay
    have e1 : c' = cf := by have := hi.symm.trans hf'; simp at this; exact this.1.symm
    rw [hdecl] at hown2
    rw [← e1]; exact Option.some.inj (C.1.2.2.2.1.symm.trans hown2)
  have h6 := u_fits hfc hkC hkind (Or.inr hlay) hi hd hn hfit
  have hi2 : s.fieldFound? ref (T k).2.1 (T k).2.2.1 = some (cf, kf, fi, f) := by rw [← href]; exact hi
  refine W.putFinK C.1.1 C.1.2.1 C.1.2.2.2.1 (C.1.2.2.2.2 _ hlink) hi2 hst hcf hin2 (by rw [q2]; exact h6) q1 q3 (by rw [hsl]; exact k2_hasslot (q4 k hk)) rfl rfl hdg fun H' e1 e2 e3 => ?_
  rw [hsl] at e1 ⊢
  exact kk _ H' _ hP (hW.put hA ⟨_, hc, t_OB.to (V := updV (vp_V fs) k v) ⟨_, e1, q2, q3, t_set q4 hap hk v⟩ (fun j _ => vp_updV_set hl v j)⟩ e3) (hS.put e2 e3 hA)
/-! arrays -/
theorem ti_in {i : Int32} {j n : Nat} (h : i.toInt = (j : Int)) (hj : j < n) : vp_in i n ∧ i.toNatClampNeg = j := by
  have e : i.toNatClampNeg = j := by
    show i.toInt.toNat = j
    rw [h]; rfl
  refine ⟨?_, e⟩
  rintro (h1 | h1)
  · have := Int32.lt_iff_toInt_lt.mp h1
    rw [h] at this
    have h0 : (0 : Int32).toInt = 0 := by decide
    rw [h0] at this
    omega
  · rw [e] at h1
    omega
theorem tr_alI (C : tc_B p l s m args meth c D K A Ts own cc nL) (hdg : decode cc pc = .ok (.iaload, 1)) (hW : tg_W D A s H G) {r : Option Nat} {i : Int32} {P : Int32 → Prop} (hw : alI G r i .int P) (kk : ∀ x : Int32, P x → W p l e R s m args below meth c H locs cells slots Q (F0 m (pc + 1) ls (.int x :: rest))) : W p l e R s m args below meth c H locs cells slots Q (F0 m pc ls (.int i :: va_rf r :: rest)) := by
  obtain ⟨a, n, f, j, rfl, hG, hi, hj, hP⟩ := hw
  obtain ⟨-, cA, hty, hcell⟩ := hW a _ hG
  obtain ⟨hin, he⟩ := ti_in hi hj
  exact W.iald (v := .int (f j)) C.1.1 C.1.2.1 hcell (hty.1 n (fun j => .int (f j))) (fun q => by cases q) (by show ¬ (i < 0 ∨ (arrV _ _ _).slots.size ≤ _); rw [arrV_size]; exact hin) (by show (arrV _ _ _).slots[_]? = _; rw [he, arrV_read _ _ hj]) rfl rfl hdg (kk _ hP)
theorem tr_alB (C : tc_B p l s m args meth c D K A Ts own cc nL) (hdg : decode cc pc = .ok (.baload, 1)) (hW : tg_W D A s H G) {r : Option Nat} {i : Int32} {P : Int32 → Prop} (hw : alI G r i .byte P) (kk : ∀ x : Int32, P x → W p l e R s m args below meth c H locs cells slots Q (F0 m (pc + 1) ls (.int x :: rest))) : W p l e R s m args below meth c H locs cells slots Q (F0 m pc ls (.int i :: va_rf r :: rest)) := by
  obtain ⟨a, n, f, j, rfl, hG, hi, hj, hP⟩ := hw
  obtain ⟨-, cA, hty, hcell⟩ := hW a _ hG
  obtain ⟨hin, he⟩ := ti_in hi hj
  exact W.bald (v := .int (f j)) C.1.1 C.1.2.1 hcell (hty.1 n (fun j => .int (f j))) (fun q => by cases q) (by show ¬ (i < 0 ∨ (arrV _ _ _).slots.size ≤ _); rw [arrV_size]; exact hin) (by show (arrV _ _ _).slots[_]? = _; rw [he, arrV_read _ _ hj]) rfl rfl hdg (kk _ hP)
theorem tr_alK (C : tc_B p l s m args meth c D K A Ts own cc nL) (hdg : decode cc pc = .ok (.baload, 1)) (hS : va_S A s.heap H locs) {r : Option Nat} {i : Int32} {P : Int32 → Prop} (hw : alK K r i P) (kk : ∀ x : Int32, P x → W p l e R s m args below meth c H locs cells slots Q (F0 m (pc + 1) ls (.int x :: rest))) : W p l e R s m args below meth c H locs cells slots Q (F0 m pc ls (.int i :: va_rf r :: rest)) := by
  obtain ⟨a, n, f, j, rfl, hK, hi, hj, hP⟩ := hw
  obtain ⟨cell, h1, h2, h3, h4, h5, h6, h7⟩ := (C.2.2.2.1.2.2.2.2.2.2.1 a n f hK).1
  obtain ⟨hin, he⟩ := ti_in hi (Nat.lt_of_lt_of_le hj h4)
  exact W.bald (v := .int (f j)) C.1.1 C.1.2.1 (by rw [hS.2.1 a (Array.getElem?_eq_some_iff.mp h1).1 h7]; exact h1) h2 h3 hin (by rw [he, h6 j hj]) rfl rfl hdg (kk _ hP)
theorem tr_alR (C : tc_B p l s m args meth c D K A Ts own cc nL) (hdg : decode cc pc = .ok (.aaload, 1)) (hW : tg_W D A s H G) {ty : FieldType} (hty : ty.isReference = true) {r : Option Nat} {i : Int32} {P : Option Nat → Prop} (hw : alR G r i ty P) (kk : ∀ x : Option Nat, P x → W p l e R s m args below meth c H locs cells slots Q (F0 m (pc + 1) ls (va_rf x :: rest))) : W p l e R s m args below meth c H locs cells slots Q (F0 m pc ls (.int i :: va_rf r :: rest)) := by
  obtain ⟨a, n, f, j, rfl, hG, hi, hj, hP⟩ := hw
  obtain ⟨-, cA, ht, hcell⟩ := hW a _ hG
  obtain ⟨hin, he⟩ := ti_in hi hj
  exact W.aald (v := va_rf (f j)) (ty := ty) C.1.1 C.1.2.1 hcell (ht.1 n (fun j => va_rf (f j))) hty (fun q => by cases q) (by show ¬ (i < 0 ∨ (arrV _ _ _).slots.size ≤ _); rw [arrV_size]; exact hin) (by show (arrV _ _ _).slots[_]? = _; rw [he, arrV_read _ _ hj]) rfl rfl hdg (kk _ hP)
theorem upd_updV (f : Nat → Int32) (j : Nat) (x : Int32) : updV (fun q => Value.int (f q)) j (.int x) = fun q => Value.int (upd f j x q) := by
  funext q
  by_cases hq : q = j
  · subst hq
    simp [updV, upd]
  · simp [updV, upd, hq]
theorem upR_updV (f : Nat → Option Nat) (j : Nat) (x : Option Nat) : updV (fun q => va_rf (f q)) j (va_rf x) = fun q => va_rf (va_up f j x q) := by
  funext q
  by_cases hq : q = j
  · subst hq
    simp [updV, va_up]
  · simp [updV, va_up, hq]
theorem tr_asI (C : tc_B p l s m args meth c D K A Ts own cc nL) (hdg : decode cc pc = .ok (.iastore, 1)) (hW : tg_W D A s H G) (hS : va_S A s.heap H locs) {r : Option Nat} {i x : Int32} {P : tG → Prop} (hw : asI G r i .int x P) (kk : ∀ (G : tG) (H : Heap) (locs : List Loc), P G → tg_W D A s H G → va_S A s.heap H locs → W p l e R s m args below meth c H locs cells slots Q (F0 m (pc + 1) ls rest)) : W p l e R s m args below meth c H locs cells slots Q (F0 m pc ls (.int x :: .int i :: va_rf r :: rest)) := by
  obtain ⟨a, n, f, j, rfl, hG, hi, hj, hP⟩ := hw
  obtain ⟨hA, cA, hty, hcell⟩ := hW a _ hG
  obtain ⟨hin, he⟩ := ti_in hi hj
  refine W.iast C.1.1 C.1.2.1 hcell (hty.1 n (fun j => .int (f j))) (fun q => by cases q) (by show ¬ (i < 0 ∨ (arrV _ _ _).slots.size ≤ _); rw [arrV_size]; exact hin) rfl rfl hdg fun H1 e1 z oq => ?_
  refine kk _ H1 _ hP (hW.put hA ⟨cA, hty, ?_⟩ oq) (hS.put z oq hA)
  rw [e1, vp_cell_i, vp_cell_i, arrV_store, he, upd_updV]
theorem tr_asB (C : tc_B p l s m args meth c D K A Ts own cc nL) (hdg : decode cc pc = .ok (.bastore, 1)) (hW : tg_W D A s H G) (hS : va_S A s.heap H locs) {r : Option Nat} {i x : Int32} {P : tG → Prop} (hw : asI G r i .byte (vp_nar .byte x) P) (kk : ∀ (G : tG) (H : Heap) (locs : List Loc), P G → tg_W D A s H G → va_S A s.heap H locs → W p l e R s m args below meth c H locs cells slots Q (F0 m (pc + 1) ls rest)) : W p l e R s m args below meth c H locs cells slots Q (F0 m pc ls (.int x :: .int i :: va_rf r :: rest)) := by
  obtain ⟨a, n, f, j, rfl, hG, hi, hj, hP⟩ := hw
  obtain ⟨hA, cA, hty, hcell⟩ := hW a _ hG
  obtain ⟨hin, he⟩ := ti_in hi hj
  refine W.bast C.1.1 C.1.2.1 hcell (hty.1 n (fun j => .int (f j))) (fun q => by cases q) (by show ¬ (i < 0 ∨ (arrV _ _ _).slots.size ≤ _); rw [arrV_size]; exact hin) rfl rfl hdg fun H1 e1 z oq => ?_
  refine kk _ H1 _ hP (hW.put hA ⟨cA, hty, ?_⟩ oq) (hS.put z oq hA)
  rw [e1, vp_cell_i, vp_cell_i, arrV_store, he, ← upd_updV]
  rfl
theorem tr_asR (C : tc_B p l s m args meth c D K A Ts own cc nL) (hdg : decode cc pc = .ok (.aastore, 1)) (hW : tg_W D A s H G) (hS : va_S A s.heap H locs) {C0 : String} {T : u_T} {N ci : Nat} (hc : vwCl[ci]? = some (C0, T, N)) {r v : Option Nat} {i : Int32} {P : tG → Prop} (hw : asR G r i (.object C0) v (okO ci) P) (kk : ∀ (G : tG) (H : Heap) (locs : List Loc), P G → tg_W D A s H G → va_S A s.heap H locs → W p l e R s m args below meth c H locs cells slots Q (F0 m (pc + 1) ls rest)) : W p l e R s m args below meth c H locs cells slots Q (F0 m pc ls (va_rf v :: .int i :: va_rf r :: rest)) := by
  obtain ⟨a, n, f, j, rfl, hG, hi, hj, hv, hP⟩ := hw
  obtain ⟨hA, cA, hty, hcell⟩ := hW a _ hG
  obtain ⟨hin, he⟩ := ti_in hi hj
  have h0 : ¬ i < 0 := fun q => hin (Or.inl q)
  rcases hv with rfl | ⟨b, e2, rfl, hb, fs, rfl⟩
  · refine va_WaastN (C := C0) C.1.1 C.1.2.1 hcell (hty.1 n (fun j => va_rf (f j))) (fun h => by cases h) (by show ¬ (i < 0 ∨ (arrV _ _ _).slots.size ≤ _); rw [arrV_size]; exact hin) rfl rfl hdg fun H1 e1 z oq => ?_
    refine kk _ H1 _ hP (hW.put hA ⟨cA, hty, ?_⟩ oq) (hS.put z oq hA)
    rw [e1, vp_cell_q, vp_cell_q, arrV_store, he, ← upR_updV]
    rfl
  · obtain ⟨-, r', hr', cellV, g1, g2, g3, -⟩ := hW b _ hb
    have hr : r' = (C0, T, N) := Option.some.inj (hr'.symm.trans hc)
    subst hr
    have hcls := (C.2.2.1.1 ci _ hc).2
    obtain ⟨kA, comp, k1, k2, k3, -⟩ := hty.2
    have hcomp : comp = D.1 ci := Option.some.inj (k3.symm.trans hcls.1)
    subst hcomp
    obtain ⟨kC, hkC, -⟩ := hcls.2
    refine W.aast C.1.1 C.1.2.1 hcell (fun q h => by cases h) (fun h => by cases h) k1 k2 rfl hkC ⟨h0, by show _ < (arrV _ _ _).slots.size; rw [arrV_size, he]; exact hj⟩ g1 (fun q h => by rw [g3] at h; cases h) (by rw [g2]; exact hkC) (by rw [g2]; exact va_asg _ _) rfl rfl hdg fun H1 e1 z oq => ?_
    refine kk _ H1 _ hP (hW.put hA ⟨cA, hty, ?_⟩ oq) (hS.put z oq hA)
    rw [e1, vp_cell_q, vp_cell_q, arrV_store, he, ← upR_updV]
    rfl
/-- an int array laid into an array of int arrays -/
theorem tr_asA (C : tc_B p l s m args meth c D K A Ts own cc nL) (hdg : decode cc pc = .ok (.aastore, 1)) (hW : tg_W D A s H G) (hS : va_S A s.heap H locs) {r v : Option Nat} {i : Int32} {P : tG → Prop} (hw : asR G r i (.array .int) v okI P) (hv0 : v ≠ none) (kk : ∀ (G : tG) (H : Heap) (locs : List Loc), P G → tg_W D A s H G → va_S A s.heap H locs → W p l e R s m args below meth c H locs cells slots Q (F0 m (pc + 1) ls rest)) : W p l e R s m args below meth c H locs cells slots Q (F0 m pc ls (va_rf v :: .int i :: va_rf r :: rest)) := by
  obtain ⟨a, n, f, j, rfl, hG, hi, hj, hv, hP⟩ := hw
  obtain ⟨hA, cA, hty, hcell⟩ := hW a _ hG
  obtain ⟨hin, he⟩ := ti_in hi hj
  have h0 : ¬ i < 0 := fun q => hin (Or.inl q)
  rcases hv with rfl | ⟨b, e2, rfl, hb, ⟨nb, gb⟩, rfl⟩
  · exact absurd rfl hv0
  · obtain ⟨-, cB, htB, hcB⟩ := hW b _ hb
    obtain ⟨comp, cx, kx, a1, a2, a3, a4, a5⟩ := arrayOverA_spec C.2.2.2.1.2.2.2.1
    have hcx : cx = cA := Option.some.inj (a5.symm.trans hty.2)
    subst hcx
    have hcb : comp = cB := Option.some.inj (a1.symm.trans htB.2)
    subst hcb
    obtain ⟨kB, hkB, -⟩ := Vm.findClass_spec a1
    have hcls : (vp_cell comp (nb, gb)).cls = comp := by
      rcases gb with g | g | g | g | g <;> rfl
    have hvmn : (vp_cell comp (nb, gb)).vm = .none := by
      rcases gb with g | g | g | g | g <;> rfl
    refine W.aast C.1.1 C.1.2.1 hcell (fun q h => by cases h) (fun h => by cases h) a3 a4 rfl hkB ⟨h0, by show _ < (arrV _ _ _).slots.size; rw [arrV_size, he]; exact hj⟩ hcB (fun q h => by rw [hvmn] at h; cases h) (by rw [hcls]; exact hkB) (by rw [hcls]; exact va_asg _ _) rfl rfl hdg fun H1 e1 z oq => ?_
    refine kk _ H1 _ hP (hW.put hA ⟨cx, hty, ?_⟩ oq) (hS.put z oq hA)
    rw [e1, vp_cell_q, vp_cell_q, arrV_store, he, ← upR_updV]
    rfl
theorem tr_len (C : tc_B p l s m args meth c D K A Ts own cc nL) (hdg : decode cc pc = .ok (.arraylength, 1)) (hW : tg_W D A s H G) {r : Option Nat} {P : Int32 → Prop} (hw : lenA G r P) (kk : ∀ x : Int32, P x → W p l e R s m args below meth c H locs cells slots Q (F0 m (pc + 1) ls (.int x :: rest))) : W p l e R s m args below meth c H locs cells slots Q (F0 m pc ls (va_rf r :: rest)) := by
  obtain ⟨a, ty, ⟨n, f⟩, rfl, hG, hP⟩ := hw
  obtain ⟨-, cA, hty, hcell⟩ := hW a _ hG
  rcases f with f | f | f | f | f
  · exact W.alen (n := Int32.ofNat n) C.1.1 C.1.2.1 hcell (hty.1 n (fun j => .int (f j))) (by rw [vp_cell_i, arrV_size] <;> rfl) rfl rfl hdg (kk _ hP)
  · exact W.alen (n := Int32.ofNat n) C.1.1 C.1.2.1 hcell (hty.1 n (fun j => .long (f j))) (by rw [vp_cell_l, arrV_size] <;> rfl) rfl rfl hdg (kk _ hP)
  · exact W.alen (n := Int32.ofNat n) C.1.1 C.1.2.1 hcell (hty.1 n (fun j => .float (f j))) (by rw [vp_cell_f, arrV_size] <;> rfl) rfl rfl hdg (kk _ hP)
  · exact W.alen (n := Int32.ofNat n) C.1.1 C.1.2.1 hcell (hty.1 n (fun j => .double (f j))) (by rw [vp_cell_d, arrV_size] <;> rfl) rfl rfl hdg (kk _ hP)
  · exact W.alen (n := Int32.ofNat n) C.1.1 C.1.2.1 hcell (hty.1 n (fun j => va_rf (f j))) (by rw [vp_cell_q, arrV_size] <;> rfl) rfl rfl hdg (kk _ hP)
theorem tr_lenK (C : tc_B p l s m args meth c D K A Ts own cc nL) (hdg : decode cc pc = .ok (.arraylength, 1)) (hW : tg_W D A s H G) (hS : va_S A s.heap H locs) {r : Option Nat} {P : Int32 → Prop} (hw : lenK K G r P) (kk : ∀ x : Int32, P x → W p l e R s m args below meth c H locs cells slots Q (F0 m (pc + 1) ls (.int x :: rest))) : W p l e R s m args below meth c H locs cells slots Q (F0 m pc ls (va_rf r :: rest)) := by
  rcases hw with hw | ⟨a, n, f, rfl, hK, hP⟩
  · exact tr_len C hdg hW hw kk
  · exact va_tlen C.1.1 C.1.2.1 (C.2.2.2.1.2.2.2.2.2.2.1 a n f hK).1 hS rfl hdg (kk _ hP)
/-! making -/
theorem tr_new (C : tc_B p l s m args meth c D K A Ts own cc nL) {C0 : String} {T : u_T} {N ci index : Nat} (hin : ∀ w ∈ u_ws C0 T N, w ∈ Ts) (ty : Nat → FieldType) (hty : ∀ k, k < N → parseFieldDescriptor (T k).2.2.1 = some (ty k)) (hcl : Cond.classLink own index C0 ∈ Ts) (hinst : Cond.instantiable C0 N ∈ Ts) (hini : Cond.initialized C0 ∈ Ts) (hc : vwCl[ci]? = some (C0, T, N)) {fs : List Value} (hfs : ∀ j, j < N → defaultValue (ty j) = vp_V fs j) (hcells : cells + 1 ≤ R.cells) (hslots : slots + N ≤ R.slots) (hdg : decode cc pc = .ok (.new index, 3)) (hW : tg_W D A s H G) (hS : va_S A s.heap H locs) {P : Option Nat → tG → Prop} (hw : nwO G ci fs P)
    (kk : ∀ (r : Option Nat) (G : tG) (H : Heap), P r G → tg_W D A s H G → va_S A s.heap H locs → W p l e R s m args below meth c H locs (cells + 1) (slots + N) Q (F0 m (pc + 3) ls (va_rf r :: rest))) : W p l e R s m args below meth c H locs cells slots Q (F0 m pc ls rest) := by
  have hKn := C.2.2.1.1 ci _ hc
  refine W.newcK C.1.1 C.1.2.1 C.1.2.2.2.1 (C.1.2.2.2.2 _ hcl) (C.1.2.2.2.2 _ hinst) (C.1.2.2.2.2 _ hini) rfl hdg hcells hslots hKn.2.1 rfl fun H1 kC hkC e1 z1 o1 => ?_
  exact kk (some H.size) _ H1 (hw _ hW.fresh) (hW.make (C.2.2.2.2.1 _ hS.1) ⟨_, hc, (u_born ty C.1.2.2.2.2 hin hKn hkC e1 hty).to hfs⟩ o1) (ts_make hS z1 o1)
theorem tr_newarr (C : tc_B p l s m args meth c D K A Ts own cc nL) {atype : ArrayType} (harr : Cond.arrayClass (newarray.typeOf atype) ∈ Ts) {ty : FieldType} (hty : newarray.typeOf atype = ty) (hra : ∀ (cA : ClassId), s.vm.findClass ("[" ++ ty.toString) = some cA → va_RA s cA ty) {lim : Nat} {z : (Nat → Int32) ⊕ (Nat → Int64) ⊕ (Nat → UInt32) ⊕ (Nat → UInt64) ⊕ (Nat → Option Nat)} (ha : ∀ (cA : ClassId) (N : Nat), vp_cell cA (N, z) = arrV cA N (fun _ => defaultValue ty)) (hbytes : lim * componentBytes ty ≤ 536870912) (hcells : cells + 1 ≤ R.cells) (hslots : slots + lim ≤ R.slots) (hdg : decode cc pc = .ok (.newarray atype, 2)) (hW : tg_W D A s H G) (hS : va_S A s.heap H locs) {n : Int32} {P : Option Nat → tG → Prop} (hw : nwA G ty n lim z P)
    (kk : ∀ (r : Option Nat) (G : tG) (H : Heap), P r G → tg_W D A s H G → va_S A s.heap H locs → W p l e R s m args below meth c H locs (cells + 1) (slots + lim) Q (F0 m (pc + 2) ls (va_rf r :: rest))) : W p l e R s m args below meth c H locs cells slots Q (F0 m pc ls (.int n :: rest)) := by
  subst hty
  obtain ⟨N, hn, hN, hP⟩ := hw
  have e0 : n.toNatClampNeg = N := by show n.toInt.toNat = N; rw [hn]; rfl
  have h0 : ¬ n < 0 := fun h => by
    have h1 := Int32.lt_iff_toInt_lt.mp h
    rw [hn] at h1
    have h2 : (0 : Int32).toInt = 0 := by decide
    rw [h2] at h1
    omega
  refine va_newaK C.1.1 C.1.2.1 (C.1.2.2.2.2 _ harr) rfl hdg rfl h0 e0 (Nat.le_trans (Nat.mul_le_mul_right _ hN) hbytes) hcells (by omega) rfl fun H1 cA e1 z1 o1 hAr hNm => ?_
  refine W.widen (Nat.le_refl _) (by omega : slots + N ≤ slots + lim) ?_
  refine kk (some H.size) _ H1 (hP _ hW.fresh) (hW.make (C.2.2.2.2.1 _ hS.1) ⟨cA, ⟨hAr, hra cA hNm⟩, ?_⟩ o1) (ts_make hS z1 o1)
  rw [ha]
  exact e1
theorem tr_anew (C : tc_B p l s m args meth c D K A Ts own cc nL) {index : Nat} (hclink : Cond.classLink own index "Twinrow$RowList" ∈ Ts) {lim : Nat} (hbytes : lim * 4 ≤ 536870912) (hcells : cells + 1 ≤ R.cells) (hslots : slots + lim ≤ R.slots) (hdg : decode cc pc = .ok (.anewarray index, 3)) (hW : tg_W D A s H G) (hS : va_S A s.heap H locs) {n : Int32} {P : Option Nat → tG → Prop} (hw : nwA G (.object "Twinrow$RowList") n lim (.inr (.inr (.inr (.inr (fun _ => none))))) P)
    (kk : ∀ (r : Option Nat) (G : tG) (H : Heap), P r G → tg_W D A s H G → va_S A s.heap H locs → W p l e R s m args below meth c H locs (cells + 1) (slots + lim) Q (F0 m (pc + 3) ls (va_rf r :: rest))) : W p l e R s m args below meth c H locs cells slots Q (F0 m pc ls (.int n :: rest)) := by
  obtain ⟨N, hn, hN, hP⟩ := hw
  have e0 : n.toNatClampNeg = N := by show n.toInt.toNat = N; rw [hn]; rfl
  subst e0
  have h0 : ¬ n < 0 := fun h => by
    have h1 := Int32.lt_iff_toInt_lt.mp h
    rw [hn] at h1
    have h2 : (0 : Int32).toInt = 0 := by decide
    rw [h2] at h1
    omega
  refine W.anew C.1.1 C.1.2.1 C.1.2.2.2.1 (C.1.2.2.2.2 _ hclink) (va_AO.use C.2.2.2.1.2.2.1) rfl hdg rfl h0 (by omega) hcells (by omega) fun cA kA comp f1 f2 f3 f4 => ?_
  refine W.widen (Nat.le_refl _) (by omega : slots + n.toNatClampNeg ≤ slots + lim) ?_
  generalize hH1 : H.push ({ cls := cA, slots := Array.replicate n.toNatClampNeg .null, vm := .none } : Cell) = H1
  have z1 : H1.size = H.size + 1 := by rw [← hH1, Array.size_push]
  have e1 : H1[H.size]? = some (arrV cA n.toNatClampNeg (fun _ => .null)) := by rw [← hH1, Array.getElem?_push_size, ← arrV_new]
  have o1 : ∀ q : Nat, q < H.size → H1[q]? = H[q]? := fun q hq => by rw [← hH1, Array.getElem?_push, if_neg (Nat.ne_of_lt hq)]
  refine kk (some H.size) _ H1 (hP _ hW.fresh) (hW.make (C.2.2.2.2.1 _ hS.1) ⟨cA, ⟨fun N z => ⟨(fun k h => by cases h), kA, f2, comp, f3⟩, kA, comp, f2, f3, f4, f1⟩, ?_⟩ o1) (ts_make hS z1 o1)
  rw [vp_cell_q]
  exact e1
theorem tr_anewA (C : tc_B p l s m args meth c D K A Ts own cc nL) {index : Nat} {cs : String} (hcs : (FieldType.array .int).toString = cs) (hclink0 : Cond.classLink own index cs ∈ Ts) {lim : Nat} (hbytes : lim * 4 ≤ 536870912) (hcells : cells + 1 ≤ R.cells) (hslots : slots + lim ≤ R.slots) (hdg : decode cc pc = .ok (.anewarray index, 3)) (hW : tg_W D A s H G) (hS : va_S A s.heap H locs) {n : Int32} {P : Option Nat → tG → Prop} (hw : nwA G (.array .int) n lim (.inr (.inr (.inr (.inr (fun _ => none))))) P)
    (kk : ∀ (r : Option Nat) (G : tG) (H : Heap), P r G → tg_W D A s H G → va_S A s.heap H locs → W p l e R s m args below meth c H locs (cells + 1) (slots + lim) Q (F0 m (pc + 3) ls (va_rf r :: rest))) : W p l e R s m args below meth c H locs cells slots Q (F0 m pc ls (.int n :: rest)) := by
  obtain ⟨N, hn, hN, hP⟩ := hw
  have e0 : n.toNatClampNeg = N := by show n.toInt.toNat = N; rw [hn]; rfl
  subst e0
  have h0 : ¬ n < 0 := fun h => by
    have h1 := Int32.lt_iff_toInt_lt.mp h
    rw [hn] at h1
    have h2 : (0 : Int32).toInt = 0 := by decide
    rw [h2] at h1
    omega
  have hclink : Cond.classLink own index (FieldType.array .int).toString ∈ Ts := by rw [hcs]; exact hclink0
  refine W.anewA (t := .int) C.1.1 C.1.2.1 C.1.2.2.2.1 (C.1.2.2.2.2 _ hclink) C.2.2.2.1.2.2.2.1 rfl hdg rfl h0 (by omega) hcells (by omega) fun cA kA comp f1 f2 f3 f4 => ?_
  refine W.widen (Nat.le_refl _) (by omega : slots + n.toNatClampNeg ≤ slots + lim) ?_
  generalize hH1 : H.push ({ cls := cA, slots := Array.replicate n.toNatClampNeg .null, vm := .none } : Cell) = H1
  have z1 : H1.size = H.size + 1 := by rw [← hH1, Array.size_push]
  have e1 : H1[H.size]? = some (arrV cA n.toNatClampNeg (fun _ => .null)) := by rw [← hH1, Array.getElem?_push_size, ← arrV_new]
  have o1 : ∀ q : Nat, q < H.size → H1[q]? = H[q]? := fun q hq => by rw [← hH1, Array.getElem?_push, if_neg (Nat.ne_of_lt hq)]
  refine kk (some H.size) _ H1 (hP _ hW.fresh) (hW.make (C.2.2.2.2.1 _ hS.1) ⟨cA, ⟨fun N z => ⟨(fun k h => by cases h), kA, f2, comp, f3⟩, f1⟩, ?_⟩ o1) (ts_make hS z1 o1)
  rw [vp_cell_q]
  exact e1
end TRA
end
section
/-! CALLS, RETURNS, THROWS over the world as a map -/
section TCA
variable {p : Program} {l : Launch} {e : Env} {R : Room} {s : State} {m : MethodId} {args : Array Value} {below : List Frame} {meth : Method} {c : Code} {H : Heap} {locs : List Loc} {cells slots : Nat} {Q : State → Prop}
variable {D : va_G} {K : tK} {A : Nat → Prop} {Ts : List Cond} {own : String} {cc : ByteArray} {nL : Nat} {pc : Nat} {ls : Array Slot} {rest : List Value} {G : tG}
theorem tc_kx (C : tc_B p l s m args meth c D K A Ts own cc nL) : kx_C s := C.2.2.2.1.2.2.2.2.2.2.2.2.2.2
theorem tc_pre (C : tc_B p l s m args meth c D K A Ts own cc nL) (hW : tg_W D A s H G) (hS : va_S A s.heap H locs) (av : List Value) : ∀ U : State, U.heap = H → s.WarmedH U.vm → tc_Pc D K A H.size G av av.toArray U := by
  intro U hU hWm
  have hvm := hWm.alike
  refine ⟨rfl, by rw [hU], ?_, va_K.moved hvm C.2.2.1, ?_, fun q hq => C.2.2.2.2.1 q (Nat.le_trans hS.1 hq)⟩
  · rw [hU]
    exact hW.moved hvm
  · rw [hU]
    exact (C.2.2.2.1.kept hS.2.1).moved hWm
theorem tc_room {vs : List tV} (hrest : rest = vs.map tv_v) (h : (vs.map fun v => if tv_2 v then 2 else 1).sum ≤ 8) : 2 * (F0 m pc ls rest).monitorRoom + (rest.map fun v => v.category).sum ≤ 8 := by
  have e1 : (rest.map fun v => v.category) = vs.map fun v => if tv_2 v then 2 else 1 := by
    rw [hrest, List.map_map]
    apply List.map_congr_left
    intro a _
    exact tv_cat a
  have h2 : (rest.map fun v => v.category).sum ≤ 8 := by rw [e1]; exact h
  exact lv_room h2
theorem tc_recv (C : tc_B p l s m args meth c D K A Ts own cc nL) (hW : tg_W D A s H G) {a ci : Nat} {q : vw_C} {fs : List Value} (hc : vwCl[ci]? = some q) (hG : G a = some (.inr (ci, fs))) : ∃ cell : Cell, H[a]? = some cell ∧ cell.vm.isStatics = false ∧ s.vm.findClass q.1 = some cell.cls := by
  obtain ⟨-, r, h1, cell, h2, h3, h4, -⟩ := hW a _ hG
  have hr : r = q := Option.some.inj (h1.symm.trans hc)
  subst hr
  exact ⟨cell, h2, by rw [h4]; rfl, by rw [h3]; exact (C.2.2.1.1 ci _ hc).2.1⟩
variable {y : MethodName} {ws : List Cond} {rm : Room} {mc ms n index maxL : Nat} {bytes : ByteArray} {ret : Option FieldType} {As : List Value} {pr : Option Value → tG → Prop} {px : String → tG → Prop} {wp : tG → Prop} {st0 : List Value}
theorem tr_runV {C0 : String} {T : u_T} {N ci : Nat} {r : Option Nat} (C : tc_B p l s m args meth c D K A Ts own cc nL) (hl : ls.size = nL) (hct : Ct l y ws rm mc ms (va_rf r :: As) K pr wp) (cw : CallW R s args own C0 index y bytes maxL ret ws rm mc ms n) (hc : vwCl[ci]? = some (C0, T, N)) (hn : As.length = n) (hdg : decode cc pc = .ok (.invokevirtual index, 3)) (hf : cells + mc ≤ R.cells ∧ slots + ms ≤ R.slots) (vs : List tV) (hrest : rest = vs.map tv_v) (h8 : (vs.map fun v => if tv_2 v then 2 else 1).sum ≤ 8) (hst : st0 = As.reverse ++ va_rf r :: rest) (hW : tg_W D A s H G) (hS : va_S A s.heap H locs) (hw : rcv G r ci (wp G)) :
    va_Run p l e R s m args below meth c H locs cells slots mc ms (F0 m pc ls st0) rest (tc_Qc D A pr (va_rf r :: As).toArray) A := by
  obtain ⟨a, fs, rfl, hG, hw⟩ := hw
  subst hst
  exact va_runV (C := C0) (As := As) (b := a) (rest := rest) C.1 (hct D A H.size G hw) cw ⟨tc_blind _ _ _ _ _ _, tc_recv C hW hc hG, tc_pre C hW hS _⟩ rfl hn hl rfl (tc_room (pc := pc) (m := m) (ls := ls) hrest h8) hdg hf
theorem tr_runVS {T : u_T} {N ci : Nat} {r : Option Nat} (C : tc_B p l s m args meth c D K A Ts own cc nL) (hl : ls.size = nL) (hct : Ct l y ws rm mc ms (va_rf r :: As) K pr wp) (cw : CallW R s args own "java/lang/String" index y bytes maxL ret ws rm mc ms n) (hc : vwCl[ci]? = some ("java/lang/String", T, N)) (hn : As.length = n) (hdg : decode cc pc = .ok (.invokevirtual index, 3)) (hf : cells + mc ≤ R.cells ∧ slots + ms ≤ R.slots) (vs : List tV) (hrest : rest = vs.map tv_v) (h8 : (vs.map fun v => if tv_2 v then 2 else 1).sum ≤ 8) (hst : st0 = As.reverse ++ va_rf r :: rest) (hW : tg_W D A s H G) (hS : va_S A s.heap H locs) (hw : rcvS K G r ci (wp G)) :
    va_Run p l e R s m args below meth c H locs cells slots mc ms (F0 m pc ls st0) rest (tc_Qc D A pr (va_rf r :: As).toArray) A := by
  obtain ⟨a, rfl, hr, hw⟩ := hw
  subst hst
  have hrecv : ∃ cell : Cell, H[a]? = some cell ∧ cell.vm.isStatics = false ∧ s.vm.findClass "java/lang/String" = some cell.cls := by
    rcases hr with ⟨fs, hG⟩ | ⟨v, hK⟩
    · exact tc_recv C hW hc hG
    · obtain ⟨cell, h1, h2, h3, -⟩ := va_O.kept (C.2.2.2.1.2.2.2.2.2.1 a v hK).1 hS.2.1
      exact ⟨cell, h1, h2, h3⟩
  exact va_runV (C := "java/lang/String") (As := As) (b := a) (rest := rest) C.1 (hct D A H.size G hw) cw ⟨tc_blind _ _ _ _ _ _, hrecv, tc_pre C hW hS _⟩ rfl hn hl rfl (tc_room (pc := pc) (m := m) (ls := ls) hrest h8) hdg hf
theorem tr_runU {C0 owner : String} {x : MethodName} {T : u_T} {N ci : Nat} {r : Option Nat} (C : tc_B p l s m args meth c D K A Ts own cc nL) (hl : ls.size = nL) (hct : Ct l y ws rm mc ms (va_rf r :: As) K pr wp) (cw : va_CU R s args own C0 owner index x y bytes maxL ret ws rm mc ms n) (hc : vwCl[ci]? = some (C0, T, N)) (hn : As.length = n) (hdg : decode cc pc = .ok (.invokevirtual index, 3)) (hf : cells + mc ≤ R.cells ∧ slots + ms ≤ R.slots) (vs : List tV) (hrest : rest = vs.map tv_v) (h8 : (vs.map fun v => if tv_2 v then 2 else 1).sum ≤ 8) (hst : st0 = As.reverse ++ va_rf r :: rest) (hW : tg_W D A s H G) (hS : va_S A s.heap H locs) (hw : rcv G r ci (wp G)) :
    va_Run p l e R s m args below meth c H locs cells slots mc ms (F0 m pc ls st0) rest (tc_Qc D A pr (va_rf r :: As).toArray) A := by
  obtain ⟨a, fs, rfl, hG, hw⟩ := hw
  subst hst
  exact va_runU (C := C0) (As := As) (b := a) (rest := rest) C.1 (hct D A H.size G hw) cw ⟨tc_blind _ _ _ _ _ _, tc_recv C hW hc hG, tc_pre C hW hS _⟩ rfl hn hl rfl (tc_room (pc := pc) (m := m) (ls := ls) hrest h8) hdg hf
theorem tr_runSU {C0 : String} {T : u_T} {N ci : Nat} {r : Option Nat} (C : tc_B p l s m args meth c D K A Ts own cc nL) (hl : ls.size = nL) (hct : Ct l y ws rm mc ms (va_rf r :: As) K pr wp) (cw : va_CS R s args own index y bytes maxL ret ws rm mc ms n) (hc : vwCl[ci]? = some (C0, T, N)) (hn : As.length = n) (hdg : decode cc pc = .ok (.invokespecial index, 3)) (hf : cells + mc ≤ R.cells ∧ slots + ms ≤ R.slots) (vs : List tV) (hrest : rest = vs.map tv_v) (h8 : (vs.map fun v => if tv_2 v then 2 else 1).sum ≤ 8) (hst : st0 = As.reverse ++ va_rf r :: rest) (hW : tg_W D A s H G) (hS : va_S A s.heap H locs) (hw : rcv G r ci (wp G)) :
    va_Run p l e R s m args below meth c H locs cells slots mc ms (F0 m pc ls st0) rest (tc_Qc D A pr (va_rf r :: As).toArray) A := by
  obtain ⟨a, fs, rfl, hG, hw⟩ := hw
  subst hst
  exact va_runSU (C := C0) (As := As) (b := a) (rest := rest) (C.2.2.1.1 ci _ hc).2 C.1 (hct D A H.size G hw) cw ⟨tc_blind _ _ _ _ _ _, tc_recv C hW hc hG, tc_pre C hW hS _⟩ rfl hn hl rfl (tc_room (pc := pc) (m := m) (ls := ls) hrest h8) hdg hf
theorem tr_runS (C : tc_B p l s m args meth c D K A Ts own cc nL) (hl : ls.size = nL) (hct : Ct l y ws rm mc ms As K pr wp) (cw : CallB R s args own index y bytes maxL ret ws rm mc ms n ∧ (Cond.static y).before args s = true) (hn : As.length = n) (hdg : decode cc pc = .ok (.invokestatic index, 3)) (hf : cells + mc ≤ R.cells ∧ slots + ms ≤ R.slots) (vs : List tV) (hrest : rest = vs.map tv_v) (h8 : (vs.map fun v => if tv_2 v then 2 else 1).sum ≤ 8) (hst : st0 = As.reverse ++ rest) (hW : tg_W D A s H G) (hS : va_S A s.heap H locs) (hw : wp G) :
    va_Run p l e R s m args below meth c H locs cells slots mc ms (F0 m pc ls st0) rest (tc_Qc D A pr As.toArray) A := by
  subst hst
  exact va_runS (As := As) (rest := rest) C.1 (hct D A H.size G hw) cw ⟨tc_blind _ _ _ _ _ _, tc_pre C hW hS _⟩ rfl hn hl rfl (tc_room (pc := pc) (m := m) (ls := ls) hrest h8) hdg hf
theorem tr_runI {r : Option Nat} (C : tc_B p l s m args meth c D K A Ts own cc nL) (hl : ls.size = nL) (hct : Ct l y ws rm mc ms (va_rf r :: As) K pr wp) (cw : CallB R s args own index y bytes maxL none ws rm mc ms n ∧ y.name = "<init>" ∧ (Cond.instanceMethod y).before args s = true) (hn : As.length = n) (hdg : decode cc pc = .ok (.invokespecial index, 3)) (hf : cells + mc ≤ R.cells ∧ slots + ms ≤ R.slots) (vs : List tV) (hrest : rest = vs.map tv_v) (h8 : (vs.map fun v => if tv_2 v then 2 else 1).sum ≤ 8) (hst : st0 = As.reverse ++ va_rf r :: rest) (hW : tg_W D A s H G) (hS : va_S A s.heap H locs) (hw : (∃ a : Nat, r = some a) ∧ wp G) :
    va_Run p l e R s m args below meth c H locs cells slots mc ms (F0 m pc ls st0) rest (tc_Qc D A pr (va_rf r :: As).toArray) A := by
  obtain ⟨⟨a, rfl⟩, hw⟩ := hw
  subst hst
  exact va_runI (As := As) (b := a) (rest := rest) C.1 (hct D A H.size G hw) cw ⟨tc_blind _ _ _ _ _ _, tc_pre C hW hS _⟩ rfl hn hl rfl (tc_room (pc := pc) (m := m) (ls := ls) hrest h8) hdg hf
theorem tx_runV {C0 : String} {T : u_T} {N ci : Nat} {r : Option Nat} (C : tc_B p l s m args meth c D K A Ts own cc nL) (hl : ls.size = nL) (hct : Cx l y ws rm mc ms (va_rf r :: As) K pr px wp) (cw : CallW R s args own C0 index y bytes maxL ret ws rm mc ms n) (hc : vwCl[ci]? = some (C0, T, N)) (hn : As.length = n) (hdg : decode cc pc = .ok (.invokevirtual index, 3)) (hf : cells + mc ≤ R.cells ∧ slots + ms ≤ R.slots) (vs : List tV) (hrest : rest = vs.map tv_v) (h8 : (vs.map fun v => if tv_2 v then 2 else 1).sum ≤ 8) (hst : st0 = As.reverse ++ va_rf r :: rest) (hW : tg_W D A s H G) (hS : va_S A s.heap H locs) (hw : rcv G r ci (wp G)) :
    vx_Run p l e R s m args below meth c H locs cells slots mc ms (F0 m pc ls st0) rest (tc_Qc D A pr (va_rf r :: As).toArray) (tc_XC D A px) A := by
  obtain ⟨a, fs, rfl, hG, hw⟩ := hw
  subst hst
  exact vx_runV (C := C0) (As := As) (b := a) (rest := rest) C.1 (hct D A H.size G hw) cw ⟨tc_blind _ _ _ _ _ _, tc_recv C hW hc hG, tc_pre C hW hS _⟩ rfl hn hl rfl (tc_room (pc := pc) (m := m) (ls := ls) hrest h8) hdg hf
theorem tx_runS (C : tc_B p l s m args meth c D K A Ts own cc nL) (hl : ls.size = nL) (hct : Cx l y ws rm mc ms As K pr px wp) (cw : CallB R s args own index y bytes maxL ret ws rm mc ms n ∧ (Cond.static y).before args s = true) (hn : As.length = n) (hdg : decode cc pc = .ok (.invokestatic index, 3)) (hf : cells + mc ≤ R.cells ∧ slots + ms ≤ R.slots) (vs : List tV) (hrest : rest = vs.map tv_v) (h8 : (vs.map fun v => if tv_2 v then 2 else 1).sum ≤ 8) (hst : st0 = As.reverse ++ rest) (hW : tg_W D A s H G) (hS : va_S A s.heap H locs) (hw : wp G) :
    vx_Run p l e R s m args below meth c H locs cells slots mc ms (F0 m pc ls st0) rest (tc_Qc D A pr As.toArray) (tc_XC D A px) A := by
  subst hst
  exact vx_runS (As := As) (rest := rest) C.1 (hct D A H.size G hw) cw ⟨tc_blind _ _ _ _ _ _, tc_pre C hW hS _⟩ rfl hn hl rfl (tc_room (pc := pc) (m := m) (ls := ls) hrest h8) hdg hf
/-- a byte array's clone() -/
theorem tr_clone (C : tc_B p l s m args meth c D K A Ts own cc nL) (hl : ls.size = nL) (hlink : Cond.methodLink own index ⟨"[B", "clone", "()Ljava/lang/Object;"⟩ ∈ Ts) (hsame : Cond.sameMethod "[B" "java/lang/Object" "clone" "()Ljava/lang/Object;" ∈ Ts) (hnat : Cond.native ⟨"java/lang/Object", "clone", "()Ljava/lang/Object;"⟩ ∈ Ts) (hinst : Cond.instanceMethod ⟨"java/lang/Object", "clone", "()Ljava/lang/Object;"⟩ ∈ Ts) (hsel : Cond.selects "[B" ⟨"[B", "clone", "()Ljava/lang/Object;"⟩ ⟨"java/lang/Object", "clone", "()Ljava/lang/Object;"⟩ ∈ Ts) {lim : Nat} (hcells : cells + 1 ≤ R.cells) (hslots : slots + lim ≤ R.slots) (hframes : 1 ≤ R.frames) (hlocals : 14 ≤ R.locals) (hdg : decode cc pc = .ok (.invokevirtual index, 3)) (hW : tg_W D A s H G) (hS : va_S A s.heap H locs) {r : Option Nat} {P : Option Nat → tG → Prop} (hw : clB G r lim P)
    (kk : ∀ (r : Option Nat) (G : tG) (H : Heap), P r G → tg_W D A s H G → va_S A s.heap H locs → W p l e R s m args below meth c H locs (cells + 1) (slots + lim) Q (F0 m (pc + 3) ls [va_rf r])) : W p l e R s m args below meth c H locs cells slots Q (F0 m pc ls [va_rf r]) := by
  obtain ⟨a, n, f, rfl, hG, hn, hfit, hP⟩ := hw
  obtain ⟨hA, cA, hty, hcell⟩ := hW a _ hG
  obtain ⟨c0, t0, f1, f2, f3⟩ := Cond.castable_spec (va_Nw.use (A := args) rfl (tc_kx C).2.2.2.2.2.2.2.2)
  have hnm : s.vm.findClass "[B" = some cA := va_nm_byte hty.2
  cases hnm.symm.trans f1
  have hsz : (vp_cell cA (n, .inl f)).slots.size = n := arrV_size _ _ _
  intro T hT X
  have hcellT : T.heap[a]? = some (vp_cell cA (n, .inl f)) := by rw [hT]; exact hcell
  obtain ⟨-, kA, hkA, comp, hkind⟩ := State.isArrayOf_alike X.warmed.alike (hty.1 0 (fun _ => .null))
  obtain ⟨-, kS, hkS, compS, hkindS⟩ := hty.1 0 (fun _ => .null)
  obtain ⟨vm', X', st⟩ := X.cloneArray C.1.1 C.1.2.2.2.1 (C.1.2.2.2.2 _ hlink) (C.1.2.2.2.2 _ hsame) (C.1.2.2.2.2 _ hnat) (C.1.2.2.2.2 _ hinst) (C.1.2.2.2.2 _ hsel) (a := a) (cell := vp_cell cA (n, .inl f)) hcellT (fun k h => by cases h) (fun h => by cases h) hnm f2 f3
    (fun i v hv => by
      have hk' : T.vm.classes[cA]? = some kA := hkA
      have hf := va_fit (cA := cA) (n := n) (F := fun j => .int (f j)) (ty := .byte) hfit i v hv
      show T.fitsSlot cA .none i v = true
      simpa [State.fitsSlot, State.slotType?, hk', hkind] using hf)
    (g := F0 m pc ls [va_rf (some a)]) rfl (by rw [C.1.2.2.1]; exact hl) rfl (by rw [C.1.2.1]; exact hdg) hframes (by show 2 * 0 + 0 + 14 ≤ _; omega) hcells (by rw [hsz]; omega) (hloader := Vm.clonesLoader_of_array hkS hkindS)
  have hcellE : ({ cls := (vp_cell cA (n, .inl f)).cls, slots := (vp_cell cA (n, .inl f)).slots } : Cell) = vp_cell cA (n, .inl f) := rfl
  rw [hcellE, hsz] at X'
  generalize hH1 : H.push (vp_cell cA (n, .inl f)) = H1
  have z1 : H1.size = H.size + 1 := by rw [← hH1, Array.size_push]
  have e1 : H1[H.size]? = some (vp_cell cA (n, .inl f)) := by rw [← hH1, Array.getElem?_push_size]
  have o1 : ∀ q : Nat, q < H.size → H1[q]? = H[q]? := fun q hq => by rw [← hH1, Array.getElem?_push, if_neg (Nat.ne_of_lt hq)]
  have hk := W.widen (Nat.le_refl _) (by omega : slots + n ≤ slots + lim) (kk (some H.size) _ H1 (hP _ hW.fresh) (hW.make (C.2.2.2.2.1 _ hS.1) ⟨cA, hty, e1⟩ o1) (ts_make hS z1 o1))
  obtain ⟨t, b1, b2⟩ := hk ((T.setVm vm').pushCell (vp_cell cA (n, .inl f))) (by rw [← hH1, ← hT]; rfl) X'
  refine ⟨t, st t ?_, b2⟩
  rw [hcellE, hT]
  exact b1
theorem tr_castB (C : tc_B p l s m args meth c D K A Ts own cc nL) (hlink : Cond.classLink own index "[B" ∈ Ts) (hdg : decode cc pc = .ok (.checkcast index, 3)) (hW : tg_W D A s H G) {r : Option Nat} {P : Prop} (hw : isB G r P) (kk : P → W p l e R s m args below meth c H locs cells slots Q (F0 m (pc + 3) ls (va_rf r :: rest))) : W p l e R s m args below meth c H locs cells slots Q (F0 m pc ls (va_rf r :: rest)) := by
  obtain ⟨a, x, rfl, hG, hP⟩ := hw
  obtain ⟨hA, cA, hty, hcell⟩ := hW a _ hG
  have hp : va_P D vwCl [(a, .inl (cA, x))] H := fun k q hk => by
    cases k with
    | zero => cases hk; exact hcell
    | succ k => simp at hk
  exact va_castA C.1.1 C.1.2.1 C.1.2.2.2.1 (C.1.2.2.2.2 _ hlink) hp 0 rfl (va_nm_byte hty.2) hdg (kk hP)
/-- a field of a nest mate's object -/
theorem tr_gfLN (C : tc_B p l s m args meth c D K A Ts own cc nL) {ref C0 host : String} {T : u_T} {N ci index : Nat} (hin : ∀ w ∈ u_ws C0 T N, w ∈ Ts) (hc : vwCl[ci]? = some (C0, T, N)) {k : Nat} (hk : k < N) (hlink : va_Nw (.fieldLinkNest own index ref (T k).2.1 (T k).2.2.1 host) s) (href : (T k).1 = ref) (hdg : decode cc pc = .ok (.getfield index, 3)) (hW : tg_W D A s H G)
    {r : Option Nat} {P : Int64 → Prop} (hw : gfL G r ci k P) (kk : ∀ x : Int64, P x → W p l e R s m args below meth c H locs cells slots Q (F0 m (pc + 3) ls (.long x :: rest))) : W p l e R s m args below meth c H locs cells slots Q (F0 m pc ls (va_rf r :: rest)) := by
  obtain ⟨a, fs, x, rfl, hG, hx, hP⟩ := hw
  have hp : va_P D vwCl [(a, .inr (ci, fs))] H := fun k q hk => by
    cases k with
    | zero => cases hk; exact (hW a _ hG).2
    | succ k => simp at hk
  exact va_getN C.1.1 C.1.2.1 C.1.2.2.2.2 hin C.1.2.2.2.1 C.2.2.1 hp 0 rfl hc k hk (va_Nw.use rfl hlink) (fun _ h => by rw [← href]; exact h) hx hdg (kk x hP)
/-- behind a call that returns -/
theorem tr_back {a : Array Value} (hr : va_Run p l e R s m args below meth c H locs cells slots mc ms (F0 m pc ls st0) rest (tc_Qc D A pr a) A) (hS : va_S A s.heap H locs)
    (kk : ∀ (v : Option Value) (G : tG) (H1 : Heap) (locs1 : List Loc), pr v G → tg_W D A s H1 G → va_S A s.heap H1 locs1 → W p l e R s m args below meth c H1 locs1 (cells + mc) (slots + ms) Q (F0 m (pc + 3) ls (v.toList ++ rest))) : W p l e R s m args below meth c H locs cells slots Q (F0 m pc ls st0) := by
  intro T hT X
  obtain ⟨v, st₀, t, T', L, h0, X', hL, e1, e2, ⟨⟨v', G', hv, hp, hG⟩, hF⟩, st⟩ := hr T hT X
  cases hv
  obtain ⟨k1, k2, k3⟩ := vx_keep h0 e1 hS (fun _ _ h => h) (fun _ h => h) hL hF
  have hal : t.vm.Alike s.vm := by
    rw [← e2]
    exact X'.warmed.alike.symm
  obtain ⟨t2, a1, b1⟩ := kk v G' T'.heap (locs ++ L) hp (by rw [e1]; exact hG.moved hal) k3 T' rfl X'
  exact ⟨t2, st t2 a1, b1⟩
theorem tx_back {a : Array Value} (hr : vx_Run p l e R s m args below meth c H locs cells slots mc ms (F0 m pc ls st0) rest (tc_Qc D A pr a) (tc_XC D A px) A) (hS : va_S A s.heap H locs)
    (kx : ∀ (E : String) (ce : Cell) (q9 : Addr) (G : tG) (H1 : Heap) (locs1 : List Loc), px E G → tg_W D A s H1 G → va_S A s.heap H1 locs1 → H1[q9]? = some ce → ce.vm = .none → s.vm.findClass E = some ce.cls → vx_W p l e R s m args below meth c H1 locs1 (cells + mc) (slots + ms) Q (F0 m pc ls rest) q9)
    (kk : ∀ (v : Option Value) (G : tG) (H1 : Heap) (locs1 : List Loc), pr v G → tg_W D A s H1 G → va_S A s.heap H1 locs1 → W p l e R s m args below meth c H1 locs1 (cells + mc) (slots + ms) Q (F0 m (pc + 3) ls (v.toList ++ rest))) : W p l e R s m args below meth c H locs cells slots Q (F0 m pc ls st0) := by
  intro T hT X
  rcases hr T hT X with ⟨v, st₀, t, T', L, h0, X', hL, e1, e2, ⟨⟨v', G', hv, hp, hG⟩, hF⟩, st⟩ | ⟨q, st₀, t, T', L, E, ce, h0, X', hL, e1, e2, ⟨⟨G', hp, hG⟩, hF⟩, hce, hcv, hcl, st⟩
  · cases hv
    obtain ⟨k1, k2, k3⟩ := vx_keep h0 e1 hS (fun _ _ h => h) (fun _ h => h) hL hF
    have hal : t.vm.Alike s.vm := by
      rw [← e2]
      exact X'.warmed.alike.symm
    obtain ⟨t2, a1, b1⟩ := kk v G' T'.heap (locs ++ L) hp (by rw [e1]; exact hG.moved hal) k3 T' rfl X'
    exact ⟨t2, st t2 a1, b1⟩
  · obtain ⟨k1, k2, k3⟩ := vx_keep h0 e1 hS (fun _ _ h => h) (fun _ h => h) hL hF
    have hal : t.vm.Alike s.vm := by
      rw [← e2]
      exact X'.warmed.alike.symm
    obtain ⟨t2, a1, b1⟩ := kx E ce q G' T'.heap (locs ++ L) hp (by rw [e1]; exact hG.moved hal) k3 (by rw [e1]; exact hce) hcv hcl T' rfl X'
    exact ⟨t2, st.trans a1, b1⟩
theorem tr_backI {a : Array Value} {post : Int32 → tG → Prop} (hr : va_Run p l e R s m args below meth c H locs cells slots mc ms (F0 m pc ls st0) rest (tc_Qc D A (retI post) a) A) (hS : va_S A s.heap H locs)
    (kk : ∀ (x : Int32) (G : tG) (H : Heap) (locs : List Loc), post x G → tg_W D A s H G → va_S A s.heap H locs → W p l e R s m args below meth c H locs (cells + mc) (slots + ms) Q (F0 m (pc + 3) ls (.int x :: rest))) : W p l e R s m args below meth c H locs cells slots Q (F0 m pc ls st0) :=
  tr_back hr hS (fun v G H1 locs1 hp => by obtain ⟨x, rfl, hp⟩ := hp; exact kk x G H1 locs1 hp)
theorem tr_backL {a : Array Value} {post : Int64 → tG → Prop} (hr : va_Run p l e R s m args below meth c H locs cells slots mc ms (F0 m pc ls st0) rest (tc_Qc D A (retL post) a) A) (hS : va_S A s.heap H locs)
    (kk : ∀ (x : Int64) (G : tG) (H : Heap) (locs : List Loc), post x G → tg_W D A s H G → va_S A s.heap H locs → W p l e R s m args below meth c H locs (cells + mc) (slots + ms) Q (F0 m (pc + 3) ls (.long x :: rest))) : W p l e R s m args below meth c H locs cells slots Q (F0 m pc ls st0) :=
  tr_back hr hS (fun v G H1 locs1 hp => by obtain ⟨x, rfl, hp⟩ := hp; exact kk x G H1 locs1 hp)
theorem tr_backR {a : Array Value} {post : Option Nat → tG → Prop} (hr : va_Run p l e R s m args below meth c H locs cells slots mc ms (F0 m pc ls st0) rest (tc_Qc D A (retR post) a) A) (hS : va_S A s.heap H locs)
    (kk : ∀ (x : Option Nat) (G : tG) (H : Heap) (locs : List Loc), post x G → tg_W D A s H G → va_S A s.heap H locs → W p l e R s m args below meth c H locs (cells + mc) (slots + ms) Q (F0 m (pc + 3) ls (va_rf x :: rest))) : W p l e R s m args below meth c H locs cells slots Q (F0 m pc ls st0) :=
  tr_back hr hS (fun v G H1 locs1 hp => by obtain ⟨x, rfl, hp⟩ := hp; exact kk x G H1 locs1 hp)
theorem tr_backV {a : Array Value} {post : tG → Prop} (hr : va_Run p l e R s m args below meth c H locs cells slots mc ms (F0 m pc ls st0) rest (tc_Qc D A (retV post) a) A) (hS : va_S A s.heap H locs)
    (kk : ∀ (G : tG) (H : Heap) (locs : List Loc), post G → tg_W D A s H G → va_S A s.heap H locs → W p l e R s m args below meth c H locs (cells + mc) (slots + ms) Q (F0 m (pc + 3) ls rest)) : W p l e R s m args below meth c H locs cells slots Q (F0 m pc ls st0) :=
  tr_back hr hS (fun v G H1 locs1 hp => by obtain ⟨rfl, hp⟩ := hp; exact kk G H1 locs1 hp)
section TXU
variable {Qc : Array Value → State → Outcome → State → Prop} {MC MS : Nat}
/-- what the callee throws goes on to the caller -/
theorem tx_pass (hlocks : meth.locks = false) (ht : ∀ x ∈ c.exceptionTable.toList, False) (hc : cells + mc ≤ MC) (hs : slots + ms ≤ MS) : ∀ (E : String) (ce : Cell) (q9 : Addr) (G : tG) (H1 : Heap) (locs1 : List Loc), px E G → tg_W D A s H1 G → va_S A s.heap H1 locs1 → H1[q9]? = some ce → ce.vm = .none → s.vm.findClass E = some ce.cls → vx_W p l e R s m args below meth c H1 locs1 (cells + mc) (slots + ms) (vx_MQ below Qc (tc_XC D A px) args s MC MS A) (F0 m pc ls rest) q9 := by
  intro E ce q9 G H1 locs1 hp hW hS hce hcv hcl
  exact vx_out (fun x hx => (ht x hx).elim) hlocks hce hcv hcl (fun t ht hal => ⟨⟨G, hp, by rw [ht]; exact hW.moved hal⟩, hS.F ht⟩) hS.2.2 hc hs
theorem tx_backI {a : Array Value} {post : Int32 → tG → Prop} (hr : vx_Run p l e R s m args below meth c H locs cells slots mc ms (F0 m pc ls st0) rest (tc_Qc D A (retI post) a) (tc_XC D A px) A) (hS : va_S A s.heap H locs) (hlocks : meth.locks = false) (ht : ∀ x ∈ c.exceptionTable.toList, False) (hc : cells + mc ≤ MC) (hs : slots + ms ≤ MS)
    (kk : ∀ (x : Int32) (G : tG) (H : Heap) (locs : List Loc), post x G → tg_W D A s H G → va_S A s.heap H locs → W p l e R s m args below meth c H locs (cells + mc) (slots + ms) (vx_MQ below Qc (tc_XC D A px) args s MC MS A) (F0 m (pc + 3) ls (.int x :: rest))) : W p l e R s m args below meth c H locs cells slots (vx_MQ below Qc (tc_XC D A px) args s MC MS A) (F0 m pc ls st0) :=
  tx_back hr hS (tx_pass hlocks ht hc hs) (fun v G H1 locs1 hp => by obtain ⟨x, rfl, hp⟩ := hp; exact kk x G H1 locs1 hp)
theorem tx_backL {a : Array Value} {post : Int64 → tG → Prop} (hr : vx_Run p l e R s m args below meth c H locs cells slots mc ms (F0 m pc ls st0) rest (tc_Qc D A (retL post) a) (tc_XC D A px) A) (hS : va_S A s.heap H locs) (hlocks : meth.locks = false) (ht : ∀ x ∈ c.exceptionTable.toList, False) (hc : cells + mc ≤ MC) (hs : slots + ms ≤ MS)
    (kk : ∀ (x : Int64) (G : tG) (H : Heap) (locs : List Loc), post x G → tg_W D A s H G → va_S A s.heap H locs → W p l e R s m args below meth c H locs (cells + mc) (slots + ms) (vx_MQ below Qc (tc_XC D A px) args s MC MS A) (F0 m (pc + 3) ls (.long x :: rest))) : W p l e R s m args below meth c H locs cells slots (vx_MQ below Qc (tc_XC D A px) args s MC MS A) (F0 m pc ls st0) :=
  tx_back hr hS (tx_pass hlocks ht hc hs) (fun v G H1 locs1 hp => by obtain ⟨x, rfl, hp⟩ := hp; exact kk x G H1 locs1 hp)
theorem tx_backR {a : Array Value} {post : Option Nat → tG → Prop} (hr : vx_Run p l e R s m args below meth c H locs cells slots mc ms (F0 m pc ls st0) rest (tc_Qc D A (retR post) a) (tc_XC D A px) A) (hS : va_S A s.heap H locs) (hlocks : meth.locks = false) (ht : ∀ x ∈ c.exceptionTable.toList, False) (hc : cells + mc ≤ MC) (hs : slots + ms ≤ MS)
    (kk : ∀ (x : Option Nat) (G : tG) (H : Heap) (locs : List Loc), post x G → tg_W D A s H G → va_S A s.heap H locs → W p l e R s m args below meth c H locs (cells + mc) (slots + ms) (vx_MQ below Qc (tc_XC D A px) args s MC MS A) (F0 m (pc + 3) ls (va_rf x :: rest))) : W p l e R s m args below meth c H locs cells slots (vx_MQ below Qc (tc_XC D A px) args s MC MS A) (F0 m pc ls st0) :=
  tx_back hr hS (tx_pass hlocks ht hc hs) (fun v G H1 locs1 hp => by obtain ⟨x, rfl, hp⟩ := hp; exact kk x G H1 locs1 hp)
theorem tx_backV {a : Array Value} {post : tG → Prop} (hr : vx_Run p l e R s m args below meth c H locs cells slots mc ms (F0 m pc ls st0) rest (tc_Qc D A (retV post) a) (tc_XC D A px) A) (hS : va_S A s.heap H locs) (hlocks : meth.locks = false) (ht : ∀ x ∈ c.exceptionTable.toList, False) (hc : cells + mc ≤ MC) (hs : slots + ms ≤ MS)
    (kk : ∀ (G : tG) (H : Heap) (locs : List Loc), post G → tg_W D A s H G → va_S A s.heap H locs → W p l e R s m args below meth c H locs (cells + mc) (slots + ms) (vx_MQ below Qc (tc_XC D A px) args s MC MS A) (F0 m (pc + 3) ls rest)) : W p l e R s m args below meth c H locs cells slots (vx_MQ below Qc (tc_XC D A px) args s MC MS A) (F0 m pc ls st0) :=
  tx_back hr hS (tx_pass hlocks ht hc hs) (fun v G H1 locs1 hp => by obtain ⟨rfl, hp⟩ := hp; exact kk G H1 locs1 hp)
/-- 'throw new E("..")' that leaves the method -/
theorem tx_throw (C : tc_B p l s m args meth c D K A Ts own cc nL) (hl : ls.size = nL) (ht : ∀ x ∈ c.exceptionTable.toList, False) {cls text : String} {names : List String} {ik is ic cn : Nat} (hcls : Bundle.fit cls = true) (hnames : ∀ n ∈ names, Bundle.fit n = true) (hk : Cond.classLink own ik cls ∈ Ts) (hini : Cond.initialized cls ∈ Ts) (hstr : (own, is, text, cn) ∈ tk_strs) (hat1 : ∀ w ∈ (vx_atS own ic cls names).filter goodWord, w ∈ Ts) (hat2 : ∀ w ∈ (vx_atS own ic cls names).filter (fun w => !goodWord w), w ∈ [Cond.castable cls cls, kx_d1, kx_d2, kx_d3]) (hcast : va_Nw (.castable cls cls) s) (hgood : ∀ w ∈ Cond.classLink own ik cls :: Cond.initialized cls :: vx_atS own ic cls names, vx_ot w = true)
    (d0 : decode cc pc = .ok (.new ik, 3)) (d3 : decode cc (pc + 3) = .ok (.dup, 1)) (d4 : decode cc (pc + 4) = .ok (.ldc is, 2)) (d6 : decode cc (pc + 6) = .ok (.invokespecial ic, 3)) (d9 : decode cc (pc + 9) = .ok (.athrow, 1)) (hRframes : names.length + 3 < R.frames) (hRlocals : 0 + (13 * (names.length + 1) + 43) ≤ R.locals) (hRcells : cells + 1 ≤ R.cells) (hRslots : slots + 6 ≤ R.slots) (hc : cells + 1 ≤ MC) (hs : slots + 6 ≤ MS)
    (hW : tg_W D A s H G) (hS : va_S A s.heap H locs) (hw : px cls G) : W p l e R s m args below meth c H locs cells slots (vx_MQ below Qc (tc_XC D A px) args s MC MS A) (F0 m pc ls []) := by
  refine vx_throwS (A := A) (text := text) (sa := K.2.2 cn) (names := names) C.1.1 C.1.2.1 C.2.2.2.2.2 C.1.2.2.2.1 hcls hnames (C.1.2.2.2.2 _ hk) (C.1.2.2.2.2 _ hini) (C.2.2.2.1.2.2.2.2.1 _ hstr)
    (vx_hat (B := [Cond.castable cls cls, kx_d1, kx_d2, kx_d3]) (fun w h => C.1.2.2.2.2 _ (hat1 w h)) hat2 (vx_c (va_Nw.use rfl hcast) (vx_c (va_Nw.use rfl (tc_kx C).2.2.2.2.2.1) (vx_c (va_Nw.use rfl (tc_kx C).2.2.2.2.2.2.1) (vx_c (va_Nw.use rfl (tc_kx C).2.2.2.2.2.2.2.1) vx_n))))) hgood C.2.2.2.1.1 C.2.2.2.1.2.1 hS (by rw [hl, C.1.2.2.1]) d0 d3 d4 d6 d9 (fun x hx => (ht x hx).elim) hRframes hRlocals hRcells hRslots C.2.1 (fun t hal h1 h2 => ⟨⟨G, hw, ?_⟩, ?_⟩) hS.2.2 hc hs
  · exact fun q e9 hq => ⟨(hW q e9 hq).1, ((hW q e9 hq).2.kept (h2 q (hW q e9 hq).2.lt)).moved hal⟩
  · exact ⟨Nat.le_trans hS.1 h1, fun q g1 g2 => by rw [h2 q (Nat.lt_of_lt_of_le g1 hS.1)]; exact hS.2.1 q g1 g2⟩
/-! ends -/
theorem tr_iret (C : tc_B p l s m args meth c D K A Ts own cc nL) (hr : meth.sig.returnType = some .int) (hdg : decode cc pc = .ok (.ireturn, 1)) (hc : cells ≤ MC) (hs : slots ≤ MS) (hW : tg_W D A s H G) (hS : va_S A s.heap H locs) {x : Int32} {post : Int32 → tG → Prop} (hw : post x G) : W p l e R s m args below meth c H locs cells slots (MQ below (tc_Qc D A (retI post)) args s MC MS A) (F0 m pc ls [.int x]) :=
  W.widen hc hs (W.iret C.1.1 C.1.2.1 hr (fun t ht hWm => ⟨⟨_, G, rfl, ⟨x, rfl, hw⟩, by rw [ht]; exact hW.moved hWm.alike⟩, hS.F ht⟩) hS.2.2 hdg C.2.1)
theorem tr_zret (C : tc_B p l s m args meth c D K A Ts own cc nL) {ty : FieldType} (hr : meth.sig.returnType = some ty) (hdg : decode cc pc = .ok (.ireturn, 1)) (hc : cells ≤ MC) (hs : slots ≤ MS) (hW : tg_W D A s H G) (hS : va_S A s.heap H locs) {x : Int32} {post : Int32 → tG → Prop} (hw : narrow ty (.int x) = .int x ∧ post x G) : W p l e R s m args below meth c H locs cells slots (MQ below (tc_Qc D A (retI post)) args s MC MS A) (F0 m pc ls [.int x]) :=
  W.widen hc hs (W.zret C.1.1 C.1.2.1 hr hw.1 (fun t ht hWm => ⟨⟨_, G, rfl, ⟨x, rfl, hw.2⟩, by rw [ht]; exact hW.moved hWm.alike⟩, hS.F ht⟩) hS.2.2 hdg C.2.1)
theorem tr_lret (C : tc_B p l s m args meth c D K A Ts own cc nL) (hr : meth.sig.returnType = some .long) (hdg : decode cc pc = .ok (.lreturn, 1)) (hc : cells ≤ MC) (hs : slots ≤ MS) (hW : tg_W D A s H G) (hS : va_S A s.heap H locs) {x : Int64} {post : Int64 → tG → Prop} (hw : post x G) : W p l e R s m args below meth c H locs cells slots (MQ below (tc_Qc D A (retL post)) args s MC MS A) (F0 m pc ls [.long x]) :=
  W.widen hc hs (W.lret C.1.1 C.1.2.1 hr (fun t ht hWm => ⟨⟨_, G, rfl, ⟨x, rfl, hw⟩, by rw [ht]; exact hW.moved hWm.alike⟩, hS.F ht⟩) hS.2.2 hdg C.2.1)
theorem tr_vret (C : tc_B p l s m args meth c D K A Ts own cc nL) (hr : meth.sig.returnType = none) (hdg : decode cc pc = .ok (.return_, 1)) (hc : cells ≤ MC) (hs : slots ≤ MS) (hW : tg_W D A s H G) (hS : va_S A s.heap H locs) {post : tG → Prop} (hw : post G) : W p l e R s m args below meth c H locs cells slots (MQ below (tc_Qc D A (retV post)) args s MC MS A) (F0 m pc ls []) :=
  W.widen hc hs (W.vret C.1.1 C.1.2.1 hr (fun t ht hWm => ⟨⟨_, G, rfl, ⟨rfl, hw⟩, by rw [ht]; exact hW.moved hWm.alike⟩, hS.F ht⟩) hS.2.2 hdg C.2.1)
theorem va_rf_is (r : Option Nat) : va_rf r = .null ∨ ∃ a, va_rf r = .ref a := by
  cases r with
  | none => exact Or.inl rfl
  | some a => exact Or.inr ⟨a, rfl⟩
theorem tr_aret (C : tc_B p l s m args meth c D K A Ts own cc nL) {rt : FieldType} (hr : meth.sig.returnType = some rt) (hrt : (∃ n, rt = .object n) ∨ ∃ t, rt = .array t) (hdg : decode cc pc = .ok (.areturn, 1)) (hc : cells ≤ MC) (hs : slots ≤ MS) (hW : tg_W D A s H G) (hS : va_S A s.heap H locs) {x : Option Nat} {post : Option Nat → tG → Prop} (hw : post x G) : W p l e R s m args below meth c H locs cells slots (MQ below (tc_Qc D A (retR post)) args s MC MS A) (F0 m pc ls [va_rf x]) :=
  W.widen hc hs (W.aret C.1.1 C.1.2.1 hr hrt (va_rf_is x) (fun t ht hWm => ⟨⟨_, G, rfl, ⟨x, rfl, hw⟩, by rw [ht]; exact hW.moved hWm.alike⟩, hS.F ht⟩) hS.2.2 hdg C.2.1)
end TXU
/-! String constants, statics, arraycopy, Math -/
theorem tr_ldcS (C : tc_B p l s m args meth c D K A Ts own cc nL) {index cn : Nat} {tx : String} (hstr : (own, index, tx, cn) ∈ tk_strs) (hdg : decode cc pc = .ok (.ldc index, 2)) (kk : W p l e R s m args below meth c H locs cells slots Q (F0 m (pc + 2) ls (va_rf (some (K.2.2 cn)) :: rest))) : W p l e R s m args below meth c H locs cells slots Q (F0 m pc ls rest) :=
  va_ldcS C.1.1 C.1.2.1 C.1.2.2.2.1 (C.2.2.2.1.2.2.2.2.1 _ hstr) hdg kk
theorem tr_getCS (C : tc_B p l s m args meth c D K A Ts own cc nL) {index : Nat} (hlink : Cond.fieldLink own index "java/lang/String" "COMPACT_STRINGS" "Z" ∈ Ts) (hdg : decode cc pc = .ok (.getstatic index, 3)) (hS : va_S A s.heap H locs) (kk : W p l e R s m args below meth c H locs cells slots Q (F0 m (pc + 3) ls (.int 1 :: rest))) : W p l e R s m args below meth c H locs cells slots Q (F0 m pc ls rest) :=
  va_gets C.1.1 C.1.2.1 C.2.2.2.1.2.2.2.2.2.2.2.1 hS C.1.2.2.2.1 (C.1.2.2.2.2 _ hlink) (fun _ h => h) hdg kk
theorem tr_getDT (C : tc_B p l s m args meth c D K A Ts own cc nL) {index : Nat} (hlink : Cond.fieldLink own index "java/lang/Integer" "DigitTens" "[B" ∈ Ts) (hdg : decode cc pc = .ok (.getstatic index, 3)) (hS : va_S A s.heap H locs) (kk : W p l e R s m args below meth c H locs cells slots Q (F0 m (pc + 3) ls (va_rf (some (K.2.2 20)) :: rest))) : W p l e R s m args below meth c H locs cells slots Q (F0 m pc ls rest) :=
  va_gets C.1.1 C.1.2.1 C.2.2.2.1.2.2.2.2.2.2.2.2.1 hS C.1.2.2.2.1 (C.1.2.2.2.2 _ hlink) (fun _ h => h) hdg kk
theorem tr_getDO (C : tc_B p l s m args meth c D K A Ts own cc nL) {index : Nat} (hlink : Cond.fieldLink own index "java/lang/Integer" "DigitOnes" "[B" ∈ Ts) (hdg : decode cc pc = .ok (.getstatic index, 3)) (hS : va_S A s.heap H locs) (kk : W p l e R s m args below meth c H locs cells slots Q (F0 m (pc + 3) ls (va_rf (some (K.2.2 21)) :: rest))) : W p l e R s m args below meth c H locs cells slots Q (F0 m pc ls rest) :=
  va_gets C.1.1 C.1.2.1 C.2.2.2.1.2.2.2.2.2.2.2.2.2.1 hS C.1.2.2.2.1 (C.1.2.2.2.2 _ hlink) (fun _ h => h) hdg kk
theorem tr_max (C : tc_B p l s m args meth c D K A Ts own cc nL) (hl : ls.size = nL) {index : Nat} (hlink : Cond.methodLink own index Lib.Math.max.name ∈ Ts) (hstat : Cond.static Lib.Math.max.name ∈ Ts) (hini : Cond.initialized "java/lang/Math" ∈ Ts) (hcode : Cond.code Lib.Math.max.name Lib.Math.max.code 2 (some .int) ∈ Ts) (vs : List tV) (hrest : rest = vs.map tv_v) (hframes : 1 ≤ R.frames) (hlocals : (vs.map fun v => if tv_2 v then 2 else 1).sum + 13 ≤ R.locals) (hc : cells ≤ R.cells) (hs : slots ≤ R.slots) {x y : Int32} (hdg : decode cc pc = .ok (.invokestatic index, 3))
    (kk : W p l e R s m args below meth c H locs cells slots Q (F0 m (pc + 3) ls (.int (if x < y then y else x) :: rest))) : W p l e R s m args below meth c H locs cells slots Q (F0 m pc ls (.int y :: .int x :: rest)) := by
  refine va_mmax C.1.1 C.1.2.1 (by rw [hl, C.1.2.2.1]) C.1.2.2.2.1 (C.1.2.2.2.2 _ hlink) (C.1.2.2.2.2 _ hstat) (C.1.2.2.2.2 _ hini) (C.1.2.2.2.2 _ hcode) hframes ?_ hc hs hdg kk
  have e1 : (rest.map fun v => v.category) = vs.map fun v => if tv_2 v then 2 else 1 := by
    rw [hrest, List.map_map]
    apply List.map_congr_left
    intro a _
    exact tv_cat a
  rw [e1]
  exact hlocals
theorem tr_min (C : tc_B p l s m args meth c D K A Ts own cc nL) (hl : ls.size = nL) {index : Nat} (hlink : Cond.methodLink own index Lib.Math.min.name ∈ Ts) (hstat : Cond.static Lib.Math.min.name ∈ Ts) (hini : Cond.initialized "java/lang/Math" ∈ Ts) (hcode : Cond.code Lib.Math.min.name Lib.Math.min.code 2 (some .int) ∈ Ts) (vs : List tV) (hrest : rest = vs.map tv_v) (hframes : 1 ≤ R.frames) (hlocals : (vs.map fun v => if tv_2 v then 2 else 1).sum + 13 ≤ R.locals) (hc : cells ≤ R.cells) (hs : slots ≤ R.slots) {x y : Int32} (hdg : decode cc pc = .ok (.invokestatic index, 3))
    (kk : W p l e R s m args below meth c H locs cells slots Q (F0 m (pc + 3) ls (.int (if y < x then y else x) :: rest))) : W p l e R s m args below meth c H locs cells slots Q (F0 m pc ls (.int y :: .int x :: rest)) := by
  refine va_mmin C.1.1 C.1.2.1 (by rw [hl, C.1.2.2.1]) C.1.2.2.2.1 (C.1.2.2.2.2 _ hlink) (C.1.2.2.2.2 _ hstat) (C.1.2.2.2.2 _ hini) (C.1.2.2.2.2 _ hcode) hframes ?_ hc hs hdg kk
  have e1 : (rest.map fun v => v.category) = vs.map fun v => if tv_2 v then 2 else 1 := by
    rw [hrest, List.map_map]
    apply List.map_congr_left
    intro a _
    exact tv_cat a
  rw [e1]
  exact hlocals
theorem tc_nn {z : Int32} {n : Nat} (h : z.toInt = (n : Int)) : ¬ z < 0 ∧ z.toNatClampNeg = n := by
  refine ⟨fun h1 => ?_, by show z.toInt.toNat = n; rw [h]; rfl⟩
  have h2 := Int32.lt_iff_toInt_lt.mp h1
  rw [h] at h2
  have h0 : (0 : Int32).toInt = 0 := by decide
  rw [h0] at h2
  omega
theorem tr_copy (C : tc_B p l s m args meth c D K A Ts own cc nL) (hl : ls.size = nL) {index : Nat} (hlink : Cond.methodLink own index arraycopyName ∈ Ts) (hnat : Cond.native arraycopyName ∈ Ts) (hstat : Cond.static arraycopyName ∈ Ts) (hini : Cond.initialized "java/lang/System" ∈ Ts) (hframes : 1 ≤ R.frames) (hlocals : 0 + (nativeFrameWords "java/lang/System" "arraycopy" 5 + 11) ≤ R.locals) (hdg : decode cc pc = .ok (.invokestatic index, 3)) (hW : tg_W D A s H G) (hS : va_S A s.heap H locs) {r r2 : Option Nat} {sp dp n : Int32} {P : tG → Prop} (hw : cpB K G r sp r2 dp n P)
    (kk : ∀ (G : tG) (H : Heap) (locs : List Loc), P G → tg_W D A s H G → va_S A s.heap H locs → W p l e R s m args below meth c H locs cells slots Q (F0 m (pc + 3) ls [])) : W p l e R s m args below meth c H locs cells slots Q (F0 m pc ls [.int n, .int dp, va_rf r2, .int sp, va_rf r]) := by
  obtain ⟨a, n0, f, b, n1, g, sp', dp', n', rfl, hsrc, rfl, hdst, h1, h2, h3, h4, h5, hfit, hP⟩ := hw
  obtain ⟨hA, c1, ht1, hc1⟩ := hW b _ hdst
  obtain ⟨a1, e1⟩ := tc_nn h1
  obtain ⟨a2, e2⟩ := tc_nn h2
  obtain ⟨a3, e3⟩ := tc_nn h3
  have hx := C.1.1
  have hb := C.1.2.1
  have hlm : c.maxLocals = ls.size := by rw [hl, C.1.2.2.1]
  have hown := C.1.2.2.2.1
  obtain ⟨scr, hc0, hs2, hs3, hs4, hs5⟩ : ∃ scr : Cell, H[a]? = some scr ∧ s.isArrayOf scr .byte ∧ scr.vm ≠ .unknown ∧ n0 ≤ scr.slots.size ∧ ∀ j, j < n0 → scr.slots[j]? = some (.int (f j)) := by
    rcases hsrc with hG | hK
    · obtain ⟨-, c0, ht0, hc0⟩ := hW a _ hG
      refine ⟨_, hc0, ht0.1 n0 (fun j => .int (f j)), (fun h => by cases h), ?_, fun j hj => ?_⟩
      · show n0 ≤ (arrV c0 n0 (fun j => .int (f j))).slots.size
        rw [arrV_size]
        exact Nat.le_refl _
      · show (arrV c0 n0 (fun j => .int (f j))).slots[j]? = _
        rw [arrV_read _ _ hj]
    · obtain ⟨cell, g1, g2, g3, g4, -, g6, g7⟩ := (C.2.2.2.1.2.2.2.2.2.2.1 a n0 f hK).1
      exact ⟨cell, by rw [hS.2.1 a (Array.getElem?_eq_some_iff.mp g1).1 g7]; exact g1, g2, g3, g4, g6⟩
  obtain ⟨hs6, k0, hk0, cm0, hkk0⟩ := hs2
  obtain ⟨-, k1, hk1, cm1, hkk1⟩ := ht1.1 n1 (fun j => .int (g j))
  intro T hT X
  obtain ⟨vm', X', step⟩ := X.arraycopy hx hown (C.1.2.2.2.2 _ hlink) (C.1.2.2.2.2 _ hnat) (C.1.2.2.2.2 _ hstat) (C.1.2.2.2.2 _ hini) (src := a) (dst := b) (cs := scr) (cd := vp_cell c1 (n1, .inl g)) (srcPos := sp) (destPos := dp) (n := n) (by rw [hT]; exact hc0) (by rw [hT]; exact hc1)
    hs6 (fun _ h => by cases h) hs3 (fun h => by cases h) hk0 hk1 hkk0 hkk1 (by simp [refKind]) a1 a2 a3
    (by rw [h1, h3]; omega)
    (by rw [h2, h3]; show ¬ _ > ((arrV c1 n1 (fun j => .int (g j))).slots.size : Int); rw [arrV_size]; omega)
    (fun vm₁ _ i hi => by
      have e : scr.slots.getD (sp.toNatClampNeg + i) .null = .int (f (sp' + i)) := by
        rw [e1, Array.getD_eq_getD_getElem?, hs5 _ (by omega)]
        rfl
      refine ⟨?_, ?_⟩
      · rw [e]
        exact hfit i (by omega)
      · rw [e]
        exact trivial)
    (g := F0 m pc ls [.int n, .int dp, .ref b, .int sp, .ref a]) rfl (by rw [hlm]) (rest := []) rfl (by rw [hb]; exact hdg) hframes (by show 2 * 0 + 0 + _ ≤ _; omega)
  have e4 : copied scr (vp_cell c1 (n1, .inl g)) sp dp n = vp_cell c1 (n1, .inl (va_cpy f g sp' dp' n')) := by
    rw [← e1, ← e2, ← e3]
    exact va_copiedX (fun z => .int z) scr c1 f g hs5 (by omega)
  rw [e4] at X' step
  have hlb : b < H.size := (Array.getElem?_eq_some_iff.mp hc1).1
  have hheap : ((T.setVm vm').setCell b (vp_cell c1 (n1, .inl (va_cpy f g sp' dp' n')))).heap = H.setIfInBounds b (vp_cell c1 (n1, .inl (va_cpy f g sp' dp' n'))) := by rw [← hT]; rfl
  have oq : ∀ q : Nat, q ≠ b → (H.setIfInBounds b (vp_cell c1 (n1, .inl (va_cpy f g sp' dp' n'))))[q]? = H[q]? := fun q hq => by simp [Array.getElem?_setIfInBounds, Ne.symm hq]
  obtain ⟨t, b1, b2⟩ := kk _ (H.setIfInBounds b (vp_cell c1 (n1, .inl (va_cpy f g sp' dp' n')))) _ hP (hW.put hA ⟨c1, ht1, by simp [Array.getElem?_setIfInBounds, hlb]⟩ oq) ⟨by simp; exact hS.1, fun q g1 g2 => by
      rw [oq q (fun e => g2 (by rw [e]; exact hA))]
      exact hS.2.1 q g1 g2, fun q hq => by
      rcases List.mem_append.mp hq with h | h
      · exact hS.2.2 q h
      · obtain ⟨z, -, hz⟩ := List.mem_map.mp h
        rw [← hz]
        exact hA⟩ _ hheap X'
  exact ⟨t, step t b1, b2⟩
theorem tr_objInit (C : tc_B p l s m args meth c D K A Ts own cc nL) (hl : ls.size = nL) {idx : Nat} (hlink : Cond.methodLink own idx objectInit ∈ Ts) (hinst : Cond.instanceMethod objectInit ∈ Ts) (hcode : Cond.code objectInit ⟨#[0xb1]⟩ 1 none ∈ Ts) {r : Option Nat} (hr : ∃ a : Nat, r = some a) (hdg : decode cc pc = .ok (.invokespecial idx, 3)) (hframes : 1 ≤ R.frames) (hlocals : 12 ≤ R.locals)
    (kk : W p l e R s m args below meth c H locs cells slots Q (F0 m (pc + 3) ls [])) : W p l e R s m args below meth c H locs cells slots Q (F0 m pc ls [va_rf r]) := by
  obtain ⟨a, rfl⟩ := hr
  exact W.objInit C.1.1 C.1.2.1 C.1.2.2.2.1 (C.1.2.2.2.2 _ hlink) (C.1.2.2.2.2 _ hinst) (C.1.2.2.2.2 _ hcode) rfl (by rw [C.1.2.2.1]; exact hl) rfl hdg hframes hlocals (W.eq (g2 := F0 m (pc + 3) ls []) rfl kk)
/-! the law's own calls, and its wrappers' -/
theorem tx_runSX {hh : List (Nat × Nat × Nat × Nat)} (C : tc_B p l s m args meth c D K A Ts own cc nL) (hl : ls.size = nL) (hct : Cx l y ws rm mc ms As K pr px wp) (cw : vx_CSW R s args own index y bytes maxL ret hh ws rm mc ms n) (hn : As.length = n) (hdg : decode cc pc = .ok (.invokestatic index, 3)) (hf : cells + mc ≤ R.cells ∧ slots + ms ≤ R.slots) (vs : List tV) (hrest : rest = vs.map tv_v) (h8 : (vs.map fun v => if tv_2 v then 2 else 1).sum ≤ 8) (hst : st0 = As.reverse ++ rest) (hW : tg_W D A s H G) (hS : va_S A s.heap H locs) (hw : wp G) :
    vx_Run p l e R s m args below meth c H locs cells slots mc ms (F0 m pc ls st0) rest (tc_Qc D A pr As.toArray) (tc_XC D A px) A := by
  subst hst
  exact vx_runSX (As := As) (rest := rest) C.1 (hct D A H.size G hw) cw ⟨tc_blind _ _ _ _ _ _, tc_pre C hW hS _⟩ rfl hn hl rfl (tc_room (pc := pc) (m := m) (ls := ls) hrest h8) hdg hf
theorem tr_runIN {host : String} {r : Option Nat} (C : tc_B p l s m args meth c D K A Ts own cc nL) (hl : ls.size = nL) (hct : Ct l y ws rm mc ms (va_rf r :: As) K pr wp) (cw : va_CN R s args own index y host bytes maxL none ws rm mc ms n ∧ y.name = "<init>" ∧ (Cond.instanceMethod y).before args s = true) (hn : As.length = n) (hdg : decode cc pc = .ok (.invokespecial index, 3)) (hf : cells + mc ≤ R.cells ∧ slots + ms ≤ R.slots) (vs : List tV) (hrest : rest = vs.map tv_v) (h8 : (vs.map fun v => if tv_2 v then 2 else 1).sum ≤ 8) (hst : st0 = As.reverse ++ va_rf r :: rest) (hW : tg_W D A s H G) (hS : va_S A s.heap H locs) (hw : (∃ a : Nat, r = some a) ∧ wp G) :
    va_Run p l e R s m args below meth c H locs cells slots mc ms (F0 m pc ls st0) rest (tc_Qc D A pr (va_rf r :: As).toArray) A := by
  obtain ⟨⟨a, rfl⟩, hw⟩ := hw
  subst hst
  exact va_runIN (As := As) (b := a) (rest := rest) C.1 (hct D A H.size G hw) cw ⟨tc_blind _ _ _ _ _ _, tc_pre C hW hS _⟩ rfl hn hl rfl (tc_room (pc := pc) (m := m) (ls := ls) hrest h8) hdg hf
theorem tx_backCI {a : Array Value} {post : Int32 → tG → Prop} (hr : vx_Run p l e R s m args below meth c H locs cells slots mc ms (F0 m pc ls st0) rest (tc_Qc D A (retI post) a) (tc_XC D A px) A) (hS : va_S A s.heap H locs)
    (kx : ∀ (E : String) (ce : Cell) (q9 : Addr) (G : tG) (H : Heap) (locs : List Loc), px E G → tg_W D A s H G → va_S A s.heap H locs → H[q9]? = some ce → ce.vm = .none → s.vm.findClass E = some ce.cls → vx_W p l e R s m args below meth c H locs (cells + mc) (slots + ms) Q (F0 m pc ls rest) q9)
    (kk : ∀ (x : Int32) (G : tG) (H : Heap) (locs : List Loc), post x G → tg_W D A s H G → va_S A s.heap H locs → W p l e R s m args below meth c H locs (cells + mc) (slots + ms) Q (F0 m (pc + 3) ls (.int x :: rest))) : W p l e R s m args below meth c H locs cells slots Q (F0 m pc ls st0) :=
  tx_back hr hS kx (fun v G H1 locs1 hp => by obtain ⟨x, rfl, hp⟩ := hp; exact kk x G H1 locs1 hp)
theorem tx_backCR {a : Array Value} {post : Option Nat → tG → Prop} (hr : vx_Run p l e R s m args below meth c H locs cells slots mc ms (F0 m pc ls st0) rest (tc_Qc D A (retR post) a) (tc_XC D A px) A) (hS : va_S A s.heap H locs)
    (kx : ∀ (E : String) (ce : Cell) (q9 : Addr) (G : tG) (H : Heap) (locs : List Loc), px E G → tg_W D A s H G → va_S A s.heap H locs → H[q9]? = some ce → ce.vm = .none → s.vm.findClass E = some ce.cls → vx_W p l e R s m args below meth c H locs (cells + mc) (slots + ms) Q (F0 m pc ls rest) q9)
    (kk : ∀ (x : Option Nat) (G : tG) (H : Heap) (locs : List Loc), post x G → tg_W D A s H G → va_S A s.heap H locs → W p l e R s m args below meth c H locs (cells + mc) (slots + ms) Q (F0 m (pc + 3) ls (va_rf x :: rest))) : W p l e R s m args below meth c H locs cells slots Q (F0 m pc ls st0) :=
  tx_back hr hS kx (fun v G H1 locs1 hp => by obtain ⟨x, rfl, hp⟩ := hp; exact kk x G H1 locs1 hp)
/-- a call of what may throw by its kind, but throws nothing here -/
theorem tx_backNI {a : Array Value} {post : Int32 → tG → Prop} (hr : vx_Run p l e R s m args below meth c H locs cells slots mc ms (F0 m pc ls st0) rest (tc_Qc D A (retI post) a) (tc_XC D A (fun _ _ => False)) A) (hS : va_S A s.heap H locs)
    (kk : ∀ (x : Int32) (G : tG) (H : Heap) (locs : List Loc), post x G → tg_W D A s H G → va_S A s.heap H locs → W p l e R s m args below meth c H locs (cells + mc) (slots + ms) Q (F0 m (pc + 3) ls (.int x :: rest))) : W p l e R s m args below meth c H locs cells slots Q (F0 m pc ls st0) :=
  tx_backCI hr hS (fun _ _ _ _ _ _ h => h.elim) kk
theorem tx_backNL {a : Array Value} {post : Int64 → tG → Prop} (hr : vx_Run p l e R s m args below meth c H locs cells slots mc ms (F0 m pc ls st0) rest (tc_Qc D A (retL post) a) (tc_XC D A (fun _ _ => False)) A) (hS : va_S A s.heap H locs)
    (kk : ∀ (x : Int64) (G : tG) (H : Heap) (locs : List Loc), post x G → tg_W D A s H G → va_S A s.heap H locs → W p l e R s m args below meth c H locs (cells + mc) (slots + ms) Q (F0 m (pc + 3) ls (.long x :: rest))) : W p l e R s m args below meth c H locs cells slots Q (F0 m pc ls st0) :=
  tx_back hr hS (fun _ _ _ _ _ _ h => h.elim) (fun v G H1 locs1 hp => by obtain ⟨x, rfl, hp⟩ := hp; exact kk x G H1 locs1 hp)
theorem tr_pfN (C : tc_B p l s m args meth c D K A Ts own cc nL) {ref C0 host : String} {T : u_T} {N ci index : Nat} (hin : ∀ w ∈ u_ws C0 T N, w ∈ Ts) (ty0 : Nat → FieldType) (hty : ∀ k, k < N → parseFieldDescriptor (T k).2.2.1 = some (ty0 k)) (hnm : ∀ a, a < N → ∀ b, b < N → a ≠ b → (T a).2.1 ≠ (T b).2.1) (hc : vwCl[ci]? = some (C0, T, N)) {k : Nat} (hk : k < N) (hlink : va_Nw (.fieldLinkNest own index ref (T k).2.1 (T k).2.2.1 host) s) (href : (T k).1 = ref) (hfin : (T k).2.2.2 = false) {ty : FieldType} {v : Value} (hd : parseFieldDescriptor (T k).2.2.1 = some ty) (hn : narrow ty v = v) (hfit : fits ty v = true) (hdg : decode cc pc = .ok (.putfield index, 3)) (hW : tg_W D A s H G) (hS : va_S A s.heap H locs)
    {r : Option Nat} {P : tG → Prop} (hw : pfV G r ci k v P) (kk : ∀ (G : tG) (H : Heap) (locs : List Loc), P G → tg_W D A s H G → va_S A s.heap H locs → W p l e R s m args below meth c H locs cells slots Q (F0 m (pc + 3) ls rest)) : W p l e R s m args below meth c H locs cells slots Q (F0 m pc ls (v :: va_rf r :: rest)) := by
  obtain ⟨a, fs, rfl, hG, hl, hP⟩ := hw
  obtain ⟨hA, ha⟩ := hW a _ hG
  have hap := va_apart (own := own) C.1.2.2.2.2 hin ty0 hty hnm C.2.2.1 hc
  obtain ⟨r, h1, cell, q1, q2, q3, q4⟩ := ha
  have hr : r = (C0, T, N) := Option.some.inj (h1.symm.trans hc)
  subst hr
  obtain ⟨hS2, hfc, kC, hkC, hkind⟩ := C.2.2.1.1 ci _ hc
  obtain ⟨cf, kf, fi, f, hi, hsl⟩ := hS2 k hk
  have hlay := C.1.2.2.2.2 _ (hin _ (u_in_lay hk))
  unfold u_lay at hlay
  rw [if_neg (by rw [hfin]; decide)] at hlay
  have hst := (u_facts hfc hkC (u_lays C.1.2.2.2.2 hin hk) hi).1
  have h6 := u_store hfc hkC hkind hlay hi hd hn hfit
  have hi2 : s.fieldFound? ref (T k).2.1 (T k).2.2.1 = some (cf, kf, fi, f) := by rw [← href]; exact hi
  refine va_WputK C.1.1 C.1.2.1 (f := f) C.1.2.2.2.1 (va_Nw.use rfl hlink) hi2 hst (by rw [q2]; exact h6) q1 q3 (by rw [hsl]; exact k2_hasslot (q4 k hk)) rfl rfl hdg fun H' e1 e2 e3 => ?_
  rw [hsl] at e1 ⊢
  exact kk _ H' _ hP (hW.put hA ⟨_, hc, t_OB.to (V := updV (vp_V fs) k v) ⟨_, e1, q2, q3, t_set q4 hap hk v⟩ (fun j _ => vp_updV_set hl v j)⟩ e3) (hS.put e2 e3 hA)
theorem tr_sld {b xL : Nat} {xs : Nat → Int32} (C : tc_B p l s m args meth c D K A Ts own cc nL) (hX : va_X b xL xs s s.heap) (hbl : b < s.heap.size) (hbA : ¬ A b) (hS : va_S A s.heap H locs) (hdg : decode cc pc = .ok (.iaload, 1)) {i : Int32} {P : Int32 → Prop} (hw : sld xL xs i P) (kk : ∀ x : Int32, P x → W p l e R s m args below meth c H locs cells slots Q (F0 m (pc + 1) ls (.int x :: rest))) : W p l e R s m args below meth c H locs cells slots Q (F0 m pc ls (.int i :: va_rf (some b) :: rest)) := by
  obtain ⟨j, hi, hj, hP⟩ := hw
  obtain ⟨hin, he⟩ := ti_in hi hj
  exact va_sld C.1.1 C.1.2.1 hX hbl hbA hS hin hdg (kk _ (by rw [he]; exact hP))
theorem tr_slen {b xL : Nat} {xs : Nat → Int32} (C : tc_B p l s m args meth c D K A Ts own cc nL) (hX : va_X b xL xs s s.heap) (hbl : b < s.heap.size) (hbA : ¬ A b) (hS : va_S A s.heap H locs) (hdg : decode cc pc = .ok (.arraylength, 1)) (kk : W p l e R s m args below meth c H locs cells slots Q (F0 m (pc + 1) ls (.int (Int32.ofNat xL) :: rest))) : W p l e R s m args below meth c H locs cells slots Q (F0 m pc ls (va_rf (some b) :: rest)) :=
  va_slen C.1.1 C.1.2.1 hX hbl hbA hS hdg kk
theorem kx_pass1 (C : tc_B p l s m args meth c D K A Ts own cc nL) (hcC : kx_C s) {x : ExceptionTableEntry} {i : Nat} (hx : x.catchType = i) (h0 : i ≠ 0) (hm : Cond.classLink own i "java/lang/IndexOutOfBoundsException" ∈ Ts) : ∀ z ∈ [x], covers z pc = false ∨ (z.catchType ≠ 0 ∧ ∃ nm : String, (Cond.classLink own z.catchType nm).before args s = true ∧ va_Nc "java/lang/IllegalArgumentException" nm s) := by
  intro z hz
  rw [List.mem_singleton.mp hz, hx]
  exact Or.inr ⟨h0, _, C.1.2.2.2.2 _ hm, hcC.2.2.2.2.1⟩
/-! a method's body gives its contract -/
end TCA
theorem tv_nrO (n : String) (r : Option Nat) : narrow (.object n) (va_rf r) = va_rf r := by cases r <;> rfl
theorem tv_frO (n : String) (r : Option Nat) : fits (.object n) (va_rf r) = true := by cases r <;> rfl
theorem tv_nrA (t : FieldType) (r : Option Nat) : narrow (.array t) (va_rf r) = va_rf r := by cases r <;> rfl
theorem tv_frA (t : FieldType) (r : Option Nat) : fits (.array t) (va_rf r) = true := by cases r <;> rfl
theorem df_J0 : ∀ j, j < 4 → defaultValue (tyJ0 j) = vp_V [.null, .int 0, .int 0, .int 0] j := fun j hj => by rcases (show j = 0 ∨ j = 1 ∨ j = 2 ∨ j = 3 by omega) with rfl | rfl | rfl | rfl <;> rfl
theorem df_J4 : ∀ j, j < 4 → defaultValue (tyJ4 j) = vp_V [.null, .int 0, .int 0, .int 0] j := fun j hj => by rcases (show j = 0 ∨ j = 1 ∨ j = 2 ∨ j = 3 by omega) with rfl | rfl | rfl | rfl <;> rfl
theorem df_X0 : ∀ j, j < 4 → defaultValue (tyX0 j) = vp_V [.int 0, .null, .int 0, .int 0] j := fun j hj => by rcases (show j = 0 ∨ j = 1 ∨ j = 2 ∨ j = 3 by omega) with rfl | rfl | rfl | rfl <;> rfl
theorem df_X1 : ∀ j, j < 4 → defaultValue (tyX1 j) = vp_V [.null, .null, .int 0, .int 0] j := fun j hj => by rcases (show j = 0 ∨ j = 1 ∨ j = 2 ∨ j = 3 by omega) with rfl | rfl | rfl | rfl <;> rfl
theorem df_X2 : ∀ j, j < 2 → defaultValue (tyX2 j) = vp_V [.long 0, .null] j := fun j hj => by rcases (show j = 0 ∨ j = 1 by omega) with rfl | rfl <;> rfl
theorem df_X3 : ∀ j, j < 8 → defaultValue (tyX3 j) = vp_V [.null, .null, .null, .null, .int 0, .int 0, .int 0, .long 0] j := fun j hj => by rcases (show j = 0 ∨ j = 1 ∨ j = 2 ∨ j = 3 ∨ j = 4 ∨ j = 5 ∨ j = 6 ∨ j = 7 by omega) with rfl | rfl | rfl | rfl | rfl | rfl | rfl | rfl <;> rfl
/-- a wrapper's body: it has handlers, and throws nothing -/
theorem tx_ofH {l : Launch} {K : tK} {y : MethodName} {ws ws' : List Cond} {rm : Room} {mc ms : Nat} {av : List Value} {pr : Option Value → tG → Prop} {px : String → tG → Prop} {wp : tG → Prop} {cc : ByteArray} {maxL : Nat} {ret : Option FieldType} {own : String} {hh : List (Nat × Nat × Nat × Nat)} (hy : plainName y.cls = true) (hw : ws = Cond.codeWith y cc maxL ret hh :: ws') (hown : y.cls = own) (hll : l.stackTraces = false) (avs : List tV) (hvs : av = avs.map tv_v) (hav : (avs.map fun v => if tv_2 v then 2 else 1).sum ≤ maxL)
    (body : ∀ (p : Program) (e : Env) (s : State) (m : MethodId) (args : Array Value) (below : List Frame) (meth : Method) (c : Code) (D : va_G) (A : Nat → Prop) (G : tG) (ls : Array Slot), tc_B p l s m args meth c D K A ws own cc maxL → meth.sig.returnType = ret → c.exceptionTable.toList = tableOf hh → kx_C s → tl ls maxL (tl_args 0 avs) → tg_W D A s s.heap G → va_S A s.heap s.heap [] → wp G → W p l e rm s m args below meth c s.heap [] 0 0 (vx_MQ below (tc_Qc D A pr) (tc_XC D A px) args s mc ms A) (F0 m 0 ls [])) : Cx l y ws rm mc ms av K pr px wp := by
  intro D A sz G hwp
  refine vx_ofWH (cc := cc) (maxL := maxL) (ret := ret) hy hw ?_
  intro p e s m args below meth c s₁ B hml hv
  obtain ⟨rfl, hsz, hW, hK, hC, hA⟩ := hv
  subst hsz
  have hts := atoms_spec (ws := ws) B.pre
  have htab := vx_table (x := y) B (hts _ (by rw [hw]; exact List.mem_cons_self))
  have hl := lv_entry av (n := maxL) (by rw [hvs, tl_len]; exact hav)
  rw [lg_entry_eq]
  have hl2 : tl ((lg_sl av ++ List.replicate (maxL - (lg_sl av).length) Slot.unset).toArray) maxL (tl_args 0 avs) := by
    have h9 := hl
    rw [hvs, tl_args_eq] at h9
    rw [hvs]
    exact h9
  exact body p e s m _ below meth c D A G _ ⟨⟨B.exec, B.bytes, hml, by rw [← hown]; exact findClass_of_methodNamed B.named, hts⟩, B.notSynchronized, hK, hC, hA, hll⟩ B.returns htab hC.2.2.2.2.2.2.2.2.2.2 hl2 hW va_S.rf hwp
theorem tw_ofW {l : Launch} {y : MethodName} {ws ws' : List Cond} {rm : Room} {Pc : Array Value → State → Prop} {Qc : Array Value → State → Outcome → State → Prop} {mc ms : Nat} {free : Addr → Prop} {cc : ByteArray} {maxL : Nat} {ret : Option FieldType}
    (hy : plainFor y = true) (hw : ws = Cond.code y cc maxL ret :: ws')
    (body : ∀ p e s m args below meth c s₁, BodyLoose p l y (headSpec ws rm) cc maxL ret e s m args below meth c s₁ → c.maxLocals = maxL → Pc args s →
      W p l e (headSpec ws rm).room s m args below meth c s.heap [] 0 0 (MQ below Qc args s mc ms free) (entryFrame m args maxL)) : Met l y ws rm Pc Qc mc ms free := by
  refine MetFree.of_bodySF (code := cc) (maxLocals := maxL) (ret := ret) hy ?_ ?_
  · intro args s m h hn
    obtain ⟨meth, c, h1, h2, h3, h4, h5, h6, -, -⟩ := Cond.code_spec hn (atoms_spec (ws := ws) h _ (by rw [hw]; exact List.mem_cons_self))
    exact ⟨meth, c, h1, h2, h3, h4, h5, h6⟩
  · intro p e s m args below meth c s₁ B hml hP _
    have hh0 : s₁.heap = s.heap := by rw [B.state]; rfl
    obtain ⟨t, a1, o, b1, b2, b3⟩ := body p e s m args below meth c s₁ B hml hP s₁ hh0 (Stand.of_body B)
    exact ⟨t, o, a1, b1, b2, ⟨b3.1, b3.2⟩⟩
theorem tc_of {l : Launch} {K : tK} {y : MethodName} {ws ws' : List Cond} {rm : Room} {mc ms : Nat} {av : List Value} {pr : Option Value → tG → Prop} {wp : tG → Prop} {cc : ByteArray} {maxL : Nat} {ret : Option FieldType} {own : String} (hy : plainFor y = true) (hw : ws = Cond.code y cc maxL ret :: ws') (hown : y.cls = own) (hll : l.stackTraces = false) (avs : List tV) (hvs : av = avs.map tv_v) (hav : (avs.map fun v => if tv_2 v then 2 else 1).sum ≤ maxL)
    (body : ∀ (p : Program) (e : Env) (s : State) (m : MethodId) (args : Array Value) (below : List Frame) (meth : Method) (c : Code) (D : va_G) (A : Nat → Prop) (G : tG) (ls : Array Slot), tc_B p l s m args meth c D K A ws own cc maxL → meth.sig.returnType = ret → meth.name = y.name → (∀ x ∈ c.exceptionTable.toList, False) → tl ls maxL (tl_args 0 avs) → tg_W D A s s.heap G → va_S A s.heap s.heap [] → wp G → W p l e rm s m args below meth c s.heap [] 0 0 (MQ below (tc_Qc D A pr) args s mc ms A) (F0 m 0 ls [])) : Ct l y ws rm mc ms av K pr wp := by
  intro D A sz G hwp
  refine tw_ofW (cc := cc) (maxL := maxL) (ret := ret) hy hw ?_
  intro p e s m args below meth c s₁ B hml hv
  obtain ⟨rfl, hsz, hW, hK, hC, hA⟩ := hv
  subst hsz
  have hts := atoms_spec (ws := ws) B.pre
  have hname : meth.name = y.name := (name_of_methodNamed B.named B.method).1
  have ht : ∀ x ∈ c.exceptionTable.toList, False := by
    obtain ⟨meth9, c9, h1, h2, -, -, -, -, h7, -⟩ := Cond.code_spec B.named (hts _ (by rw [hw]; exact List.mem_cons_self))
    cases Option.some.inj (h1.symm.trans B.method)
    cases Option.some.inj (h2.symm.trans (Stand.of_body B).code)
    intro x hx
    rw [Array.isEmpty_iff.mp h7] at hx
    cases hx
  have hl := lv_entry av (n := maxL) (by rw [hvs, tl_len]; exact hav)
  rw [lg_entry_eq]
  have hl2 : tl ((lg_sl av ++ List.replicate (maxL - (lg_sl av).length) Slot.unset).toArray) maxL (tl_args 0 avs) := by
    have h9 := hl
    rw [hvs, tl_args_eq] at h9
    rw [hvs]
    exact h9
  exact body p e s m _ below meth c D A G _ ⟨⟨B.exec, B.bytes, hml, by rw [← hown]; exact findClass_of_methodNamed B.named, hts⟩, B.notSynchronized, hK, hC, hA, hll⟩ B.returns hname ht hl2 hW va_S.rf hwp
theorem tx_of {l : Launch} {K : tK} {y : MethodName} {ws ws' : List Cond} {rm : Room} {mc ms : Nat} {av : List Value} {pr : Option Value → tG → Prop} {px : String → tG → Prop} {wp : tG → Prop} {cc : ByteArray} {maxL : Nat} {ret : Option FieldType} {own : String} (hy : plainName y.cls = true) (hw : ws = Cond.code y cc maxL ret :: ws') (hown : y.cls = own) (hll : l.stackTraces = false) (avs : List tV) (hvs : av = avs.map tv_v) (hav : (avs.map fun v => if tv_2 v then 2 else 1).sum ≤ maxL)
    (body : ∀ (p : Program) (e : Env) (s : State) (m : MethodId) (args : Array Value) (below : List Frame) (meth : Method) (c : Code) (D : va_G) (A : Nat → Prop) (G : tG) (ls : Array Slot), tc_B p l s m args meth c D K A ws own cc maxL → meth.sig.returnType = ret → meth.name = y.name → (∀ x ∈ c.exceptionTable.toList, False) → tl ls maxL (tl_args 0 avs) → tg_W D A s s.heap G → va_S A s.heap s.heap [] → wp G → W p l e rm s m args below meth c s.heap [] 0 0 (vx_MQ below (tc_Qc D A pr) (tc_XC D A px) args s mc ms A) (F0 m 0 ls [])) : Cx l y ws rm mc ms av K pr px wp := by
  intro D A sz G hwp
  refine vx_ofW (cc := cc) (maxL := maxL) (ret := ret) hy hw ?_
  intro p e s m args below meth c s₁ B hml ht hv
  obtain ⟨rfl, hsz, hW, hK, hC, hA⟩ := hv
  subst hsz
  have hts := atoms_spec (ws := ws) B.pre
  have hname : meth.name = y.name := (name_of_methodNamed B.named B.method).1
  have hl := lv_entry av (n := maxL) (by rw [hvs, tl_len]; exact hav)
  rw [lg_entry_eq]
  have hl2 : tl ((lg_sl av ++ List.replicate (maxL - (lg_sl av).length) Slot.unset).toArray) maxL (tl_args 0 avs) := by
    have h9 := hl
    rw [hvs, tl_args_eq] at h9
    rw [hvs]
    exact h9
  exact body p e s m _ below meth c D A G _ ⟨⟨B.exec, B.bytes, hml, by rw [← hown]; exact findClass_of_methodNamed B.named, hts⟩, B.notSynchronized, hK, hC, hA, hll⟩ B.returns hname ht hl2 hW va_S.rf hwp
end
section
def w_X0_init (K : tK) (post : tG → Prop) (v0 : Option Nat) (v1 : Int32) (v2 : Option Nat) (v3 : Int32) (v4 : Int32) (G : tG) : Prop := ((∃ q : Nat, v0 = some q) ∧ pfV G v0 2 0 (.int v1) (fun G_6 => pfV G_6 v0 2 1 (va_rf v2) (fun G_11 => pfV G_11 v0 2 2 (.int v3) (fun G_16 => pfV G_16 v0 2 3 (.int v4) (fun G_22 => post G_22)))))
def w_X1_init_73 (K : tK) (post : tG → Prop) (nc ns : Nat) (G : tG) : Prop := post G
def w_X1_init_33_b (K : tK) (post : tG → Prop) (k33 : Nat → Nat → Option Nat → Int32 → tG → Prop) (nc ns : Nat) (v0 : Option Nat) (v1 : Int32) (G : tG) : Prop := (((3 : Int32) ≤ v1 → w_X1_init_73 K post nc ns G) ∧ (¬ (3 : Int32) ≤ v1 → gfR G v0 3 0 (fun x_40 => lenA G x_40 (fun x_43 => ((x_43 ≤ v1 → w_X1_init_73 K post nc ns G) ∧ (¬ x_43 ≤ v1 → gfR G v0 3 0 (fun x_48 => ((nc + 1 ≤ 8 ∧ ns + 4 ≤ 67) ∧ nwO G 2 [.int 0, .null, .int 0, .int 0] (fun r_52 G_52 => (((nc + 1) + 1 ≤ 8 ∧ (ns + 4) + 12 ≤ 67) ∧ nwA G_52 .int (12 : Int32) 12 (.inl (fun _ => 0)) (fun r_59 G_59 => ((∃ q : Nat, r_52 = some q) ∧ w_X0_init K (fun G_63 => asR G_63 x_48 v1 (.object "Twinrow$RowList") r_52 (okO 2) (fun G_66 => k33 (((nc + 1) + 1)) (((ns + 4) + 12)) v0 ((v1 + (1 : Int32))) G_66)) r_52 v1 r_59 ((0 : Int32)) ((4 : Int32)) G_59))))))))))))
def w_X1_init_33 (K : tK) (post : tG → Prop) : Nat → Nat → Nat → Option Nat → Int32 → tG → Prop
  | 0 => fun _ _ _ _ _ => False
  | n + 1 => w_X1_init_33_b K post (w_X1_init_33 K post n)
def w_X1_init (K : tK) (post : tG → Prop) (v0 : Option Nat) (G : tG) : Prop := ((∃ q : Nat, v0 = some q) ∧ ((0 + 1 ≤ 8 ∧ 0 + 7 ≤ 67) ∧ nwA G (.object "Twinrow$RowList") (7 : Int32) 7 (.inr (.inr (.inr (.inr (fun _ => none))))) (fun r_7 G_7 => pfV G_7 v0 3 0 (va_rf r_7) (fun G_10 => (((0 + 1) + 1 ≤ 8 ∧ (0 + 7) + 12 ≤ 67) ∧ nwA G_10 .int (12 : Int32) 12 (.inl (fun _ => 0)) (fun r_16 G_16 => pfV G_16 v0 3 1 (va_rf r_16) (fun G_18 => pfV G_18 v0 3 2 (.int ((0 : Int32))) (fun G_23 => pfV G_23 v0 3 3 (.int ((0 : Int32))) (fun G_28 => ∃ n : Nat, w_X1_init_33 K post n (((0 + 1) + 1)) (((0 + 7) + 12)) v0 ((0 : Int32)) G_28)))))))))
def w_X3_init (K : tK) (post : tG → Prop) (v0 : Option Nat) (G : tG) : Prop := ((∃ q : Nat, v0 = some q) ∧ nwA G (.array .int) (3 : Int32) 3 (.inr (.inr (.inr (.inr (fun _ => none))))) (fun r_6 G_6 => nwA G_6 .int (4 : Int32) 4 (.inl (fun _ => 0)) (fun r_12 G_12 => (r_12 ≠ none ∧ asR G_12 r_6 (0 : Int32) (.array .int) r_12 okI (fun G_14 => nwA G_14 .int (4 : Int32) 4 (.inl (fun _ => 0)) (fun r_18 G_18 => (r_18 ≠ none ∧ asR G_18 r_6 (1 : Int32) (.array .int) r_18 okI (fun G_20 => nwA G_20 .int (4 : Int32) 4 (.inl (fun _ => 0)) (fun r_24 G_24 => (r_24 ≠ none ∧ asR G_24 r_6 (2 : Int32) (.array .int) r_24 okI (fun G_26 => pfV G_26 v0 5 0 (va_rf r_6) (fun G_27 => nwA G_27 .int (7 : Int32) 7 (.inl (fun _ => 0)) (fun r_33 G_33 => asI G_33 r_33 (0 : Int32) .int (0 : Int32) (fun G_38 => asI G_38 r_33 (1 : Int32) .int (1 : Int32) (fun G_42 => asI G_42 r_33 (2 : Int32) .int (2 : Int32) (fun G_46 => asI G_46 r_33 (3 : Int32) .int (-1 : Int32) (fun G_50 => asI G_50 r_33 (4 : Int32) .int (-1 : Int32) (fun G_54 => asI G_54 r_33 (5 : Int32) .int (-1 : Int32) (fun G_58 => asI G_58 r_33 (6 : Int32) .int (-1 : Int32) (fun G_63 => pfV G_63 v0 5 1 (va_rf r_33) (fun G_64 => nwA G_64 .int (7 : Int32) 7 (.inl (fun _ => 0)) (fun r_70 G_70 => pfV G_70 v0 5 2 (va_rf r_70) (fun G_72 => nwA G_72 .int (7 : Int32) 7 (.inl (fun _ => 0)) (fun r_78 G_78 => asI G_78 r_78 (0 : Int32) .int (4 : Int32) (fun G_83 => asI G_83 r_78 (1 : Int32) .int (4 : Int32) (fun G_87 => asI G_87 r_78 (2 : Int32) .int (4 : Int32) (fun G_91 => asI G_91 r_78 (3 : Int32) .int (0 : Int32) (fun G_95 => asI G_95 r_78 (4 : Int32) .int (0 : Int32) (fun G_99 => asI G_99 r_78 (5 : Int32) .int (0 : Int32) (fun G_103 => asI G_103 r_78 (6 : Int32) .int (0 : Int32) (fun G_108 => pfV G_108 v0 5 3 (va_rf r_78) (fun G_109 => post G_109))))))))))))))))))))))))))))))))
def w_X2_init (K : tK) (post : tG → Prop) (v0 : Option Nat) (G : tG) : Prop := ((∃ q : Nat, v0 = some q) ∧ post G)
def w_X1_listOrNull_23 (K : tK) (post : Option Nat → tG → Prop) (u0 : Option Nat) (G : tG) : Prop := post u0 G
def w_X1_listOrNull_22 (K : tK) (post : Option Nat → tG → Prop) (G : tG) : Prop := w_X1_listOrNull_23 K post none G
def w_X1_listOrNull (K : tK) (post : Option Nat → tG → Prop) (v0 : Option Nat) (v1 : Int32) (G : tG) : Prop := ((v1 < 0 → w_X1_listOrNull_22 K post G) ∧ (¬ v1 < 0 → gfR G v0 3 0 (fun x_6 => lenA G x_6 (fun x_9 => ((x_9 ≤ v1 → w_X1_listOrNull_22 K post G) ∧ (¬ x_9 ≤ v1 → gfR G v0 3 0 (fun x_14 => alR G x_14 v1 (.object "Twinrow$RowList") (fun x_18 => w_X1_listOrNull_23 K post x_18 G))))))))
def w_X0_read_32 (K : tK) (post : Int32 → tG → Prop) (u0 : Int32) (G : tG) : Prop := post u0 G
def w_X0_read_29 (K : tK) (post : Int32 → tG → Prop) (G : tG) : Prop := w_X0_read_32 K post ((-1000 : Int32)) G
def w_X0_read (K : tK) (post : Int32 → tG → Prop) (v0 : Option Nat) (v1 : Int32) (G : tG) : Prop := gfI G v0 2 2 (fun x_1 => (((x_1 + v1) < 0 → w_X0_read_29 K post G) ∧ (¬ (x_1 + v1) < 0 → gfR G v0 2 1 (fun x_13 => lenA G x_13 (fun x_16 => ((x_16 ≤ (x_1 + v1) → w_X0_read_29 K post G) ∧ (¬ x_16 ≤ (x_1 + v1) → gfR G v0 2 1 (fun x_21 => alI G x_21 (x_1 + v1) .int (fun x_25 => w_X0_read_32 K post x_25 G)))))))))
def w_X1_numberOf_12 (K : tK) (post : Int32 → tG → Prop) (u0 : Int32) (G : tG) : Prop := post u0 G
def w_X1_numberOf (K : tK) (post : Int32 → tG → Prop) (v0 : Int32) (G : tG) : Prop := ((¬ v0 = (-1000 : Int32) → w_X1_numberOf_12 K post v0 G) ∧ (v0 = (-1000 : Int32) → w_X1_numberOf_12 K post ((0 : Int32)) G))
def w_X1_codeOf_5_b (K : tK) (post : Int32 → tG → Prop) (k5 : Option Nat → Int32 → Int32 → Int32 → tG → Prop) (v0 : Option Nat) (v2 : Int32) (v3 : Int32) (v4 : Int32) (G : tG) : Prop := ((v2 ≤ v4 → post v3 G) ∧ (¬ v2 ≤ v4 → rcv G v0 2 (w_X0_read K (fun x_18 G_18 => w_X1_numberOf K (fun x_21 G_21 => k5 v0 v2 ((((31 : Int32) * v3) + x_21)) ((v4 + (1 : Int32))) G_21) x_18 G_18) v0 v4 G)))
def w_X1_codeOf_5 (K : tK) (post : Int32 → tG → Prop) : Nat → Option Nat → Int32 → Int32 → Int32 → tG → Prop
  | 0 => fun _ _ _ _ _ => False
  | n + 1 => w_X1_codeOf_5_b K post (w_X1_codeOf_5 K post n)
def w_X1_codeOf (K : tK) (post : Int32 → tG → Prop) (v0 : Option Nat) (v1 : Int32) (v2 : Int32) (G : tG) : Prop := ∃ n : Nat, w_X1_codeOf_5 K post n v0 v2 ((1 : Int32)) v1 G
def w_X1_isInRow_88 (K : tK) (post : Int32 → tG → Prop) (u0 : Int32) (G : tG) : Prop := (narrow .boolean (.int u0) = .int u0 ∧ post u0 G)
def w_X1_isInRow_20_b (K : tK) (post : Int32 → tG → Prop) (k20 : Option Nat → Option Nat → Int32 → tG → Prop) (v0 : Option Nat) (v1 : Option Nat) (v2 : Int32) (G : tG) : Prop := gfI G v0 2 3 (fun x_22 => ((x_22 ≤ v2 → gfI G v0 2 3 (fun x_57 => w_X1_codeOf K (fun x_60 G_60 => gfI G_60 v0 2 2 (fun x_65 => gfI G_60 v0 2 2 (fun x_69 => gfI G_60 v0 2 3 (fun x_73 => w_X1_codeOf K (fun x_77 G_77 => ((¬ x_60 = x_77 → w_X1_isInRow_88 K post ((0 : Int32)) G_77) ∧ (x_60 = x_77 → w_X1_isInRow_88 K post ((1 : Int32)) G_77))) v1 x_65 ((x_69 + x_73)) G_60)))) v0 ((0 : Int32)) x_57 G)) ∧ (¬ x_22 ≤ v2 → rcv G v0 2 (w_X0_read K (fun x_30 G_30 => gfI G_30 v0 2 2 (fun x_35 => rcv G_30 v1 2 (w_X0_read K (fun x_40 G_40 => ((x_30 = x_40 → k20 v0 v1 ((v2 + (1 : Int32))) G_40) ∧ (¬ x_30 = x_40 → (narrow .boolean (.int (0 : Int32)) = .int (0 : Int32) ∧ post ((0 : Int32)) G_40)))) v1 ((x_35 + v2)) G_30))) v0 v2 G))))
def w_X1_isInRow_20 (K : tK) (post : Int32 → tG → Prop) : Nat → Option Nat → Option Nat → Int32 → tG → Prop
  | 0 => fun _ _ _ _ => False
  | n + 1 => w_X1_isInRow_20_b K post (w_X1_isInRow_20 K post n)
def w_X1_isInRow (K : tK) (post : Int32 → tG → Prop) (v0 : Option Nat) (v1 : Option Nat) (G : tG) : Prop := gfI G v0 2 2 (fun x_1 => gfI G v0 2 3 (fun x_5 => gfI G v1 2 3 (fun x_10 => (((x_1 + x_5) ≤ x_10 → ∃ n : Nat, w_X1_isInRow_20 K post n v0 v1 ((0 : Int32)) G) ∧ (¬ (x_1 + x_5) ≤ x_10 → (narrow .boolean (.int (0 : Int32)) = .int (0 : Int32) ∧ post ((0 : Int32)) G))))))
def w_X1_hasAllFrom_2_b (K : tK) (post : Int32 → tG → Prop) (k2 : Option Nat → Int32 → Option Nat → Int32 → tG → Prop) (v0 : Option Nat) (v1 : Int32) (v2 : Option Nat) (v3 : Int32) (G : tG) : Prop := gfI G v2 2 3 (fun x_4 => ((x_4 ≤ v3 → (narrow .boolean (.int (1 : Int32)) = .int (1 : Int32) ∧ post ((1 : Int32)) G)) ∧ (¬ x_4 ≤ v3 → rcv G v0 2 (w_X0_read K (fun x_14 G_14 => rcv G_14 v2 2 (w_X0_read K (fun x_19 G_19 => ((x_14 = x_19 → k2 v0 v1 v2 ((v3 + (1 : Int32))) G_19) ∧ (¬ x_14 = x_19 → (narrow .boolean (.int (0 : Int32)) = .int (0 : Int32) ∧ post ((0 : Int32)) G_19)))) v2 v3 G_14)) v0 ((v1 + v3)) G))))
def w_X1_hasAllFrom_2 (K : tK) (post : Int32 → tG → Prop) : Nat → Option Nat → Int32 → Option Nat → Int32 → tG → Prop
  | 0 => fun _ _ _ _ _ => False
  | n + 1 => w_X1_hasAllFrom_2_b K post (w_X1_hasAllFrom_2 K post n)
def w_X1_hasAllFrom (K : tK) (post : Int32 → tG → Prop) (v0 : Option Nat) (v1 : Int32) (v2 : Option Nat) (G : tG) : Prop := ∃ n : Nat, w_X1_hasAllFrom_2 K post n v0 v1 v2 ((0 : Int32)) G
def w_X1_areSame_25 (K : tK) (post : Int32 → tG → Prop) (u0 : Int32) (G : tG) : Prop := (narrow .boolean (.int u0) = .int u0 ∧ post u0 G)
def w_X1_areSame_24 (K : tK) (post : Int32 → tG → Prop) (G : tG) : Prop := w_X1_areSame_25 K post ((0 : Int32)) G
def w_X1_areSame (K : tK) (post : Int32 → tG → Prop) (v0 : Option Nat) (v1 : Option Nat) (G : tG) : Prop := gfI G v0 2 3 (fun x_1 => gfI G v1 2 3 (fun x_5 => ((¬ x_1 = x_5 → w_X1_areSame_24 K post G) ∧ (x_1 = x_5 → w_X1_hasAllFrom K (fun x_14 G_14 => ((x_14 = 0 → w_X1_areSame_24 K post G_14) ∧ (¬ x_14 = 0 → w_X1_areSame_25 K post ((1 : Int32)) G_14))) v0 ((0 : Int32)) v1 G))))
def w_X0_write_37 (K : tK) (post : Int32 → tG → Prop) (v3 : Int32) (G : tG) : Prop := post v3 G
def w_X0_write (K : tK) (post : Int32 → tG → Prop) (v0 : Option Nat) (v1 : Int32) (v2 : Int32) (G : tG) : Prop := rcv G v0 2 (w_X0_read K (fun x_2 G_2 => gfI G_2 v0 2 2 (fun x_7 => (((x_7 + v1) < 0 → w_X0_write_37 K post x_2 G_2) ∧ (¬ (x_7 + v1) < 0 → gfR G_2 v0 2 1 (fun x_22 => lenA G_2 x_22 (fun x_25 => ((x_25 ≤ (x_7 + v1) → w_X0_write_37 K post x_2 G_2) ∧ (¬ x_25 ≤ (x_7 + v1) → gfR G_2 v0 2 1 (fun x_30 => asI G_2 x_30 (x_7 + v1) .int v2 (fun G_36 => w_X0_write_37 K post x_2 G_36)))))))))) v0 v1 G)
def w_X1_isEqualToOwn_66 (K : tK) (post : Int32 → tG → Prop) (u0 : Int32) (G : tG) : Prop := (narrow .boolean (.int u0) = .int u0 ∧ post u0 G)
def w_X1_isEqualToOwn_65 (K : tK) (post : Int32 → tG → Prop) (G : tG) : Prop := w_X1_isEqualToOwn_66 K post ((0 : Int32)) G
def w_X1_isEqualToOwn_20_b (K : tK) (post : Int32 → tG → Prop) (k20 : Option Nat → Option Nat → Int32 → tG → Prop) (v1 : Option Nat) (v2 : Option Nat) (v3 : Int32) (G : tG) : Prop := gfI G v1 2 3 (fun x_22 => ((x_22 ≤ v3 → w_X1_areSame K (fun x_47 G_47 => ((x_47 = 0 → w_X1_isEqualToOwn_65 K post G_47) ∧ (¬ x_47 = 0 → w_X1_areSame K (fun x_55 G_55 => ((x_55 = 0 → w_X1_isEqualToOwn_65 K post G_55) ∧ (¬ x_55 = 0 → w_X1_isEqualToOwn_66 K post ((1 : Int32)) G_55))) v2 v1 G_47))) v1 v2 G) ∧ (¬ x_22 ≤ v3 → rcv G v1 2 (w_X0_read K (fun x_32 G_32 => rcv G_32 v2 2 (w_X0_write K (fun x_35 G_35 => k20 v1 v2 ((v3 + (1 : Int32))) G_35) v2 v3 x_32 G_32)) v1 v3 G))))
def w_X1_isEqualToOwn_20 (K : tK) (post : Int32 → tG → Prop) : Nat → Option Nat → Option Nat → Int32 → tG → Prop
  | 0 => fun _ _ _ _ => False
  | n + 1 => w_X1_isEqualToOwn_20_b K post (w_X1_isEqualToOwn_20 K post n)
def w_X1_isEqualToOwn (K : tK) (post : Int32 → tG → Prop) (v0 : Option Nat) (v1 : Option Nat) (G : tG) : Prop := nwO G 2 [.int 0, .null, .int 0, .int 0] (fun r_0 G_0 => gfR G_0 v0 3 1 (fun x_6 => gfI G_0 v1 2 3 (fun x_11 => ((∃ q : Nat, r_0 = some q) ∧ w_X0_init K (fun G_14 => ∃ n : Nat, w_X1_isEqualToOwn_20 K post n v1 r_0 ((0 : Int32)) G_14) r_0 ((-1 : Int32)) x_6 ((0 : Int32)) x_11 G_0))))
def w_X1_placeAfter_15 (K : tK) (post : Int32 → tG → Prop) (u0 : Int32) (G : tG) : Prop := post u0 G
def w_X1_placeAfter (K : tK) (post : Int32 → tG → Prop) (v0 : Int32) (v1 : Int32) (v2 : Int32) (G : tG) : Prop := ((v2 = 0 → w_X1_placeAfter_15 K post ((v0 + v1)) G) ∧ (¬ v2 = 0 → w_X1_placeAfter_15 K post (((v0 - (1 : Int32)) - v1)) G))
def w_X1_isSameBothWays_2_b (K : tK) (post : Int32 → tG → Prop) (k2 : Option Nat → Int32 → tG → Prop) (v0 : Option Nat) (v1 : Int32) (G : tG) : Prop := gfI G v0 2 3 (fun x_4 => ((x_4 ≤ v1 → (narrow .boolean (.int (1 : Int32)) = .int (1 : Int32) ∧ post ((1 : Int32)) G)) ∧ (¬ x_4 ≤ v1 → w_X1_placeAfter K (fun x_13 G_13 => gfI G_13 v0 2 3 (fun x_18 => gfI G_13 v0 2 3 (fun x_22 => w_X1_placeAfter K (fun x_30 G_30 => rcv G_30 v0 2 (w_X0_read K (fun x_36 G_36 => rcv G_36 v0 2 (w_X0_read K (fun x_41 G_41 => ((x_36 = x_41 → k2 v0 ((v1 + (1 : Int32))) G_41) ∧ (¬ x_36 = x_41 → (narrow .boolean (.int (0 : Int32)) = .int (0 : Int32) ∧ post ((0 : Int32)) G_41)))) v0 x_30 G_36)) v0 x_13 G_30)) x_18 (((x_22 - (1 : Int32)) - v1)) ((1 : Int32)) G_13))) ((0 : Int32)) v1 ((0 : Int32)) G)))
def w_X1_isSameBothWays_2 (K : tK) (post : Int32 → tG → Prop) : Nat → Option Nat → Int32 → tG → Prop
  | 0 => fun _ _ _ => False
  | n + 1 => w_X1_isSameBothWays_2_b K post (w_X1_isSameBothWays_2 K post n)
def w_X1_isSameBothWays (K : tK) (post : Int32 → tG → Prop) (v0 : Option Nat) (G : tG) : Prop := ∃ n : Nat, w_X1_isSameBothWays_2 K post n v0 ((0 : Int32)) G
def w_X1_firstPlace_2_b (K : tK) (post : Int32 → tG → Prop) (k2 : Option Nat → Int32 → Int32 → tG → Prop) (v0 : Option Nat) (v1 : Int32) (v2 : Int32) (G : tG) : Prop := gfI G v0 2 3 (fun x_4 => ((x_4 ≤ v2 → post ((-1 : Int32)) G) ∧ (¬ x_4 ≤ v2 → rcv G v0 2 (w_X0_read K (fun x_12 G_12 => ((¬ x_12 = v1 → k2 v0 v1 ((v2 + (1 : Int32))) G_12) ∧ (x_12 = v1 → post v2 G_12))) v0 v2 G))))
def w_X1_firstPlace_2 (K : tK) (post : Int32 → tG → Prop) : Nat → Option Nat → Int32 → Int32 → tG → Prop
  | 0 => fun _ _ _ _ => False
  | n + 1 => w_X1_firstPlace_2_b K post (w_X1_firstPlace_2 K post n)
def w_X1_firstPlace (K : tK) (post : Int32 → tG → Prop) (v0 : Option Nat) (v1 : Int32) (G : tG) : Prop := ∃ n : Nat, w_X1_firstPlace_2 K post n v0 v1 ((0 : Int32)) G
def w_X1_lastPlace_7_b (K : tK) (post : Int32 → tG → Prop) (k7 : Option Nat → Int32 → Int32 → tG → Prop) (v0 : Option Nat) (v1 : Int32) (v2 : Int32) (G : tG) : Prop := ((v2 < 0 → post ((-1 : Int32)) G) ∧ (¬ v2 < 0 → rcv G v0 2 (w_X0_read K (fun x_13 G_13 => ((¬ x_13 = v1 → k7 v0 v1 ((v2 + (-1 : Int32))) G_13) ∧ (x_13 = v1 → post v2 G_13))) v0 v2 G)))
def w_X1_lastPlace_7 (K : tK) (post : Int32 → tG → Prop) : Nat → Option Nat → Int32 → Int32 → tG → Prop
  | 0 => fun _ _ _ _ => False
  | n + 1 => w_X1_lastPlace_7_b K post (w_X1_lastPlace_7 K post n)
def w_X1_lastPlace (K : tK) (post : Int32 → tG → Prop) (v0 : Option Nat) (v1 : Int32) (G : tG) : Prop := gfI G v0 2 3 (fun x_1 => ∃ n : Nat, w_X1_lastPlace_7 K post n v0 v1 ((x_1 - (1 : Int32))) G)
def w_X0_isPlace_17 (K : tK) (post : Int32 → tG → Prop) (u0 : Int32) (G : tG) : Prop := (narrow .boolean (.int u0) = .int u0 ∧ post u0 G)
def w_X0_isPlace_16 (K : tK) (post : Int32 → tG → Prop) (G : tG) : Prop := w_X0_isPlace_17 K post ((0 : Int32)) G
def w_X0_isPlace (K : tK) (post : Int32 → tG → Prop) (v0 : Option Nat) (v1 : Int32) (G : tG) : Prop := ((v1 < 0 → w_X0_isPlace_16 K post G) ∧ (¬ v1 < 0 → gfI G v0 2 3 (fun x_6 => ((x_6 ≤ v1 → w_X0_isPlace_16 K post G) ∧ (¬ x_6 ≤ v1 → w_X0_isPlace_17 K post ((1 : Int32)) G)))))
def w_X1_areFirstsAndLasts_76 (K : tK) (post : Int32 → tG → Prop) (G : tG) : Prop := (narrow .boolean (.int (0 : Int32)) = .int (0 : Int32) ∧ post ((0 : Int32)) G)
def w_X1_areFirstsAndLasts_2_b (K : tK) (post : Int32 → tG → Prop) (k2 : Option Nat → Int32 → tG → Prop) (v0 : Option Nat) (v1 : Int32) (G : tG) : Prop := gfI G v0 2 3 (fun x_4 => ((x_4 ≤ v1 → (narrow .boolean (.int (1 : Int32)) = .int (1 : Int32) ∧ post ((1 : Int32)) G)) ∧ (¬ x_4 ≤ v1 → rcv G v0 2 (w_X0_read K (fun x_12 G_12 => w_X1_firstPlace K (fun x_18 G_18 => w_X1_lastPlace K (fun x_24 G_24 => rcv G_24 v0 2 (w_X0_isPlace K (fun x_31 G_31 => ((x_31 = 0 → w_X1_areFirstsAndLasts_76 K post G_31) ∧ (¬ x_31 = 0 → ((v1 < x_18 → w_X1_areFirstsAndLasts_76 K post G_31) ∧ (¬ v1 < x_18 → rcv G_31 v0 2 (w_X0_read K (fun x_44 G_44 => ((¬ x_44 = x_12 → w_X1_areFirstsAndLasts_76 K post G_44) ∧ (x_44 = x_12 → rcv G_44 v0 2 (w_X0_isPlace K (fun x_54 G_54 => ((x_54 = 0 → w_X1_areFirstsAndLasts_76 K post G_54) ∧ (¬ x_54 = 0 → ((x_24 < v1 → w_X1_areFirstsAndLasts_76 K post G_54) ∧ (¬ x_24 < v1 → rcv G_54 v0 2 (w_X0_read K (fun x_69 G_69 => ((x_69 = x_12 → k2 v0 ((v1 + (1 : Int32))) G_69) ∧ (¬ x_69 = x_12 → w_X1_areFirstsAndLasts_76 K post G_69))) v0 x_24 G_54)))))) v0 x_24 G_44)))) v0 x_18 G_31)))))) v0 x_18 G_24)) v0 x_12 G_18) v0 x_12 G_12) v0 v1 G))))
def w_X1_areFirstsAndLasts_2 (K : tK) (post : Int32 → tG → Prop) : Nat → Option Nat → Int32 → tG → Prop
  | 0 => fun _ _ _ => False
  | n + 1 => w_X1_areFirstsAndLasts_2_b K post (w_X1_areFirstsAndLasts_2 K post n)
def w_X1_areFirstsAndLasts (K : tK) (post : Int32 → tG → Prop) (v0 : Option Nat) (G : tG) : Prop := ∃ n : Nat, w_X1_areFirstsAndLasts_2 K post n v0 ((0 : Int32)) G
def w_X1_isSoundList_48 (K : tK) (post : Int32 → tG → Prop) (u0 : Int32) (G : tG) : Prop := (narrow .boolean (.int u0) = .int u0 ∧ post u0 G)
def w_X1_isSoundList_47 (K : tK) (post : Int32 → tG → Prop) (G : tG) : Prop := w_X1_isSoundList_48 K post ((0 : Int32)) G
def w_X1_isSoundList (K : tK) (post : Int32 → tG → Prop) (v0 : Option Nat) (v1 : Option Nat) (G : tG) : Prop := gfI G v1 2 0 (fun x_2 => rcv G v0 3 (w_X1_listOrNull K (fun x_5 G_5 => ((x_5 = none → w_X1_isSoundList_47 K post G_5) ∧ (¬ x_5 = none → w_X1_isInRow K (fun x_15 G_15 => ((x_15 = 0 → w_X1_isSoundList_47 K post G_15) ∧ (¬ x_15 = 0 → rcv G_15 v0 3 (w_X1_isEqualToOwn K (fun x_23 G_23 => ((x_23 = 0 → w_X1_isSoundList_47 K post G_23) ∧ (¬ x_23 = 0 → w_X1_isSameBothWays K (fun x_30 G_30 => ((x_30 = 0 → w_X1_isSoundList_47 K post G_30) ∧ (¬ x_30 = 0 → w_X1_areFirstsAndLasts K (fun x_37 G_37 => ((x_37 = 0 → w_X1_isSoundList_47 K post G_37) ∧ (¬ x_37 = 0 → w_X1_isSoundList_48 K post ((1 : Int32)) G_37))) v1 G_30))) v1 G_23))) v0 v1 G_15)))) v1 x_5 G_5))) v0 x_2 G))
def w_X1_isSound_28 (K : tK) (post : Int32 → tG → Prop) (k2 : Nat → Nat → Option Nat → Int32 → tG → Prop) (nc ns : Nat) (v0 : Option Nat) (v1 : Int32) (G : tG) : Prop := k2 nc ns v0 ((v1 + (1 : Int32))) G
def w_X1_isSound_2_b (K : tK) (post : Int32 → tG → Prop) (k2 : Nat → Nat → Option Nat → Int32 → tG → Prop) (nc ns : Nat) (v0 : Option Nat) (v1 : Int32) (G : tG) : Prop := (((7 : Int32) ≤ v1 → (narrow .boolean (.int (1 : Int32)) = .int (1 : Int32) ∧ post ((1 : Int32)) G)) ∧ (¬ (7 : Int32) ≤ v1 → rcv G v0 3 (w_X1_listOrNull K (fun x_10 G_10 => ((x_10 = none → w_X1_isSound_28 K post k2 nc ns v0 v1 G_10) ∧ (¬ x_10 = none → ((nc + 1 ≤ 7 ∧ ns + 4 ≤ 28) ∧ rcv G_10 v0 3 (w_X1_isSoundList K (fun x_20 G_20 => ((¬ x_20 = 0 → w_X1_isSound_28 K post k2 ((nc + 1)) ((ns + 4)) v0 v1 G_20) ∧ (x_20 = 0 → (narrow .boolean (.int (0 : Int32)) = .int (0 : Int32) ∧ post ((0 : Int32)) G_20)))) v0 x_10 G_10))))) v0 v1 G)))
def w_X1_isSound_2 (K : tK) (post : Int32 → tG → Prop) : Nat → Nat → Nat → Option Nat → Int32 → tG → Prop
  | 0 => fun _ _ _ _ _ => False
  | n + 1 => w_X1_isSound_2_b K post (w_X1_isSound_2 K post n)
def w_X1_isSound (K : tK) (post : Int32 → tG → Prop) (v0 : Option Nat) (G : tG) : Prop := ∃ n : Nat, w_X1_isSound_2 K post n 0 0 v0 ((0 : Int32)) G
def w_X1_mixed (K : tK) (post : Int64 → tG → Prop) (v0 : Int64) (v2 : Int64) (G : tG) : Prop := post (((v0 * (31 : Int64)) + v2)) G
def w_X1_checkNumber_10 (K : tK) (post : tG → Prop) (postX : String → tG → Prop) (G : tG) : Prop := postX "java/lang/IllegalArgumentException" G
def w_X1_checkNumber (K : tK) (post : tG → Prop) (postX : String → tG → Prop) (v0 : Int32) (v1 : Int32) (v2 : Int32) (G : tG) : Prop := ((v0 < v1 → w_X1_checkNumber_10 K post postX G) ∧ (¬ v0 < v1 → ((v0 ≤ v2 → post G) ∧ (¬ v0 ≤ v2 → w_X1_checkNumber_10 K post postX G))))
def w_X1_rowOf_25 (K : tK) (post : Int32 → tG → Prop) (postX : String → tG → Prop) (u0 : Int32) (G : tG) : Prop := post u0 G
def w_X1_rowOf (K : tK) (post : Int32 → tG → Prop) (postX : String → tG → Prop) (v0 : Option Nat) (v1 : Int32) (G : tG) : Prop := w_X1_checkNumber K (fun G_4 => rcv G_4 v0 3 (w_X1_listOrNull K (fun x_9 G_9 => ((¬ x_9 = none → gfI G_9 x_9 2 0 (fun x_22 => w_X1_rowOf_25 K post postX x_22 G_9)) ∧ (x_9 = none → w_X1_rowOf_25 K post postX ((-1 : Int32)) G_9))) v0 v1 G_4)) postX v1 ((0 : Int32)) ((6 : Int32)) G
def w_X1_begin_25 (K : tK) (post : Int32 → tG → Prop) (postX : String → tG → Prop) (u0 : Int32) (G : tG) : Prop := post u0 G
def w_X1_begin (K : tK) (post : Int32 → tG → Prop) (postX : String → tG → Prop) (v0 : Option Nat) (v1 : Int32) (G : tG) : Prop := w_X1_checkNumber K (fun G_4 => rcv G_4 v0 3 (w_X1_listOrNull K (fun x_9 G_9 => ((¬ x_9 = none → gfI G_9 x_9 2 2 (fun x_22 => w_X1_begin_25 K post postX x_22 G_9)) ∧ (x_9 = none → w_X1_begin_25 K post postX ((-1 : Int32)) G_9))) v0 v1 G_4)) postX v1 ((0 : Int32)) ((6 : Int32)) G
def w_X1_listAt (K : tK) (post : Option Nat → tG → Prop) (postX : String → tG → Prop) (v0 : Option Nat) (v1 : Int32) (G : tG) : Prop := rcv G v0 3 (w_X1_listOrNull K (fun x_2 G_2 => ((¬ x_2 = none → post x_2 G_2) ∧ (x_2 = none → postX "java/lang/IndexOutOfBoundsException" G_2))) v0 v1 G)
def w_X1_length (K : tK) (post : Int32 → tG → Prop) (postX : String → tG → Prop) (v0 : Option Nat) (v1 : Int32) (G : tG) : Prop := rcv G v0 3 (w_X1_listAt K (fun x_2 G_2 => gfI G_2 x_2 2 3 (fun x_5 => post x_5 G_2)) postX v0 v1 G)
def w_X1_code (K : tK) (post : Int32 → tG → Prop) (postX : String → tG → Prop) (v0 : Option Nat) (v1 : Int32) (G : tG) : Prop := rcv G v0 3 (w_X1_listAt K (fun x_2 G_2 => gfI G_2 x_2 2 3 (fun x_9 => w_X1_codeOf K (fun x_12 G_12 => post x_12 G_12) x_2 ((0 : Int32)) x_9 G_2)) postX v0 v1 G)
def w_X1_sum_11_b (K : tK) (post : Int32 → tG → Prop) (postX : String → tG → Prop) (k11 : Option Nat → Int32 → Int32 → tG → Prop) (v2 : Option Nat) (v3 : Int32) (v4 : Int32) (G : tG) : Prop := gfI G v2 2 3 (fun x_14 => ((x_14 ≤ v4 → post v3 G) ∧ (¬ x_14 ≤ v4 → rcv G v2 2 (w_X0_read K (fun x_24 G_24 => w_X1_numberOf K (fun x_27 G_27 => k11 v2 ((v3 + x_27)) ((v4 + (1 : Int32))) G_27) x_24 G_24) v2 v4 G))))
def w_X1_sum_11 (K : tK) (post : Int32 → tG → Prop) (postX : String → tG → Prop) : Nat → Option Nat → Int32 → Int32 → tG → Prop
  | 0 => fun _ _ _ _ => False
  | n + 1 => w_X1_sum_11_b K post postX (w_X1_sum_11 K post postX n)
def w_X1_sum (K : tK) (post : Int32 → tG → Prop) (postX : String → tG → Prop) (v0 : Option Nat) (v1 : Int32) (G : tG) : Prop := rcv G v0 3 (w_X1_listAt K (fun x_2 G_2 => ∃ n : Nat, w_X1_sum_11 K post postX n x_2 ((0 : Int32)) ((0 : Int32)) G_2) postX v0 v1 G)
def w_X1_mixedWithList_68 (K : tK) (post : Int64 → tG → Prop) (postX : String → tG → Prop) (v4 : Int64) (G : tG) : Prop := post v4 G
def w_X1_mixedWithList (K : tK) (post : Int64 → tG → Prop) (postX : String → tG → Prop) (v0 : Option Nat) (v1 : Int64) (v3 : Int32) (G : tG) : Prop := rcv G v0 3 (w_X1_rowOf K (fun x_3 G_3 => w_X1_mixed K (fun x_7 G_7 => rcv G_7 v0 3 (w_X1_begin K (fun x_12 G_12 => w_X1_mixed K (fun x_16 G_16 => rcv G_16 v0 3 (w_X1_listOrNull K (fun x_23 G_23 => ((x_23 = none → w_X1_mixedWithList_68 K post postX x_16 G_23) ∧ (¬ x_23 = none → rcv G_23 v0 3 (w_X1_length K (fun x_33 G_33 => w_X1_mixed K (fun x_37 G_37 => rcv G_37 v0 3 (w_X1_code K (fun x_46 G_46 => w_X1_mixed K (fun x_50 G_50 => rcv G_50 v0 3 (w_X1_sum K (fun x_59 G_59 => w_X1_mixed K (fun x_63 G_63 => w_X1_mixedWithList_68 K post postX x_63 G_63) x_50 (((x_59).toInt64)) G_59) postX v0 v3 G_50)) x_37 (((x_46).toInt64)) G_46) postX v0 v3 G_37)) x_16 (((x_33).toInt64)) G_33) postX v0 v3 G_23)))) v0 v3 G_16)) x_7 (((x_12).toInt64)) G_12) postX v0 v3 G_7)) v1 (((x_3).toInt64)) G_3) postX v0 v3 G)
def w_X1_twinAt_14 (K : tK) (post : Option Nat → tG → Prop) (postX : String → tG → Prop) (u0 : Option Nat) (G : tG) : Prop := ((¬ u0 = none → post u0 G) ∧ (u0 = none → postX "java/lang/IndexOutOfBoundsException" G))
def w_X1_twinAt (K : tK) (post : Option Nat → tG → Prop) (postX : String → tG → Prop) (v0 : Option Nat) (v1 : Int32) (G : tG) : Prop := (((3 : Int32) ≤ v1 → w_X1_twinAt_14 K post postX none G) ∧ (¬ (3 : Int32) ≤ v1 → rcv G v0 3 (w_X1_listOrNull K (fun x_7 G_7 => w_X1_twinAt_14 K post postX x_7 G_7) v0 v1 G)))
def w_X1_mixedWithRow_22_b (K : tK) (post : Int64 → tG → Prop) (postX : String → tG → Prop) (k22 : Option Nat → Int64 → Int32 → tG → Prop) (v4 : Option Nat) (v5 : Int64) (v7 : Int32) (G : tG) : Prop := gfI G v4 2 3 (fun x_26 => ((x_26 ≤ v7 → post v5 G) ∧ (¬ x_26 ≤ v7 → rcv G v4 2 (w_X0_read K (fun x_38 G_38 => w_X1_mixed K (fun x_42 G_42 => k22 v4 x_42 ((v7 + (1 : Int32))) G_42) v5 (((x_38).toInt64)) G_38) v4 v7 G))))
def w_X1_mixedWithRow_22 (K : tK) (post : Int64 → tG → Prop) (postX : String → tG → Prop) : Nat → Option Nat → Int64 → Int32 → tG → Prop
  | 0 => fun _ _ _ _ => False
  | n + 1 => w_X1_mixedWithRow_22_b K post postX (w_X1_mixedWithRow_22 K post postX n)
def w_X1_mixedWithRow (K : tK) (post : Int64 → tG → Prop) (postX : String → tG → Prop) (v0 : Option Nat) (v1 : Int64) (v3 : Int32) (G : tG) : Prop := rcv G v0 3 (w_X1_twinAt K (fun x_2 G_2 => gfI G_2 x_2 2 3 (fun x_10 => w_X1_mixed K (fun x_14 G_14 => ∃ n : Nat, w_X1_mixedWithRow_22 K post postX n x_2 x_14 ((0 : Int32)) G_14) v1 (((x_10).toInt64)) G_2)) postX v0 v3 G)
def w_X1_placesOfRows_4_b (K : tK) (post : Int32 → tG → Prop) (postX : String → tG → Prop) (k4 : Nat → Nat → Option Nat → Int32 → Int32 → tG → Prop) (nc ns : Nat) (v0 : Option Nat) (v1 : Int32) (v2 : Int32) (G : tG) : Prop := (((3 : Int32) ≤ v2 → post v1 G) ∧ (¬ (3 : Int32) ≤ v2 → ((nc + 1 ≤ 3 ∧ ns + 6 ≤ 18) ∧ rcv G v0 3 (w_X1_twinAt K (fun x_12 G_12 => gfI G_12 x_12 2 3 (fun x_15 => k4 ((nc + 1)) ((ns + 6)) v0 ((v1 + x_15)) ((v2 + (1 : Int32))) G_12)) postX v0 v2 G))))
def w_X1_placesOfRows_4 (K : tK) (post : Int32 → tG → Prop) (postX : String → tG → Prop) : Nat → Nat → Nat → Option Nat → Int32 → Int32 → tG → Prop
  | 0 => fun _ _ _ _ _ _ => False
  | n + 1 => w_X1_placesOfRows_4_b K post postX (w_X1_placesOfRows_4 K post postX n)
def w_X1_placesOfRows (K : tK) (post : Int32 → tG → Prop) (postX : String → tG → Prop) (v0 : Option Nat) (G : tG) : Prop := ∃ n : Nat, w_X1_placesOfRows_4 K post postX n 0 0 v0 ((0 : Int32)) ((0 : Int32)) G
def w_X1_partsThere_24 (K : tK) (post : Int32 → tG → Prop) (k4 : Option Nat → Int32 → Int32 → tG → Prop) (v0 : Option Nat) (v2 : Int32) (u0 : Int32) (u1 : Int32) (G : tG) : Prop := k4 v0 ((u0 + u1)) ((v2 + (1 : Int32))) G
def w_X1_partsThere_4_b (K : tK) (post : Int32 → tG → Prop) (k4 : Option Nat → Int32 → Int32 → tG → Prop) (v0 : Option Nat) (v1 : Int32) (v2 : Int32) (G : tG) : Prop := (((7 : Int32) ≤ v2 → post v1 G) ∧ (¬ (7 : Int32) ≤ v2 → rcv G v0 3 (w_X1_listOrNull K (fun x_13 G_13 => ((¬ x_13 = none → w_X1_partsThere_24 K post k4 v0 v2 v1 ((1 : Int32)) G_13) ∧ (x_13 = none → w_X1_partsThere_24 K post k4 v0 v2 v1 ((0 : Int32)) G_13))) v0 v2 G)))
def w_X1_partsThere_4 (K : tK) (post : Int32 → tG → Prop) : Nat → Option Nat → Int32 → Int32 → tG → Prop
  | 0 => fun _ _ _ _ => False
  | n + 1 => w_X1_partsThere_4_b K post (w_X1_partsThere_4 K post n)
def w_X1_partsThere (K : tK) (post : Int32 → tG → Prop) (v0 : Option Nat) (G : tG) : Prop := ∃ n : Nat, w_X1_partsThere_4 K post n v0 ((0 : Int32)) ((3 : Int32)) G
def w_X1_house (K : tK) (post : Int32 → tG → Prop) (postX : String → tG → Prop) (v0 : Option Nat) (v1 : Int32) (G : tG) : Prop := w_X1_checkNumber K (fun G_3 => ((v1 = (0 : Int32) → gfI G_3 v0 3 2 (fun x_33 => post x_33 G_3)) ∧ ((v1 = (1 : Int32) → gfI G_3 v0 3 3 (fun x_38 => post x_38 G_3)) ∧ ((v1 = (2 : Int32) → rcv G_3 v0 3 (w_X1_partsThere K (fun x_43 G_43 => post x_43 G_43) v0 G_3)) ∧ (((v1).toInt < 0 ∨ 2 < (v1).toInt) → rcv G_3 v0 3 (w_X1_placesOfRows K (fun x_48 G_48 => post x_48 G_48) postX v0 G_3)))))) postX v1 ((0 : Int32)) ((3 : Int32)) G
def w_X1_digest_82 (K : tK) (post : Int64 → tG → Prop) (postX : String → tG → Prop) (nc ns : Nat) (u0 : Int64) (u1 : Int64) (G : tG) : Prop := w_X1_mixed K (fun x_82 G_82 => post x_82 G_82) u0 u1 G
def w_X1_digest_50_b (K : tK) (post : Int64 → tG → Prop) (postX : String → tG → Prop) (k50 : Nat → Nat → Option Nat → Int64 → Int32 → tG → Prop) (nc ns : Nat) (v0 : Option Nat) (v1 : Int64) (v3 : Int32) (G : tG) : Prop := (((7 : Int32) ≤ v3 → ((nc + 7 ≤ 61 ∧ ns + 28 ≤ 352) ∧ rcv G v0 3 (w_X1_isSound K (fun x_71 G_71 => ((x_71 = 0 → w_X1_digest_82 K post postX ((nc + 7)) ((ns + 28)) v1 ((0 : Int64)) G_71) ∧ (¬ x_71 = 0 → w_X1_digest_82 K post postX ((nc + 7)) ((ns + 28)) v1 ((1 : Int64)) G_71))) v0 G))) ∧ (¬ (7 : Int32) ≤ v3 → ((nc + 5 ≤ 61 ∧ ns + 30 ≤ 352) ∧ rcv G v0 3 (w_X1_mixedWithList K (fun x_59 G_59 => k50 ((nc + 5)) ((ns + 30)) v0 x_59 ((v3 + (1 : Int32))) G_59) postX v0 v1 v3 G))))
def w_X1_digest_50 (K : tK) (post : Int64 → tG → Prop) (postX : String → tG → Prop) : Nat → Nat → Nat → Option Nat → Int64 → Int32 → tG → Prop
  | 0 => fun _ _ _ _ _ _ => False
  | n + 1 => w_X1_digest_50_b K post postX (w_X1_digest_50 K post postX n)
def w_X1_digest_30_b (K : tK) (post : Int64 → tG → Prop) (postX : String → tG → Prop) (k30 : Nat → Nat → Option Nat → Int64 → Int32 → tG → Prop) (nc ns : Nat) (v0 : Option Nat) (v1 : Int64) (v3 : Int32) (G : tG) : Prop := (((3 : Int32) ≤ v3 → ∃ n : Nat, w_X1_digest_50 K post postX n nc ns v0 v1 ((0 : Int32)) G) ∧ (¬ (3 : Int32) ≤ v3 → ((nc + 1 ≤ 61 ∧ ns + 6 ≤ 352) ∧ rcv G v0 3 (w_X1_mixedWithRow K (fun x_38 G_38 => k30 ((nc + 1)) ((ns + 6)) v0 x_38 ((v3 + (1 : Int32))) G_38) postX v0 v1 v3 G))))
def w_X1_digest_30 (K : tK) (post : Int64 → tG → Prop) (postX : String → tG → Prop) : Nat → Nat → Nat → Option Nat → Int64 → Int32 → tG → Prop
  | 0 => fun _ _ _ _ _ _ => False
  | n + 1 => w_X1_digest_30_b K post postX (w_X1_digest_30 K post postX n)
def w_X1_digest_6_b (K : tK) (post : Int64 → tG → Prop) (postX : String → tG → Prop) (k6 : Nat → Nat → Option Nat → Int64 → Int32 → tG → Prop) (nc ns : Nat) (v0 : Option Nat) (v1 : Int64) (v3 : Int32) (G : tG) : Prop := (((3 : Int32) < v3 → ∃ n : Nat, w_X1_digest_30 K post postX n nc ns v0 v1 ((0 : Int32)) G) ∧ (¬ (3 : Int32) < v3 → ((nc + 4 ≤ 61 ∧ ns + 24 ≤ 352) ∧ rcv G v0 3 (w_X1_house K (fun x_14 G_14 => w_X1_mixed K (fun x_18 G_18 => k6 ((nc + 4)) ((ns + 24)) v0 x_18 ((v3 + (1 : Int32))) G_18) v1 (((x_14).toInt64)) G_14) postX v0 v3 G))))
def w_X1_digest_6 (K : tK) (post : Int64 → tG → Prop) (postX : String → tG → Prop) : Nat → Nat → Nat → Option Nat → Int64 → Int32 → tG → Prop
  | 0 => fun _ _ _ _ _ _ => False
  | n + 1 => w_X1_digest_6_b K post postX (w_X1_digest_6 K post postX n)
def w_X1_digest (K : tK) (post : Int64 → tG → Prop) (postX : String → tG → Prop) (v0 : Option Nat) (G : tG) : Prop := ∃ n : Nat, w_X1_digest_6 K post postX n 0 0 v0 ((7778 : Int64)) ((0 : Int32)) G
def w_X3_add_ (K : tK) (post : tG → Prop) (v0 : Option Nat) (v1 : Int64) (G : tG) : Prop := gfL G v0 5 7 (fun x_2 => pfV G v0 5 7 (.long (((x_2 * (31 : Int64)) + v1))) (fun G_11 => post G_11))
def w_X3_beginNow_20 (K : tK) (post : Int32 → tG → Prop) (u0 : Int32) (G : tG) : Prop := post u0 G
def w_X3_beginNow (K : tK) (post : Int32 → tG → Prop) (v0 : Option Nat) (v1 : Int32) (G : tG) : Prop := gfR G v0 5 1 (fun x_1 => alI G x_1 v1 .int (fun x_5 => ((¬ x_5 = (-1 : Int32) → gfR G v0 5 2 (fun x_15 => alI G x_15 v1 .int (fun x_19 => w_X3_beginNow_20 K post x_19 G))) ∧ (x_5 = (-1 : Int32) → w_X3_beginNow_20 K post ((-1 : Int32)) G))))
def w_X3_value (K : tK) (post : Int32 → tG → Prop) (v0 : Option Nat) (v1 : Int32) (v2 : Int32) (G : tG) : Prop := gfR G v0 5 0 (fun x_1 => gfR G v0 5 1 (fun x_5 => alI G x_5 v1 .int (fun x_9 => alR G x_1 x_9 (.array .int) (fun x_10 => gfR G v0 5 2 (fun x_12 => alI G x_12 v1 .int (fun x_16 => alI G x_10 (x_16 + v2) .int (fun x_19 => post x_19 G)))))))
def w_X3_all_11_b (K : tK) (post : Option Nat → tG → Prop) (k11 : Option Nat → Int32 → Option Nat → Int32 → tG → Prop) (v0 : Option Nat) (v1 : Int32) (v2 : Option Nat) (v3 : Int32) (G : tG) : Prop := lenA G v2 (fun x_13 => ((x_13 ≤ v3 → post v2 G) ∧ (¬ x_13 ≤ v3 → rcv G v0 5 (w_X3_value K (fun x_22 G_22 => asI G_22 v2 v3 .int x_22 (fun G_25 => k11 v0 v1 v2 ((v3 + (1 : Int32))) G_25)) v0 v1 v3 G))))
def w_X3_all_11 (K : tK) (post : Option Nat → tG → Prop) : Nat → Option Nat → Int32 → Option Nat → Int32 → tG → Prop
  | 0 => fun _ _ _ _ _ => False
  | n + 1 => w_X3_all_11_b K post (w_X3_all_11 K post n)
def w_X3_all (K : tK) (post : Option Nat → tG → Prop) (v0 : Option Nat) (v1 : Int32) (G : tG) : Prop := gfR G v0 5 3 (fun x_1 => alI G x_1 v1 .int (fun x_5 => nwA G .int x_5 12 (.inl (fun _ => 0)) (fun r_6 G_6 => ∃ n : Nat, w_X3_all_11 K post n v0 v1 r_6 ((0 : Int32)) G_6)))
def w_X3_codeNow_46 (K : tK) (post : Int32 → tG → Prop) (k15 : Int32 → Option Nat → Int32 → Int32 → tG → Prop) (v3 : Option Nat) (v4 : Int32) (v5 : Int32) (u0 : Int32) (u1 : Int32) (G : tG) : Prop := k15 ((u0 + u1)) v3 v4 ((v5 + (1 : Int32))) G
def w_X3_codeNow_15_b (K : tK) (post : Int32 → tG → Prop) (k15 : Int32 → Option Nat → Int32 → Int32 → tG → Prop) (v2 : Int32) (v3 : Option Nat) (v4 : Int32) (v5 : Int32) (G : tG) : Prop := ((v4 ≤ v5 → post v2 G) ∧ (¬ v4 ≤ v5 → alI G v3 v5 .int (fun x_25 => ((¬ x_25 = (-1000 : Int32) → w_X3_codeNow_46 K post k15 v3 v4 v5 (((31 : Int32) * v2)) x_25 G) ∧ (x_25 = (-1000 : Int32) → w_X3_codeNow_46 K post k15 v3 v4 v5 (((31 : Int32) * v2)) ((0 : Int32)) G)))))
def w_X3_codeNow_15 (K : tK) (post : Int32 → tG → Prop) : Nat → Int32 → Option Nat → Int32 → Int32 → tG → Prop
  | 0 => fun _ _ _ _ _ => False
  | n + 1 => w_X3_codeNow_15_b K post (w_X3_codeNow_15 K post n)
def w_X3_codeNow (K : tK) (post : Int32 → tG → Prop) (v0 : Option Nat) (v1 : Int32) (G : tG) : Prop := rcv G v0 5 (w_X3_all K (fun x_4 G_4 => lenA G_4 x_4 (fun x_9 => ∃ n : Nat, w_X3_codeNow_15 K post n ((1 : Int32)) x_4 x_9 ((0 : Int32)) G_4)) v0 v1 G)
def w_X3_sumNow_43 (K : tK) (post : Int32 → tG → Prop) (k15 : Int32 → Option Nat → Int32 → Int32 → tG → Prop) (v3 : Option Nat) (v4 : Int32) (v5 : Int32) (u0 : Int32) (u1 : Int32) (G : tG) : Prop := k15 ((u0 + u1)) v3 v4 ((v5 + (1 : Int32))) G
def w_X3_sumNow_15_b (K : tK) (post : Int32 → tG → Prop) (k15 : Int32 → Option Nat → Int32 → Int32 → tG → Prop) (v2 : Int32) (v3 : Option Nat) (v4 : Int32) (v5 : Int32) (G : tG) : Prop := ((v4 ≤ v5 → post v2 G) ∧ (¬ v4 ≤ v5 → alI G v3 v5 .int (fun x_25 => ((¬ x_25 = (-1000 : Int32) → w_X3_sumNow_43 K post k15 v3 v4 v5 v2 x_25 G) ∧ (x_25 = (-1000 : Int32) → w_X3_sumNow_43 K post k15 v3 v4 v5 v2 ((0 : Int32)) G)))))
def w_X3_sumNow_15 (K : tK) (post : Int32 → tG → Prop) : Nat → Int32 → Option Nat → Int32 → Int32 → tG → Prop
  | 0 => fun _ _ _ _ _ => False
  | n + 1 => w_X3_sumNow_15_b K post (w_X3_sumNow_15 K post n)
def w_X3_sumNow (K : tK) (post : Int32 → tG → Prop) (v0 : Option Nat) (v1 : Int32) (G : tG) : Prop := rcv G v0 5 (w_X3_all K (fun x_4 G_4 => lenA G_4 x_4 (fun x_9 => ∃ n : Nat, w_X3_sumNow_15 K post n ((0 : Int32)) x_4 x_9 ((0 : Int32)) G_4)) v0 v1 G)
def w_X3_one_9 (K : tK) (post : Int32 → tG → Prop) (u0 : Int32) (G : tG) : Prop := post u0 G
def w_X3_one (K : tK) (post : Int32 → tG → Prop) (v0 : Int32) (G : tG) : Prop := ((v0 = 0 → w_X3_one_9 K post ((0 : Int32)) G) ∧ (¬ v0 = 0 → w_X3_one_9 K post ((1 : Int32)) G))
def w_X3_houseNow_26 (K : tK) (post : Int32 → tG → Prop) (k4 : Option Nat → Int32 → Int32 → Int32 → tG → Prop) (v0 : Option Nat) (v1 : Int32) (v3 : Int32) (u0 : Int32) (u1 : Int32) (G : tG) : Prop := w_X3_one K (fun x_26 G_26 => k4 v0 v1 ((u0 + x_26)) ((v3 + (1 : Int32))) G_26) u1 G
def w_X3_houseNow_4_b (K : tK) (post : Int32 → tG → Prop) (k4 : Option Nat → Int32 → Int32 → Int32 → tG → Prop) (v0 : Option Nat) (v1 : Int32) (v2 : Int32) (v3 : Int32) (G : tG) : Prop := (((7 : Int32) ≤ v3 → nwA G .int (4 : Int32) 4 (.inl (fun _ => 0)) (fun r_38 G_38 => gfI G_38 v0 5 4 (fun x_43 => asI G_38 r_38 (0 : Int32) .int x_43 (fun G_46 => gfI G_46 v0 5 5 (fun x_50 => asI G_46 r_38 (1 : Int32) .int x_50 (fun G_53 => asI G_53 r_38 (2 : Int32) .int v2 (fun G_57 => gfR G_57 v0 5 0 (fun x_61 => alR G_57 x_61 (0 : Int32) (.array .int) (fun x_65 => lenA G_57 x_65 (fun x_66 => gfR G_57 v0 5 0 (fun x_68 => alR G_57 x_68 (1 : Int32) (.array .int) (fun x_72 => lenA G_57 x_72 (fun x_73 => gfR G_57 v0 5 0 (fun x_76 => alR G_57 x_76 (2 : Int32) (.array .int) (fun x_80 => lenA G_57 x_80 (fun x_81 => asI G_57 r_38 (3 : Int32) .int ((x_66 + x_73) + x_81) (fun G_83 => alI G_83 r_38 v1 .int (fun x_87 => post x_87 G_83)))))))))))))))))) ∧ (¬ (7 : Int32) ≤ v3 → gfR G v0 5 1 (fun x_12 => alI G x_12 v3 .int (fun x_16 => ((x_16 = (-1 : Int32) → w_X3_houseNow_26 K post k4 v0 v1 v3 v2 ((0 : Int32)) G) ∧ (¬ x_16 = (-1 : Int32) → w_X3_houseNow_26 K post k4 v0 v1 v3 v2 ((1 : Int32)) G))))))
def w_X3_houseNow_4 (K : tK) (post : Int32 → tG → Prop) : Nat → Option Nat → Int32 → Int32 → Int32 → tG → Prop
  | 0 => fun _ _ _ _ _ => False
  | n + 1 => w_X3_houseNow_4_b K post (w_X3_houseNow_4 K post n)
def w_X3_houseNow (K : tK) (post : Int32 → tG → Prop) (v0 : Option Nat) (v1 : Int32) (G : tG) : Prop := ∃ n : Nat, w_X3_houseNow_4 K post n v0 v1 ((0 : Int32)) ((3 : Int32)) G
def w_X3_digest_75_b (K : tK) (post : Int64 → tG → Prop) (k45 : Nat → Nat → Option Nat → Option Nat → Int32 → Int32 → tG → Prop) (k75 : Nat → Nat → Option Nat → Option Nat → Int32 → Int32 → Option Nat → Int32 → Int32 → tG → Prop) (nc ns : Nat) (v0 : Option Nat) (v1 : Option Nat) (v2 : Int32) (v3 : Int32) (v5 : Option Nat) (v6 : Int32) (v7 : Int32) (G : tG) : Prop := ((v6 ≤ v7 → k45 nc ns v0 v1 v2 ((v3 + (1 : Int32))) G) ∧ (¬ v6 ≤ v7 → alI G v5 v7 .int (fun x_86 => rcv G v0 5 (w_X3_add_ K (fun G_93 => k75 nc ns v0 v1 v2 v3 v5 v6 ((v7 + (1 : Int32))) G_93) v0 (((x_86).toInt64)) G))))
def w_X3_digest_75 (K : tK) (post : Int64 → tG → Prop) (k45 : Nat → Nat → Option Nat → Option Nat → Int32 → Int32 → tG → Prop) : Nat → Nat → Nat → Option Nat → Option Nat → Int32 → Int32 → Option Nat → Int32 → Int32 → tG → Prop
  | 0 => fun _ _ _ _ _ _ _ _ _ _ => False
  | n + 1 => w_X3_digest_75_b K post k45 (w_X3_digest_75 K post k45 n)
def w_X3_digest_181 (K : tK) (post : Int64 → tG → Prop) (k110 : Nat → Nat → Option Nat → Int32 → tG → Prop) (nc ns : Nat) (v0 : Option Nat) (v1 : Int32) (G : tG) : Prop := k110 nc ns v0 ((v1 + (1 : Int32))) G
def w_X3_digest_110_b (K : tK) (post : Int64 → tG → Prop) (k110 : Nat → Nat → Option Nat → Int32 → tG → Prop) (nc ns : Nat) (v0 : Option Nat) (v1 : Int32) (G : tG) : Prop := (((7 : Int32) ≤ v1 → rcv G v0 5 (w_X3_add_ K (fun G_189 => gfL G_189 v0 5 7 (fun x_193 => post x_193 G_189)) v0 ((1 : Int64)) G)) ∧ (¬ (7 : Int32) ≤ v1 → gfR G v0 5 1 (fun x_118 => alI G x_118 v1 .int (fun x_122 => rcv G v0 5 (w_X3_add_ K (fun G_124 => rcv G_124 v0 5 (w_X3_beginNow K (fun x_130 G_130 => rcv G_130 v0 5 (w_X3_add_ K (fun G_134 => gfR G_134 v0 5 1 (fun x_138 => alI G_134 x_138 v1 .int (fun x_142 => ((¬ x_142 = (-1 : Int32) → gfR G_134 v0 5 3 (fun x_152 => alI G_134 x_152 v1 .int (fun x_156 => rcv G_134 v0 5 (w_X3_add_ K (fun G_158 => ((nc + 1 ≤ 20 ∧ ns + 12 ≤ 200) ∧ rcv G_158 v0 5 (w_X3_codeNow K (fun x_164 G_164 => rcv G_164 v0 5 (w_X3_add_ K (fun G_168 => (((nc + 1) + 1 ≤ 20 ∧ (ns + 12) + 12 ≤ 200) ∧ rcv G_168 v0 5 (w_X3_sumNow K (fun x_174 G_174 => rcv G_174 v0 5 (w_X3_add_ K (fun G_178 => w_X3_digest_181 K post k110 (((nc + 1) + 1)) (((ns + 12) + 12)) v0 v1 G_178) v0 (((x_174).toInt64)) G_174)) v0 v1 G_168))) v0 (((x_164).toInt64)) G_164)) v0 v1 G_158))) v0 (((x_156).toInt64)) G_134)))) ∧ (x_142 = (-1 : Int32) → w_X3_digest_181 K post k110 nc ns v0 v1 G_134))))) v0 (((x_130).toInt64)) G_130)) v0 v1 G_124)) v0 (((x_122).toInt64)) G)))))
def w_X3_digest_110 (K : tK) (post : Int64 → tG → Prop) : Nat → Nat → Nat → Option Nat → Int32 → tG → Prop
  | 0 => fun _ _ _ _ _ => False
  | n + 1 => w_X3_digest_110_b K post (w_X3_digest_110 K post n)
def w_X3_digest_45_b (K : tK) (post : Int64 → tG → Prop) (k45 : Nat → Nat → Option Nat → Option Nat → Int32 → Int32 → tG → Prop) (nc ns : Nat) (v0 : Option Nat) (v1 : Option Nat) (v2 : Int32) (v3 : Int32) (G : tG) : Prop := ((v2 ≤ v3 → ∃ n : Nat, w_X3_digest_110 K post n nc ns v0 ((0 : Int32)) G) ∧ (¬ v2 ≤ v3 → alR G v1 v3 (.array .int) (fun x_52 => lenA G x_52 (fun x_58 => rcv G v0 5 (w_X3_add_ K (fun G_60 => lenA G_60 x_52 (fun x_69 => ∃ n : Nat, w_X3_digest_75 K post k45 n nc ns v0 v1 v2 v3 x_52 x_69 ((0 : Int32)) G_60)) v0 (((x_58).toInt64)) G)))))
def w_X3_digest_45 (K : tK) (post : Int64 → tG → Prop) : Nat → Nat → Nat → Option Nat → Option Nat → Int32 → Int32 → tG → Prop
  | 0 => fun _ _ _ _ _ _ _ => False
  | n + 1 => w_X3_digest_45_b K post (w_X3_digest_45 K post n)
def w_X3_digest_14_b (K : tK) (post : Int64 → tG → Prop) (k14 : Nat → Nat → Option Nat → Int32 → tG → Prop) (nc ns : Nat) (v0 : Option Nat) (v1 : Int32) (G : tG) : Prop := (((4 : Int32) ≤ v1 → gfR G v0 5 0 (fun x_36 => lenA G x_36 (fun x_41 => ∃ n : Nat, w_X3_digest_45 K post n nc ns v0 x_36 x_41 ((0 : Int32)) G))) ∧ (¬ (4 : Int32) ≤ v1 → ((nc + 1 ≤ 20 ∧ ns + 4 ≤ 200) ∧ rcv G v0 5 (w_X3_houseNow K (fun x_22 G_22 => rcv G_22 v0 5 (w_X3_add_ K (fun G_26 => k14 ((nc + 1)) ((ns + 4)) v0 ((v1 + (1 : Int32))) G_26) v0 (((x_22).toInt64)) G_22)) v0 v1 G))))
def w_X3_digest_14 (K : tK) (post : Int64 → tG → Prop) : Nat → Nat → Nat → Option Nat → Int32 → tG → Prop
  | 0 => fun _ _ _ _ _ => False
  | n + 1 => w_X3_digest_14_b K post (w_X3_digest_14 K post n)
def w_X3_digest (K : tK) (post : Int64 → tG → Prop) (v0 : Option Nat) (G : tG) : Prop := pfV G v0 5 6 (.int ((0 : Int32))) (fun G_2 => pfV G_2 v0 5 7 (.long ((7778 : Int64))) (fun G_9 => ∃ n : Nat, w_X3_digest_14 K post n 0 0 v0 ((0 : Int32)) G_9))
def w_X3_isSound (K : tK) (post : Int32 → tG → Prop) (v0 : Option Nat) (G : tG) : Prop := pfV G v0 5 6 (.int ((0 : Int32))) (fun G_2 => (narrow .boolean (.int (1 : Int32)) = .int (1 : Int32) ∧ post ((1 : Int32)) G_2))
def w_L_begin (K : tK) (post : Int32 → tG → Prop) (v0 : Option Nat) (v1 : Int32) (v2 : Option Nat) (G : tG) : Prop := rcv G v0 3 (w_X1_begin K (fun x_3 G_3 => pfV G_3 v2 4 0 (.long (((x_3).toInt64))) (fun G_7 => post ((0 : Int32)) G_7)) (fun E GX => ((E = "java/lang/IllegalArgumentException" → post ((1 : Int32)) GX) ∧ (¬ E = "java/lang/IllegalArgumentException" → False))) v0 v1 G)
def w_X3_isIn_15 (K : tK) (post : Int32 → tG → Prop) (u0 : Int32) (G : tG) : Prop := (narrow .boolean (.int u0) = .int u0 ∧ post u0 G)
def w_X3_isIn_14 (K : tK) (post : Int32 → tG → Prop) (G : tG) : Prop := w_X3_isIn_15 K post ((0 : Int32)) G
def w_X3_isIn (K : tK) (post : Int32 → tG → Prop) (v0 : Int32) (v1 : Int32) (v2 : Int32) (G : tG) : Prop := ((v0 < v1 → w_X3_isIn_14 K post G) ∧ (¬ v0 < v1 → ((v2 < v0 → w_X3_isIn_14 K post G) ∧ (¬ v2 < v0 → w_X3_isIn_15 K post ((1 : Int32)) G))))
def w_X3_fails_33 (K : tK) (post : Int32 → tG → Prop) (u0 : Int32) (G : tG) : Prop := (narrow .boolean (.int u0) = .int u0 ∧ post u0 G)
def w_X3_fails_18 (K : tK) (post : Int32 → tG → Prop) (v0 : Option Nat) (u0 : Option Nat) (u1 : Int32) (G : tG) : Prop := pfV G u0 5 6 (.int u1) (fun G_18 => gfI G_18 v0 5 6 (fun x_22 => ((x_22 ≤ 0 → w_X3_fails_33 K post ((0 : Int32)) G_18) ∧ (¬ x_22 ≤ 0 → w_X3_fails_33 K post ((1 : Int32)) G_18))))
def w_X3_fails (K : tK) (post : Int32 → tG → Prop) (v0 : Option Nat) (v1 : Int32) (v2 : Int32) (G : tG) : Prop := ((v1 = 0 → ((v2 = 0 → w_X3_fails_18 K post v0 v0 ((0 : Int32)) G) ∧ (¬ v2 = 0 → w_X3_fails_18 K post v0 v0 ((2 : Int32)) G))) ∧ (¬ v1 = 0 → w_X3_fails_18 K post v0 v0 ((1 : Int32)) G))
def w_X3_begin_32 (K : tK) (post : Int32 → tG → Prop) (u0 : Int32) (G : tG) : Prop := post u0 G
def w_X3_begin_16 (K : tK) (post : Int32 → tG → Prop) (v0 : Option Nat) (v1 : Int32) (u0 : Option Nat) (u1 : Int32) (G : tG) : Prop := rcv G u0 5 (w_X3_fails K (fun x_17 G_17 => ((x_17 = 0 → rcv G_17 v0 5 (w_X3_beginNow K (fun x_29 G_29 => w_X3_begin_32 K post x_29 G_29) v0 v1 G_17)) ∧ (¬ x_17 = 0 → w_X3_begin_32 K post ((0 : Int32)) G_17))) u0 u1 ((0 : Int32)) G)
def w_X3_begin (K : tK) (post : Int32 → tG → Prop) (v0 : Option Nat) (v1 : Int32) (G : tG) : Prop := w_X3_isIn K (fun x_5 G_5 => ((¬ x_5 = 0 → w_X3_begin_16 K post v0 v1 v0 ((0 : Int32)) G_5) ∧ (x_5 = 0 → w_X3_begin_16 K post v0 v1 v0 ((1 : Int32)) G_5))) v1 ((0 : Int32)) ((6 : Int32)) G
def w_L_rowOf (K : tK) (post : Int32 → tG → Prop) (v0 : Option Nat) (v1 : Int32) (v2 : Option Nat) (G : tG) : Prop := rcv G v0 3 (w_X1_rowOf K (fun x_3 G_3 => pfV G_3 v2 4 0 (.long (((x_3).toInt64))) (fun G_7 => post ((0 : Int32)) G_7)) (fun E GX => ((E = "java/lang/IllegalArgumentException" → post ((1 : Int32)) GX) ∧ (¬ E = "java/lang/IllegalArgumentException" → False))) v0 v1 G)
def w_X3_rowOf_33 (K : tK) (post : Int32 → tG → Prop) (u0 : Int32) (G : tG) : Prop := post u0 G
def w_X3_rowOf_16 (K : tK) (post : Int32 → tG → Prop) (v0 : Option Nat) (v1 : Int32) (u0 : Option Nat) (u1 : Int32) (G : tG) : Prop := rcv G u0 5 (w_X3_fails K (fun x_17 G_17 => ((x_17 = 0 → gfR G_17 v0 5 1 (fun x_28 => alI G_17 x_28 v1 .int (fun x_32 => w_X3_rowOf_33 K post x_32 G_17))) ∧ (¬ x_17 = 0 → w_X3_rowOf_33 K post ((0 : Int32)) G_17))) u0 u1 ((0 : Int32)) G)
def w_X3_rowOf (K : tK) (post : Int32 → tG → Prop) (v0 : Option Nat) (v1 : Int32) (G : tG) : Prop := w_X3_isIn K (fun x_5 G_5 => ((¬ x_5 = 0 → w_X3_rowOf_16 K post v0 v1 v0 ((0 : Int32)) G_5) ∧ (x_5 = 0 → w_X3_rowOf_16 K post v0 v1 v0 ((1 : Int32)) G_5))) v1 ((0 : Int32)) ((6 : Int32)) G
def w_L_house (K : tK) (post : Int32 → tG → Prop) (v0 : Option Nat) (v1 : Int32) (v2 : Option Nat) (G : tG) : Prop := rcv G v0 3 (w_X1_house K (fun x_3 G_3 => pfV G_3 v2 4 0 (.long (((x_3).toInt64))) (fun G_7 => post ((0 : Int32)) G_7)) (fun E GX => ((E = "java/lang/IllegalArgumentException" → post ((1 : Int32)) GX) ∧ (¬ E = "java/lang/IllegalArgumentException" → False))) v0 v1 G)
def w_X3_house_31 (K : tK) (post : Int32 → tG → Prop) (u0 : Int32) (G : tG) : Prop := post u0 G
def w_X3_house_15 (K : tK) (post : Int32 → tG → Prop) (v0 : Option Nat) (v1 : Int32) (u0 : Option Nat) (u1 : Int32) (G : tG) : Prop := rcv G u0 5 (w_X3_fails K (fun x_16 G_16 => ((x_16 = 0 → rcv G_16 v0 5 (w_X3_houseNow K (fun x_28 G_28 => w_X3_house_31 K post x_28 G_28) v0 v1 G_16)) ∧ (¬ x_16 = 0 → w_X3_house_31 K post ((0 : Int32)) G_16))) u0 u1 ((0 : Int32)) G)
def w_X3_house (K : tK) (post : Int32 → tG → Prop) (v0 : Option Nat) (v1 : Int32) (G : tG) : Prop := w_X3_isIn K (fun x_4 G_4 => ((¬ x_4 = 0 → w_X3_house_15 K post v0 v1 v0 ((0 : Int32)) G_4) ∧ (x_4 = 0 → w_X3_house_15 K post v0 v1 v0 ((1 : Int32)) G_4))) v1 ((0 : Int32)) ((3 : Int32)) G
def w_X1_knock (K : tK) (post : Int32 → tG → Prop) (v0 : Option Nat) (G : tG) : Prop := gfI G v0 3 2 (fun x_2 => pfV G v0 3 2 (.int ((x_2 + (1 : Int32)))) (fun G_7 => gfI G_7 v0 3 2 (fun x_11 => post x_11 G_7)))
def w_X3_knock (K : tK) (post : Int32 → tG → Prop) (v0 : Option Nat) (G : tG) : Prop := pfV G v0 5 6 (.int ((0 : Int32))) (fun G_2 => gfI G_2 v0 5 4 (fun x_7 => pfV G_2 v0 5 4 (.int ((x_7 + (1 : Int32)))) (fun G_12 => gfI G_12 v0 5 4 (fun x_16 => post x_16 G_12))))
def w_X1_checkPlace (K : tK) (post : tG → Prop) (postX : String → tG → Prop) (v0 : Option Nat) (v1 : Int32) (G : tG) : Prop := rcv G v0 2 (w_X0_isPlace K (fun x_2 G_2 => ((¬ x_2 = 0 → post G_2) ∧ (x_2 = 0 → postX "java/lang/IndexOutOfBoundsException" G_2))) v0 v1 G)
def w_X1_refuseIf (K : tK) (post : Int32 → tG → Prop) (v0 : Option Nat) (v1 : Int32) (G : tG) : Prop := ((¬ v1 = 0 → gfI G v0 3 3 (fun x_8 => pfV G v0 3 3 (.int ((x_8 + (1 : Int32)))) (fun G_13 => post ((-9 : Int32)) G_13))) ∧ (v1 = 0 → post ((0 : Int32)) G))
def w_X1_walkChange (K : tK) (post : Int32 → tG → Prop) (postX : String → tG → Prop) (v0 : Option Nat) (v1 : Int32) (v2 : Int32) (v3 : Int32) (G : tG) : Prop := rcv G v0 3 (w_X1_listAt K (fun x_2 G_2 => w_X1_checkPlace K (fun G_10 => w_X1_checkNumber K (fun G_16 => rcv G_16 v0 3 (w_X1_refuseIf K (fun x_21 G_21 => post x_21 G_21) v0 ((1 : Int32)) G_16)) postX v3 ((0 : Int32)) ((2 : Int32)) G_10) postX x_2 v2 G_2) postX v0 v1 G)
def w_L_walkChange (K : tK) (post : Int32 → tG → Prop) (v0 : Option Nat) (v1 : Int32) (v2 : Int32) (v3 : Int32) (v4 : Option Nat) (G : tG) : Prop := rcv G v0 3 (w_X1_walkChange K (fun x_6 G_6 => pfV G_6 v4 4 0 (.long (((x_6).toInt64))) (fun G_10 => post ((0 : Int32)) G_10)) (fun E GX => ((E = "java/lang/IndexOutOfBoundsException" → post ((1 : Int32)) GX) ∧ (¬ E = "java/lang/IndexOutOfBoundsException" → ((E = "java/lang/IllegalArgumentException" → post ((2 : Int32)) GX) ∧ (¬ E = "java/lang/IllegalArgumentException" → False))))) v0 v1 v2 v3 G)
def w_X3_isNoList_25 (K : tK) (post : Int32 → tG → Prop) (u0 : Int32) (G : tG) : Prop := (narrow .boolean (.int u0) = .int u0 ∧ post u0 G)
def w_X3_isNoList_20 (K : tK) (post : Int32 → tG → Prop) (G : tG) : Prop := w_X3_isNoList_25 K post ((1 : Int32)) G
def w_X3_isNoList (K : tK) (post : Int32 → tG → Prop) (v0 : Option Nat) (v1 : Int32) (G : tG) : Prop := w_X3_isIn K (fun x_4 G_4 => ((x_4 = 0 → w_X3_isNoList_20 K post G_4) ∧ (¬ x_4 = 0 → gfR G_4 v0 5 1 (fun x_11 => alI G_4 x_11 v1 .int (fun x_15 => ((¬ x_15 = (-1 : Int32) → w_X3_isNoList_25 K post ((0 : Int32)) G_4) ∧ (x_15 = (-1 : Int32) → w_X3_isNoList_20 K post G_4))))))) v1 ((0 : Int32)) ((6 : Int32)) G
def w_X3_isNoPlace_29 (K : tK) (post : Int32 → tG → Prop) (u0 : Int32) (G : tG) : Prop := (narrow .boolean (.int u0) = .int u0 ∧ post u0 G)
def w_X3_isNoPlace_24 (K : tK) (post : Int32 → tG → Prop) (G : tG) : Prop := w_X3_isNoPlace_29 K post ((1 : Int32)) G
def w_X3_isNoPlace (K : tK) (post : Int32 → tG → Prop) (v0 : Option Nat) (v1 : Int32) (v2 : Int32) (G : tG) : Prop := rcv G v0 5 (w_X3_isNoList K (fun x_2 G_2 => ((¬ x_2 = 0 → w_X3_isNoPlace_24 K post G_2) ∧ (x_2 = 0 → gfR G_2 v0 5 3 (fun x_11 => alI G_2 x_11 v1 .int (fun x_15 => w_X3_isIn K (fun x_18 G_18 => ((¬ x_18 = 0 → w_X3_isNoPlace_29 K post ((0 : Int32)) G_18) ∧ (x_18 = 0 → w_X3_isNoPlace_24 K post G_18))) v2 ((0 : Int32)) ((x_15 - (1 : Int32))) G_2))))) v0 v1 G)
def w_X3_refused (K : tK) (post : Int32 → tG → Prop) (v0 : Option Nat) (G : tG) : Prop := gfI G v0 5 5 (fun x_2 => pfV G v0 5 5 (.int ((x_2 + (1 : Int32)))) (fun G_7 => post ((-9 : Int32)) G_7))
def w_X3_walkChange_35 (K : tK) (post : Int32 → tG → Prop) (u0 : Int32) (G : tG) : Prop := post u0 G
def w_X3_walkChange_21 (K : tK) (post : Int32 → tG → Prop) (v0 : Option Nat) (u0 : Option Nat) (u1 : Int32) (u2 : Int32) (G : tG) : Prop := rcv G u0 5 (w_X3_fails K (fun x_21 G_21 => ((x_21 = 0 → rcv G_21 v0 5 (w_X3_refused K (fun x_32 G_32 => w_X3_walkChange_35 K post x_32 G_32) v0 G_21)) ∧ (¬ x_21 = 0 → w_X3_walkChange_35 K post ((0 : Int32)) G_21))) u0 u1 u2 G)
def w_X3_walkChange (K : tK) (post : Int32 → tG → Prop) (v0 : Option Nat) (v1 : Int32) (v2 : Int32) (v3 : Int32) (G : tG) : Prop := rcv G v0 5 (w_X3_isNoPlace K (fun x_4 G_4 => w_X3_isIn K (fun x_10 G_10 => ((¬ x_10 = 0 → w_X3_walkChange_21 K post v0 v0 x_4 ((0 : Int32)) G_10) ∧ (x_10 = 0 → w_X3_walkChange_21 K post v0 v0 x_4 ((1 : Int32)) G_10))) v3 ((0 : Int32)) ((2 : Int32)) G_4) v0 v1 v2 G)
def w_X1_clear_17 (K : tK) (post : Int32 → tG → Prop) (postX : String → tG → Prop) (u0 : Option Nat) (u1 : Int32) (G : tG) : Prop := rcv G u0 3 (w_X1_refuseIf K (fun x_17 G_17 => post x_17 G_17) u0 u1 G)
def w_X1_clear (K : tK) (post : Int32 → tG → Prop) (postX : String → tG → Prop) (v0 : Option Nat) (v1 : Int32) (G : tG) : Prop := rcv G v0 3 (w_X1_listAt K (fun x_3 G_3 => gfI G_3 x_3 2 3 (fun x_6 => ((x_6 ≤ 0 → w_X1_clear_17 K post postX v0 ((0 : Int32)) G_3) ∧ (¬ x_6 ≤ 0 → w_X1_clear_17 K post postX v0 ((1 : Int32)) G_3)))) postX v0 v1 G)
def w_L_clear (K : tK) (post : Int32 → tG → Prop) (v0 : Option Nat) (v1 : Int32) (v2 : Option Nat) (G : tG) : Prop := rcv G v0 3 (w_X1_clear K (fun x_3 G_3 => pfV G_3 v2 4 0 (.long (((x_3).toInt64))) (fun G_7 => post ((0 : Int32)) G_7)) (fun E GX => ((E = "java/lang/IndexOutOfBoundsException" → post ((1 : Int32)) GX) ∧ (¬ E = "java/lang/IndexOutOfBoundsException" → False))) v0 v1 G)
def w_X3_refusedIf_12 (K : tK) (post : Int32 → tG → Prop) (u0 : Int32) (G : tG) : Prop := post u0 G
def w_X3_refusedIf (K : tK) (post : Int32 → tG → Prop) (v0 : Option Nat) (v1 : Int32) (G : tG) : Prop := ((v1 = 0 → w_X3_refusedIf_12 K post ((0 : Int32)) G) ∧ (¬ v1 = 0 → rcv G v0 5 (w_X3_refused K (fun x_5 G_5 => w_X3_refusedIf_12 K post x_5 G_5) v0 G)))
def w_X3_clear_35 (K : tK) (post : Int32 → tG → Prop) (u0 : Int32) (G : tG) : Prop := post u0 G
def w_X3_clear_32 (K : tK) (post : Int32 → tG → Prop) (u0 : Option Nat) (u1 : Int32) (G : tG) : Prop := rcv G u0 5 (w_X3_refusedIf K (fun x_32 G_32 => w_X3_clear_35 K post x_32 G_32) u0 u1 G)
def w_X3_clear (K : tK) (post : Int32 → tG → Prop) (v0 : Option Nat) (v1 : Int32) (G : tG) : Prop := rcv G v0 5 (w_X3_isNoList K (fun x_3 G_3 => rcv G_3 v0 5 (w_X3_fails K (fun x_7 G_7 => ((x_7 = 0 → gfR G_7 v0 5 3 (fun x_19 => alI G_7 x_19 v1 .int (fun x_23 => ((x_23 ≤ 0 → w_X3_clear_32 K post v0 ((0 : Int32)) G_7) ∧ (¬ x_23 ≤ 0 → w_X3_clear_32 K post v0 ((1 : Int32)) G_7))))) ∧ (¬ x_7 = 0 → w_X3_clear_35 K post ((0 : Int32)) G_7))) v0 x_3 ((0 : Int32)) G_3)) v0 v1 G)
def w_X1_isOfTest_40 (K : tK) (post : Int32 → tG → Prop) (u0 : Int32) (G : tG) : Prop := (narrow .boolean (.int u0) = .int u0 ∧ post u0 G)
def w_X1_isOfTest_51 (K : tK) (post : Int32 → tG → Prop) (u0 : Int32) (G : tG) : Prop := (narrow .boolean (.int u0) = .int u0 ∧ post u0 G)
def w_X1_isOfTest_69 (K : tK) (post : Int32 → tG → Prop) (u0 : Int32) (G : tG) : Prop := (narrow .boolean (.int u0) = .int u0 ∧ post u0 G)
def w_X1_isOfTest_68 (K : tK) (post : Int32 → tG → Prop) (G : tG) : Prop := w_X1_isOfTest_69 K post ((0 : Int32)) G
def w_X1_isOfTest (K : tK) (post : Int32 → tG → Prop) (v0 : Int32) (v1 : Int32) (v2 : Int32) (G : tG) : Prop := ((v1 = (0 : Int32) → ((¬ v0 = (-1000 : Int32) → w_X1_isOfTest_40 K post ((0 : Int32)) G) ∧ (v0 = (-1000 : Int32) → w_X1_isOfTest_40 K post ((1 : Int32)) G))) ∧ ((v1 = (1 : Int32) → ((¬ v0 = v2 → w_X1_isOfTest_51 K post ((0 : Int32)) G) ∧ (v0 = v2 → w_X1_isOfTest_51 K post ((1 : Int32)) G))) ∧ (¬ v1 = (0 : Int32) ∧ ¬ v1 = (1 : Int32) → ((v0 = (-1000 : Int32) → w_X1_isOfTest_68 K post G) ∧ (¬ v0 = (-1000 : Int32) → ((v2 ≤ v0 → w_X1_isOfTest_68 K post G) ∧ (¬ v2 ≤ v0 → w_X1_isOfTest_69 K post ((1 : Int32)) G)))))))
def w_X1_hasOneOfTest_2_b (K : tK) (post : Int32 → tG → Prop) (k2 : Option Nat → Int32 → Int32 → Int32 → tG → Prop) (v0 : Option Nat) (v1 : Int32) (v2 : Int32) (v3 : Int32) (G : tG) : Prop := gfI G v0 2 3 (fun x_4 => ((x_4 ≤ v3 → (narrow .boolean (.int (0 : Int32)) = .int (0 : Int32) ∧ post ((0 : Int32)) G)) ∧ (¬ x_4 ≤ v3 → rcv G v0 2 (w_X0_read K (fun x_12 G_12 => w_X1_isOfTest K (fun x_17 G_17 => ((x_17 = 0 → k2 v0 v1 v2 ((v3 + (1 : Int32))) G_17) ∧ (¬ x_17 = 0 → (narrow .boolean (.int (1 : Int32)) = .int (1 : Int32) ∧ post ((1 : Int32)) G_17)))) x_12 v1 v2 G_12) v0 v3 G))))
def w_X1_hasOneOfTest_2 (K : tK) (post : Int32 → tG → Prop) : Nat → Option Nat → Int32 → Int32 → Int32 → tG → Prop
  | 0 => fun _ _ _ _ _ => False
  | n + 1 => w_X1_hasOneOfTest_2_b K post (w_X1_hasOneOfTest_2 K post n)
def w_X1_hasOneOfTest (K : tK) (post : Int32 → tG → Prop) (v0 : Option Nat) (v1 : Int32) (v2 : Int32) (G : tG) : Prop := ∃ n : Nat, w_X1_hasOneOfTest_2 K post n v0 v1 v2 ((0 : Int32)) G
def w_X1_removeIf (K : tK) (post : Int32 → tG → Prop) (postX : String → tG → Prop) (v0 : Option Nat) (v1 : Int32) (v2 : Int32) (v3 : Int32) (G : tG) : Prop := rcv G v0 3 (w_X1_listAt K (fun x_2 G_2 => w_X1_checkNumber K (fun G_10 => w_X1_checkNumber K (fun G_18 => w_X1_hasOneOfTest K (fun x_26 G_26 => rcv G_26 v0 3 (w_X1_refuseIf K (fun x_29 G_29 => post x_29 G_29) v0 x_26 G_26)) x_2 v2 v3 G_18) postX v3 ((-99 : Int32)) ((99 : Int32)) G_10) postX v2 ((0 : Int32)) ((2 : Int32)) G_2) postX v0 v1 G)
def w_L_removeIf (K : tK) (post : Int32 → tG → Prop) (v0 : Option Nat) (v1 : Int32) (v2 : Int32) (v3 : Int32) (v4 : Option Nat) (G : tG) : Prop := rcv G v0 3 (w_X1_removeIf K (fun x_6 G_6 => pfV G_6 v4 4 0 (.long (((x_6).toInt64))) (fun G_10 => post ((0 : Int32)) G_10)) (fun E GX => ((E = "java/lang/IndexOutOfBoundsException" → post ((1 : Int32)) GX) ∧ (¬ E = "java/lang/IndexOutOfBoundsException" → ((E = "java/lang/IllegalArgumentException" → post ((2 : Int32)) GX) ∧ (¬ E = "java/lang/IllegalArgumentException" → False))))) v0 v1 v2 v3 G)
def w_X3_tested_54 (K : tK) (post : Int32 → tG → Prop) (u0 : Int32) (G : tG) : Prop := (narrow .boolean (.int u0) = .int u0 ∧ post u0 G)
def w_X3_tested_53 (K : tK) (post : Int32 → tG → Prop) (G : tG) : Prop := w_X3_tested_54 K post ((0 : Int32)) G
def w_X3_tested (K : tK) (post : Int32 → tG → Prop) (v0 : Int32) (v1 : Int32) (v2 : Int32) (G : tG) : Prop := ((¬ v0 = 0 → ((¬ v0 = (1 : Int32) → ((v1 = (-1000 : Int32) → w_X3_tested_53 K post G) ∧ (¬ v1 = (-1000 : Int32) → ((v2 ≤ v1 → w_X3_tested_53 K post G) ∧ (¬ v2 ≤ v1 → w_X3_tested_54 K post ((1 : Int32)) G))))) ∧ (v0 = (1 : Int32) → ((¬ v1 = v2 → w_X3_tested_54 K post ((0 : Int32)) G) ∧ (v1 = v2 → w_X3_tested_54 K post ((1 : Int32)) G))))) ∧ (v0 = 0 → ((¬ v1 = (-1000 : Int32) → w_X3_tested_54 K post ((0 : Int32)) G) ∧ (v1 = (-1000 : Int32) → w_X3_tested_54 K post ((1 : Int32)) G))))
def w_X3_removeIf_57_b (K : tK) (post : Int32 → tG → Prop) (k57 : Option Nat → Int32 → Int32 → Int32 → Option Nat → Int32 → Int32 → tG → Prop) (v0 : Option Nat) (v2 : Int32) (v3 : Int32) (v4 : Int32) (v5 : Option Nat) (v6 : Int32) (v7 : Int32) (G : tG) : Prop := ((v6 ≤ v7 → rcv G v0 5 (w_X3_refusedIf K (fun x_92 G_92 => post x_92 G_92) v0 v4 G)) ∧ (¬ v6 ≤ v7 → alI G v5 v7 .int (fun x_68 => w_X3_tested K (fun x_77 G_77 => k57 v0 v2 v3 ((v4 ||| x_77)) v5 v6 ((v7 + (1 : Int32))) G_77) v2 x_68 v3 G)))
def w_X3_removeIf_57 (K : tK) (post : Int32 → tG → Prop) : Nat → Option Nat → Int32 → Int32 → Int32 → Option Nat → Int32 → Int32 → tG → Prop
  | 0 => fun _ _ _ _ _ _ _ _ => False
  | n + 1 => w_X3_removeIf_57_b K post (w_X3_removeIf_57 K post n)
def w_X3_removeIf_31 (K : tK) (post : Int32 → tG → Prop) (v0 : Option Nat) (v1 : Int32) (v2 : Int32) (v3 : Int32) (u0 : Option Nat) (u1 : Int32) (u2 : Int32) (G : tG) : Prop := rcv G u0 5 (w_X3_fails K (fun x_31 G_31 => ((x_31 = 0 → rcv G_31 v0 5 (w_X3_all K (fun x_44 G_44 => lenA G_44 x_44 (fun x_51 => ∃ n : Nat, w_X3_removeIf_57 K post n v0 v2 v3 ((0 : Int32)) x_44 x_51 ((0 : Int32)) G_44)) v0 v1 G_31)) ∧ (¬ x_31 = 0 → post ((0 : Int32)) G_31))) u0 u1 u2 G)
def w_X3_removeIf_26 (K : tK) (post : Int32 → tG → Prop) (v0 : Option Nat) (v1 : Int32) (v2 : Int32) (v3 : Int32) (u0 : Option Nat) (u1 : Int32) (G : tG) : Prop := w_X3_removeIf_31 K post v0 v1 v2 v3 u0 u1 ((1 : Int32)) G
def w_X3_removeIf (K : tK) (post : Int32 → tG → Prop) (v0 : Option Nat) (v1 : Int32) (v2 : Int32) (v3 : Int32) (G : tG) : Prop := rcv G v0 5 (w_X3_isNoList K (fun x_3 G_3 => w_X3_isIn K (fun x_9 G_9 => ((x_9 = 0 → w_X3_removeIf_26 K post v0 v1 v2 v3 v0 x_3 G_9) ∧ (¬ x_9 = 0 → w_X3_isIn K (fun x_20 G_20 => ((¬ x_20 = 0 → w_X3_removeIf_31 K post v0 v1 v2 v3 v0 x_3 ((0 : Int32)) G_20) ∧ (x_20 = 0 → w_X3_removeIf_26 K post v0 v1 v2 v3 v0 x_3 G_20))) v3 ((-99 : Int32)) ((99 : Int32)) G_9))) v2 ((0 : Int32)) ((2 : Int32)) G_3) v0 v1 G)
def w_X1_stands_14 (K : tK) (post : Int32 → tG → Prop) (u0 : Int32) (G : tG) : Prop := (narrow .boolean (.int u0) = .int u0 ∧ post u0 G)
def w_X1_stands (K : tK) (post : Int32 → tG → Prop) (v0 : Option Nat) (v1 : Int32) (G : tG) : Prop := w_X1_firstPlace K (fun x_2 G_2 => ((x_2 = (-1 : Int32) → w_X1_stands_14 K post ((0 : Int32)) G_2) ∧ (¬ x_2 = (-1 : Int32) → w_X1_stands_14 K post ((1 : Int32)) G_2))) v0 v1 G
def w_X1_hasOneThatStands_2_b (K : tK) (post : Int32 → tG → Prop) (k2 : Option Nat → Option Nat → Int32 → Int32 → tG → Prop) (v0 : Option Nat) (v1 : Option Nat) (v2 : Int32) (v3 : Int32) (G : tG) : Prop := gfI G v0 2 3 (fun x_4 => ((x_4 ≤ v3 → (narrow .boolean (.int (0 : Int32)) = .int (0 : Int32) ∧ post ((0 : Int32)) G)) ∧ (¬ x_4 ≤ v3 → rcv G v0 2 (w_X0_read K (fun x_13 G_13 => w_X1_stands K (fun x_16 G_16 => ((¬ x_16 = v2 → k2 v0 v1 v2 ((v3 + (1 : Int32))) G_16) ∧ (x_16 = v2 → (narrow .boolean (.int (1 : Int32)) = .int (1 : Int32) ∧ post ((1 : Int32)) G_16)))) v1 x_13 G_13) v0 v3 G))))
def w_X1_hasOneThatStands_2 (K : tK) (post : Int32 → tG → Prop) : Nat → Option Nat → Option Nat → Int32 → Int32 → tG → Prop
  | 0 => fun _ _ _ _ _ => False
  | n + 1 => w_X1_hasOneThatStands_2_b K post (w_X1_hasOneThatStands_2 K post n)
def w_X1_hasOneThatStands (K : tK) (post : Int32 → tG → Prop) (v0 : Option Nat) (v1 : Option Nat) (v2 : Int32) (G : tG) : Prop := ∃ n : Nat, w_X1_hasOneThatStands_2 K post n v0 v1 v2 ((0 : Int32)) G
def w_X1_retainAll (K : tK) (post : Int32 → tG → Prop) (postX : String → tG → Prop) (v0 : Option Nat) (v1 : Int32) (v2 : Int32) (G : tG) : Prop := rcv G v0 3 (w_X1_listAt K (fun x_2 G_2 => rcv G_2 v0 3 (w_X1_listAt K (fun x_10 G_10 => w_X1_hasOneThatStands K (fun x_14 G_14 => rcv G_14 v0 3 (w_X1_refuseIf K (fun x_17 G_17 => post x_17 G_17) v0 x_14 G_14)) x_2 x_10 ((0 : Int32)) G_10) postX v0 v2 G_2)) postX v0 v1 G)
def w_L_retainAll (K : tK) (post : Int32 → tG → Prop) (v0 : Option Nat) (v1 : Int32) (v2 : Int32) (v3 : Option Nat) (G : tG) : Prop := rcv G v0 3 (w_X1_retainAll K (fun x_4 G_4 => pfV G_4 v3 4 0 (.long (((x_4).toInt64))) (fun G_8 => post ((0 : Int32)) G_8)) (fun E GX => ((E = "java/lang/IndexOutOfBoundsException" → post ((1 : Int32)) GX) ∧ (¬ E = "java/lang/IndexOutOfBoundsException" → False))) v0 v1 v2 G)
def w_X3_isNoPair_21 (K : tK) (post : Int32 → tG → Prop) (u0 : Int32) (G : tG) : Prop := (narrow .boolean (.int u0) = .int u0 ∧ post u0 G)
def w_X3_isNoPair_16 (K : tK) (post : Int32 → tG → Prop) (G : tG) : Prop := w_X3_isNoPair_21 K post ((1 : Int32)) G
def w_X3_isNoPair (K : tK) (post : Int32 → tG → Prop) (v0 : Option Nat) (v1 : Int32) (v2 : Int32) (G : tG) : Prop := rcv G v0 5 (w_X3_isNoList K (fun x_2 G_2 => ((¬ x_2 = 0 → w_X3_isNoPair_16 K post G_2) ∧ (x_2 = 0 → rcv G_2 v0 5 (w_X3_isNoList K (fun x_10 G_10 => ((x_10 = 0 → w_X3_isNoPair_21 K post ((0 : Int32)) G_10) ∧ (¬ x_10 = 0 → w_X3_isNoPair_16 K post G_10))) v0 v2 G_2)))) v0 v1 G)
def w_X3_oftenIn_36 (K : tK) (post : Int32 → tG → Prop) (k11 : Int32 → Int32 → Option Nat → Int32 → Int32 → tG → Prop) (v1 : Int32) (v3 : Option Nat) (v4 : Int32) (v5 : Int32) (u0 : Int32) (u1 : Int32) (G : tG) : Prop := w_X3_one K (fun x_36 G_36 => k11 v1 ((u0 + x_36)) v3 v4 ((v5 + (1 : Int32))) G_36) u1 G
def w_X3_oftenIn_11_b (K : tK) (post : Int32 → tG → Prop) (k11 : Int32 → Int32 → Option Nat → Int32 → Int32 → tG → Prop) (v1 : Int32) (v2 : Int32) (v3 : Option Nat) (v4 : Int32) (v5 : Int32) (G : tG) : Prop := ((v4 ≤ v5 → post v2 G) ∧ (¬ v4 ≤ v5 → alI G v3 v5 .int (fun x_21 => ((¬ x_21 = v1 → w_X3_oftenIn_36 K post k11 v1 v3 v4 v5 v2 ((0 : Int32)) G) ∧ (x_21 = v1 → w_X3_oftenIn_36 K post k11 v1 v3 v4 v5 v2 ((1 : Int32)) G)))))
def w_X3_oftenIn_11 (K : tK) (post : Int32 → tG → Prop) : Nat → Int32 → Int32 → Option Nat → Int32 → Int32 → tG → Prop
  | 0 => fun _ _ _ _ _ _ => False
  | n + 1 => w_X3_oftenIn_11_b K post (w_X3_oftenIn_11 K post n)
def w_X3_oftenIn (K : tK) (post : Int32 → tG → Prop) (v0 : Option Nat) (v1 : Int32) (G : tG) : Prop := lenA G v0 (fun x_5 => ∃ n : Nat, w_X3_oftenIn_11 K post n v1 ((0 : Int32)) v0 x_5 ((0 : Int32)) G)
def w_X3_shared_50 (K : tK) (post : Int32 → tG → Prop) (k17 : Nat → Nat → Option Nat → Int32 → Int32 → Option Nat → Int32 → Int32 → tG → Prop) (nc ns : Nat) (v0 : Option Nat) (v2 : Int32) (v4 : Option Nat) (v5 : Int32) (v6 : Int32) (u0 : Int32) (u1 : Int32) (G : tG) : Prop := w_X3_one K (fun x_50 G_50 => k17 nc ns v0 v2 ((u0 + x_50)) v4 v5 ((v6 + (1 : Int32))) G_50) u1 G
def w_X3_shared_17_b (K : tK) (post : Int32 → tG → Prop) (k17 : Nat → Nat → Option Nat → Int32 → Int32 → Option Nat → Int32 → Int32 → tG → Prop) (nc ns : Nat) (v0 : Option Nat) (v2 : Int32) (v3 : Int32) (v4 : Option Nat) (v5 : Int32) (v6 : Int32) (G : tG) : Prop := ((v5 ≤ v6 → post v3 G) ∧ (¬ v5 ≤ v6 → alI G v4 v6 .int (fun x_28 => ((nc + 1 ≤ 13 ∧ ns + 12 ≤ 156) ∧ rcv G v0 5 (w_X3_all K (fun x_34 G_34 => w_X3_oftenIn K (fun x_39 G_39 => ((x_39 ≤ 0 → w_X3_shared_50 K post k17 ((nc + 1)) ((ns + 12)) v0 v2 v4 v5 v6 v3 ((0 : Int32)) G_39) ∧ (¬ x_39 ≤ 0 → w_X3_shared_50 K post k17 ((nc + 1)) ((ns + 12)) v0 v2 v4 v5 v6 v3 ((1 : Int32)) G_39))) x_34 x_28 G_34) v0 v2 G)))))
def w_X3_shared_17 (K : tK) (post : Int32 → tG → Prop) : Nat → Nat → Nat → Option Nat → Int32 → Int32 → Option Nat → Int32 → Int32 → tG → Prop
  | 0 => fun _ _ _ _ _ _ _ _ _ => False
  | n + 1 => w_X3_shared_17_b K post (w_X3_shared_17 K post n)
def w_X3_shared (K : tK) (post : Int32 → tG → Prop) (v0 : Option Nat) (v1 : Int32) (v2 : Int32) (G : tG) : Prop := ((0 + 1 ≤ 13 ∧ 0 + 12 ≤ 156) ∧ rcv G v0 5 (w_X3_all K (fun x_4 G_4 => lenA G_4 x_4 (fun x_11 => ∃ n : Nat, w_X3_shared_17 K post n ((0 + 1)) ((0 + 12)) v0 v2 ((0 : Int32)) x_4 x_11 ((0 : Int32)) G_4)) v0 v1 G))
def w_X3_retainAll_42 (K : tK) (post : Int32 → tG → Prop) (u0 : Int32) (G : tG) : Prop := post u0 G
def w_X3_retainAll_39 (K : tK) (post : Int32 → tG → Prop) (u0 : Option Nat) (u1 : Int32) (G : tG) : Prop := rcv G u0 5 (w_X3_refusedIf K (fun x_39 G_39 => w_X3_retainAll_42 K post x_39 G_39) u0 u1 G)
def w_X3_retainAll (K : tK) (post : Int32 → tG → Prop) (v0 : Option Nat) (v1 : Int32) (v2 : Int32) (G : tG) : Prop := rcv G v0 5 (w_X3_isNoPair K (fun x_4 G_4 => rcv G_4 v0 5 (w_X3_fails K (fun x_8 G_8 => ((x_8 = 0 → rcv G_8 v0 5 (w_X3_shared K (fun x_22 G_22 => gfR G_22 v0 5 3 (fun x_26 => alI G_22 x_26 v1 .int (fun x_30 => ((x_30 ≤ x_22 → w_X3_retainAll_39 K post v0 ((0 : Int32)) G_22) ∧ (¬ x_30 ≤ x_22 → w_X3_retainAll_39 K post v0 ((1 : Int32)) G_22))))) v0 v1 v2 G_8)) ∧ (¬ x_8 = 0 → w_X3_retainAll_42 K post ((0 : Int32)) G_8))) v0 x_4 ((0 : Int32)) G_4)) v0 v1 v2 G)
def w_X1_removeAll (K : tK) (post : Int32 → tG → Prop) (postX : String → tG → Prop) (v0 : Option Nat) (v1 : Int32) (v2 : Int32) (G : tG) : Prop := rcv G v0 3 (w_X1_listAt K (fun x_2 G_2 => rcv G_2 v0 3 (w_X1_listAt K (fun x_10 G_10 => w_X1_hasOneThatStands K (fun x_14 G_14 => rcv G_14 v0 3 (w_X1_refuseIf K (fun x_17 G_17 => post x_17 G_17) v0 x_14 G_14)) x_2 x_10 ((1 : Int32)) G_10) postX v0 v2 G_2)) postX v0 v1 G)
def w_L_removeAll (K : tK) (post : Int32 → tG → Prop) (v0 : Option Nat) (v1 : Int32) (v2 : Int32) (v3 : Option Nat) (G : tG) : Prop := rcv G v0 3 (w_X1_removeAll K (fun x_4 G_4 => pfV G_4 v3 4 0 (.long (((x_4).toInt64))) (fun G_8 => post ((0 : Int32)) G_8)) (fun E GX => ((E = "java/lang/IndexOutOfBoundsException" → post ((1 : Int32)) GX) ∧ (¬ E = "java/lang/IndexOutOfBoundsException" → False))) v0 v1 v2 G)
def w_X3_removeAll_36 (K : tK) (post : Int32 → tG → Prop) (u0 : Int32) (G : tG) : Prop := post u0 G
def w_X3_removeAll_33 (K : tK) (post : Int32 → tG → Prop) (u0 : Option Nat) (u1 : Int32) (G : tG) : Prop := rcv G u0 5 (w_X3_refusedIf K (fun x_33 G_33 => w_X3_removeAll_36 K post x_33 G_33) u0 u1 G)
def w_X3_removeAll (K : tK) (post : Int32 → tG → Prop) (v0 : Option Nat) (v1 : Int32) (v2 : Int32) (G : tG) : Prop := rcv G v0 5 (w_X3_isNoPair K (fun x_4 G_4 => rcv G_4 v0 5 (w_X3_fails K (fun x_8 G_8 => ((x_8 = 0 → rcv G_8 v0 5 (w_X3_shared K (fun x_22 G_22 => ((x_22 ≤ 0 → w_X3_removeAll_33 K post v0 ((0 : Int32)) G_22) ∧ (¬ x_22 ≤ 0 → w_X3_removeAll_33 K post v0 ((1 : Int32)) G_22))) v0 v1 v2 G_8)) ∧ (¬ x_8 = 0 → w_X3_removeAll_36 K post ((0 : Int32)) G_8))) v0 x_4 ((0 : Int32)) G_4)) v0 v1 v2 G)
def w_X1_checkValue_15 (K : tK) (post : tG → Prop) (postX : String → tG → Prop) (G : tG) : Prop := post G
def w_X1_checkValue (K : tK) (post : tG → Prop) (postX : String → tG → Prop) (v0 : Int32) (G : tG) : Prop := ((v0 = (-1000 : Int32) → w_X1_checkValue_15 K post postX G) ∧ (¬ v0 = (-1000 : Int32) → w_X1_checkNumber K (fun G_12 => w_X1_checkValue_15 K post postX G_12) postX v0 ((-99 : Int32)) ((99 : Int32)) G))
def w_X1_removeValue (K : tK) (post : Int32 → tG → Prop) (postX : String → tG → Prop) (v0 : Option Nat) (v1 : Int32) (v2 : Int32) (G : tG) : Prop := rcv G v0 3 (w_X1_listAt K (fun x_2 G_2 => w_X1_checkValue K (fun G_7 => w_X1_stands K (fun x_13 G_13 => rcv G_13 v0 3 (w_X1_refuseIf K (fun x_16 G_16 => post x_16 G_16) v0 x_13 G_13)) x_2 v2 G_7) postX v2 G_2) postX v0 v1 G)
def w_L_removeValue (K : tK) (post : Int32 → tG → Prop) (v0 : Option Nat) (v1 : Int32) (v2 : Int32) (v3 : Option Nat) (G : tG) : Prop := rcv G v0 3 (w_X1_removeValue K (fun x_4 G_4 => pfV G_4 v3 4 0 (.long (((x_4).toInt64))) (fun G_8 => post ((0 : Int32)) G_8)) (fun E GX => ((E = "java/lang/IndexOutOfBoundsException" → post ((1 : Int32)) GX) ∧ (¬ E = "java/lang/IndexOutOfBoundsException" → ((E = "java/lang/IllegalArgumentException" → post ((2 : Int32)) GX) ∧ (¬ E = "java/lang/IllegalArgumentException" → False))))) v0 v1 v2 G)
def w_X3_isNoValue_23 (K : tK) (post : Int32 → tG → Prop) (u0 : Int32) (G : tG) : Prop := (narrow .boolean (.int u0) = .int u0 ∧ post u0 G)
def w_X3_isNoValue_22 (K : tK) (post : Int32 → tG → Prop) (G : tG) : Prop := w_X3_isNoValue_23 K post ((0 : Int32)) G
def w_X3_isNoValue (K : tK) (post : Int32 → tG → Prop) (v0 : Int32) (G : tG) : Prop := ((v0 = (-1000 : Int32) → w_X3_isNoValue_22 K post G) ∧ (¬ v0 = (-1000 : Int32) → w_X3_isIn K (fun x_12 G_12 => ((¬ x_12 = 0 → w_X3_isNoValue_22 K post G_12) ∧ (x_12 = 0 → w_X3_isNoValue_23 K post ((1 : Int32)) G_12))) v0 ((-99 : Int32)) ((99 : Int32)) G))
def w_X3_removeValue_41 (K : tK) (post : Int32 → tG → Prop) (u0 : Int32) (G : tG) : Prop := post u0 G
def w_X3_removeValue_38 (K : tK) (post : Int32 → tG → Prop) (u0 : Option Nat) (u1 : Int32) (G : tG) : Prop := rcv G u0 5 (w_X3_refusedIf K (fun x_38 G_38 => w_X3_removeValue_41 K post x_38 G_38) u0 u1 G)
def w_X3_removeValue (K : tK) (post : Int32 → tG → Prop) (v0 : Option Nat) (v1 : Int32) (v2 : Int32) (G : tG) : Prop := rcv G v0 5 (w_X3_isNoList K (fun x_3 G_3 => w_X3_isNoValue K (fun x_7 G_7 => rcv G_7 v0 5 (w_X3_fails K (fun x_10 G_10 => ((x_10 = 0 → rcv G_10 v0 5 (w_X3_all K (fun x_23 G_23 => w_X3_oftenIn K (fun x_27 G_27 => ((x_27 ≤ 0 → w_X3_removeValue_38 K post v0 ((0 : Int32)) G_27) ∧ (¬ x_27 ≤ 0 → w_X3_removeValue_38 K post v0 ((1 : Int32)) G_27))) x_23 v2 G_23) v0 v1 G_10)) ∧ (¬ x_10 = 0 → w_X3_removeValue_41 K post ((0 : Int32)) G_10))) v0 x_3 x_7 G_7)) v2 G_3) v0 v1 G)
def w_X1_remove (K : tK) (post : Int32 → tG → Prop) (postX : String → tG → Prop) (v0 : Option Nat) (v1 : Int32) (v2 : Int32) (G : tG) : Prop := rcv G v0 3 (w_X1_listAt K (fun x_2 G_2 => w_X1_checkPlace K (fun G_8 => rcv G_8 v0 3 (w_X1_refuseIf K (fun x_13 G_13 => post x_13 G_13) v0 ((1 : Int32)) G_8)) postX x_2 v2 G_2) postX v0 v1 G)
def w_L_remove (K : tK) (post : Int32 → tG → Prop) (v0 : Option Nat) (v1 : Int32) (v2 : Int32) (v3 : Option Nat) (G : tG) : Prop := rcv G v0 3 (w_X1_remove K (fun x_4 G_4 => pfV G_4 v3 4 0 (.long (((x_4).toInt64))) (fun G_8 => post ((0 : Int32)) G_8)) (fun E GX => ((E = "java/lang/IndexOutOfBoundsException" → post ((1 : Int32)) GX) ∧ (¬ E = "java/lang/IndexOutOfBoundsException" → False))) v0 v1 v2 G)
def w_X3_remove_22 (K : tK) (post : Int32 → tG → Prop) (u0 : Int32) (G : tG) : Prop := post u0 G
def w_X3_remove (K : tK) (post : Int32 → tG → Prop) (v0 : Option Nat) (v1 : Int32) (v2 : Int32) (G : tG) : Prop := rcv G v0 5 (w_X3_isNoPlace K (fun x_4 G_4 => rcv G_4 v0 5 (w_X3_fails K (fun x_8 G_8 => ((x_8 = 0 → rcv G_8 v0 5 (w_X3_refused K (fun x_19 G_19 => w_X3_remove_22 K post x_19 G_19) v0 G_8)) ∧ (¬ x_8 = 0 → w_X3_remove_22 K post ((0 : Int32)) G_8))) v0 x_4 ((0 : Int32)) G_4)) v0 v1 v2 G)
def w_X1_addAll_23 (K : tK) (post : Int32 → tG → Prop) (postX : String → tG → Prop) (u0 : Option Nat) (u1 : Int32) (G : tG) : Prop := rcv G u0 3 (w_X1_refuseIf K (fun x_23 G_23 => post x_23 G_23) u0 u1 G)
def w_X1_addAll (K : tK) (post : Int32 → tG → Prop) (postX : String → tG → Prop) (v0 : Option Nat) (v1 : Int32) (v2 : Int32) (G : tG) : Prop := rcv G v0 3 (w_X1_listAt K (fun x_2 G_2 => rcv G_2 v0 3 (w_X1_listAt K (fun x_9 G_9 => gfI G_9 x_9 2 3 (fun x_12 => ((x_12 ≤ 0 → w_X1_addAll_23 K post postX v0 ((0 : Int32)) G_9) ∧ (¬ x_12 ≤ 0 → w_X1_addAll_23 K post postX v0 ((1 : Int32)) G_9)))) postX v0 v2 G_2)) postX v0 v1 G)
def w_L_addAll (K : tK) (post : Int32 → tG → Prop) (v0 : Option Nat) (v1 : Int32) (v2 : Int32) (v3 : Option Nat) (G : tG) : Prop := rcv G v0 3 (w_X1_addAll K (fun x_4 G_4 => pfV G_4 v3 4 0 (.long (((x_4).toInt64))) (fun G_8 => post ((0 : Int32)) G_8)) (fun E GX => ((E = "java/lang/IndexOutOfBoundsException" → post ((1 : Int32)) GX) ∧ (¬ E = "java/lang/IndexOutOfBoundsException" → False))) v0 v1 v2 G)
def w_X3_addAll_36 (K : tK) (post : Int32 → tG → Prop) (u0 : Int32) (G : tG) : Prop := post u0 G
def w_X3_addAll_33 (K : tK) (post : Int32 → tG → Prop) (u0 : Option Nat) (u1 : Int32) (G : tG) : Prop := rcv G u0 5 (w_X3_refusedIf K (fun x_33 G_33 => w_X3_addAll_36 K post x_33 G_33) u0 u1 G)
def w_X3_addAll (K : tK) (post : Int32 → tG → Prop) (v0 : Option Nat) (v1 : Int32) (v2 : Int32) (G : tG) : Prop := rcv G v0 5 (w_X3_isNoPair K (fun x_4 G_4 => rcv G_4 v0 5 (w_X3_fails K (fun x_8 G_8 => ((x_8 = 0 → gfR G_8 v0 5 3 (fun x_20 => alI G_8 x_20 v2 .int (fun x_24 => ((x_24 ≤ 0 → w_X3_addAll_33 K post v0 ((0 : Int32)) G_8) ∧ (¬ x_24 ≤ 0 → w_X3_addAll_33 K post v0 ((1 : Int32)) G_8))))) ∧ (¬ x_8 = 0 → w_X3_addAll_36 K post ((0 : Int32)) G_8))) v0 x_4 ((0 : Int32)) G_4)) v0 v1 v2 G)
def w_X1_addAt (K : tK) (post : Int32 → tG → Prop) (postX : String → tG → Prop) (v0 : Option Nat) (v1 : Int32) (v2 : Int32) (v3 : Int32) (G : tG) : Prop := rcv G v0 3 (w_X1_listAt K (fun x_2 G_2 => gfI G_2 x_2 2 3 (fun x_11 => w_X1_checkNumber K (fun G_14 => w_X1_checkValue K (fun G_18 => rcv G_18 v0 3 (w_X1_refuseIf K (fun x_23 G_23 => post x_23 G_23) v0 ((1 : Int32)) G_18)) postX v3 G_14) postX v2 ((0 : Int32)) x_11 G_2)) postX v0 v1 G)
def w_L_addAt (K : tK) (post : Int32 → tG → Prop) (v0 : Option Nat) (v1 : Int32) (v2 : Int32) (v3 : Int32) (v4 : Option Nat) (G : tG) : Prop := rcv G v0 3 (w_X1_addAt K (fun x_6 G_6 => pfV G_6 v4 4 0 (.long (((x_6).toInt64))) (fun G_10 => post ((0 : Int32)) G_10)) (fun E GX => ((E = "java/lang/IndexOutOfBoundsException" → post ((1 : Int32)) GX) ∧ (¬ E = "java/lang/IndexOutOfBoundsException" → ((E = "java/lang/IllegalArgumentException" → post ((2 : Int32)) GX) ∧ (¬ E = "java/lang/IllegalArgumentException" → False))))) v0 v1 v2 v3 G)
def w_X3_isBeyond_27 (K : tK) (post : Int32 → tG → Prop) (u0 : Int32) (G : tG) : Prop := (narrow .boolean (.int u0) = .int u0 ∧ post u0 G)
def w_X3_isBeyond_26 (K : tK) (post : Int32 → tG → Prop) (G : tG) : Prop := w_X3_isBeyond_27 K post ((0 : Int32)) G
def w_X3_isBeyond (K : tK) (post : Int32 → tG → Prop) (v0 : Option Nat) (v1 : Int32) (v2 : Int32) (G : tG) : Prop := rcv G v0 5 (w_X3_isNoList K (fun x_2 G_2 => ((¬ x_2 = 0 → w_X3_isBeyond_26 K post G_2) ∧ (x_2 = 0 → gfR G_2 v0 5 3 (fun x_11 => alI G_2 x_11 v1 .int (fun x_15 => w_X3_isIn K (fun x_16 G_16 => ((¬ x_16 = 0 → w_X3_isBeyond_26 K post G_16) ∧ (x_16 = 0 → w_X3_isBeyond_27 K post ((1 : Int32)) G_16))) v2 ((0 : Int32)) x_15 G_2))))) v0 v1 G)
def w_X3_addAt_41 (K : tK) (post : Int32 → tG → Prop) (u0 : Int32) (G : tG) : Prop := post u0 G
def w_X3_addAt_27 (K : tK) (post : Int32 → tG → Prop) (v0 : Option Nat) (u0 : Option Nat) (u1 : Int32) (u2 : Int32) (G : tG) : Prop := rcv G u0 5 (w_X3_fails K (fun x_27 G_27 => ((x_27 = 0 → rcv G_27 v0 5 (w_X3_refused K (fun x_38 G_38 => w_X3_addAt_41 K post x_38 G_38) v0 G_27)) ∧ (¬ x_27 = 0 → w_X3_addAt_41 K post ((0 : Int32)) G_27))) u0 u1 u2 G)
def w_X3_addAt_22 (K : tK) (post : Int32 → tG → Prop) (v0 : Option Nat) (u0 : Option Nat) (u1 : Int32) (G : tG) : Prop := w_X3_addAt_27 K post v0 u0 u1 ((1 : Int32)) G
def w_X3_addAt (K : tK) (post : Int32 → tG → Prop) (v0 : Option Nat) (v1 : Int32) (v2 : Int32) (v3 : Int32) (G : tG) : Prop := rcv G v0 5 (w_X3_isNoList K (fun x_3 G_3 => rcv G_3 v0 5 (w_X3_isBeyond K (fun x_9 G_9 => ((¬ x_9 = 0 → w_X3_addAt_22 K post v0 v0 x_3 G_9) ∧ (x_9 = 0 → w_X3_isNoValue K (fun x_16 G_16 => ((x_16 = 0 → w_X3_addAt_27 K post v0 v0 x_3 ((0 : Int32)) G_16) ∧ (¬ x_16 = 0 → w_X3_addAt_22 K post v0 v0 x_3 G_16))) v3 G_9))) v0 v1 v2 G_3)) v0 v1 G)
def w_X1_add (K : tK) (post : Int32 → tG → Prop) (postX : String → tG → Prop) (v0 : Option Nat) (v1 : Int32) (v2 : Int32) (G : tG) : Prop := rcv G v0 3 (w_X1_listAt K (fun x_2 G_2 => w_X1_checkValue K (fun G_7 => rcv G_7 v0 3 (w_X1_refuseIf K (fun x_12 G_12 => post x_12 G_12) v0 ((1 : Int32)) G_7)) postX v2 G_2) postX v0 v1 G)
def w_L_add (K : tK) (post : Int32 → tG → Prop) (v0 : Option Nat) (v1 : Int32) (v2 : Int32) (v3 : Option Nat) (G : tG) : Prop := rcv G v0 3 (w_X1_add K (fun x_4 G_4 => pfV G_4 v3 4 0 (.long (((x_4).toInt64))) (fun G_8 => post ((0 : Int32)) G_8)) (fun E GX => ((E = "java/lang/IndexOutOfBoundsException" → post ((1 : Int32)) GX) ∧ (¬ E = "java/lang/IndexOutOfBoundsException" → ((E = "java/lang/IllegalArgumentException" → post ((2 : Int32)) GX) ∧ (¬ E = "java/lang/IllegalArgumentException" → False))))) v0 v1 v2 G)
def w_X3_add_24 (K : tK) (post : Int32 → tG → Prop) (u0 : Int32) (G : tG) : Prop := post u0 G
def w_X3_add (K : tK) (post : Int32 → tG → Prop) (v0 : Option Nat) (v1 : Int32) (v2 : Int32) (G : tG) : Prop := rcv G v0 5 (w_X3_isNoList K (fun x_3 G_3 => w_X3_isNoValue K (fun x_7 G_7 => rcv G_7 v0 5 (w_X3_fails K (fun x_10 G_10 => ((x_10 = 0 → rcv G_10 v0 5 (w_X3_refused K (fun x_21 G_21 => w_X3_add_24 K post x_21 G_21) v0 G_10)) ∧ (¬ x_10 = 0 → w_X3_add_24 K post ((0 : Int32)) G_10))) v0 x_3 x_7 G_7)) v2 G_3) v0 v1 G)
def w_X0_exchange (K : tK) (post : tG → Prop) (v0 : Option Nat) (v1 : Int32) (v2 : Int32) (G : tG) : Prop := rcv G v0 2 (w_X0_read K (fun x_6 G_6 => rcv G_6 v0 2 (w_X0_write K (fun x_9 G_9 => rcv G_9 v0 2 (w_X0_write K (fun x_12 G_12 => post G_12) v0 v2 x_9 G_9)) v0 v1 x_6 G_6)) v0 v2 G)
def w_X1_swap_39 (K : tK) (post : Int32 → tG → Prop) (postX : String → tG → Prop) (v2 : Int32) (v3 : Int32) (v4 : Option Nat) (u0 : Int32) (G : tG) : Prop := rcv G v4 2 (w_X0_exchange K (fun G_45 => post u0 G_45) v4 v2 v3 G)
def w_X1_swap (K : tK) (post : Int32 → tG → Prop) (postX : String → tG → Prop) (v0 : Option Nat) (v1 : Int32) (v2 : Int32) (v3 : Int32) (G : tG) : Prop := rcv G v0 3 (w_X1_listAt K (fun x_2 G_2 => w_X1_checkPlace K (fun G_10 => w_X1_checkPlace K (fun G_16 => rcv G_16 x_2 2 (w_X0_read K (fun x_22 G_22 => rcv G_22 x_2 2 (w_X0_read K (fun x_28 G_28 => ((¬ x_22 = x_28 → w_X1_swap_39 K post postX v2 v3 x_2 ((1 : Int32)) G_28) ∧ (x_22 = x_28 → w_X1_swap_39 K post postX v2 v3 x_2 ((0 : Int32)) G_28))) x_2 v3 G_22)) x_2 v2 G_16)) postX x_2 v3 G_10) postX x_2 v2 G_2) postX v0 v1 G)
def w_L_swap (K : tK) (post : Int32 → tG → Prop) (v0 : Option Nat) (v1 : Int32) (v2 : Int32) (v3 : Int32) (v4 : Option Nat) (G : tG) : Prop := rcv G v0 3 (w_X1_swap K (fun x_6 G_6 => pfV G_6 v4 4 0 (.long (((x_6).toInt64))) (fun G_10 => post ((0 : Int32)) G_10)) (fun E GX => ((E = "java/lang/IndexOutOfBoundsException" → post ((1 : Int32)) GX) ∧ (¬ E = "java/lang/IndexOutOfBoundsException" → False))) v0 v1 v2 v3 G)
def w_X3_write (K : tK) (post : tG → Prop) (v0 : Option Nat) (v1 : Int32) (v2 : Int32) (v3 : Int32) (G : tG) : Prop := gfR G v0 5 0 (fun x_1 => gfR G v0 5 1 (fun x_5 => alI G x_5 v1 .int (fun x_9 => alR G x_1 x_9 (.array .int) (fun x_10 => gfR G v0 5 2 (fun x_12 => alI G x_12 v1 .int (fun x_16 => asI G x_10 (x_16 + v2) .int v3 (fun G_20 => post G_20)))))))
def w_X3_swap_77 (K : tK) (post : Int32 → tG → Prop) (u0 : Int32) (G : tG) : Prop := w_X3_one K (fun x_77 G_77 => post x_77 G_77) u0 G
def w_X3_swap_24 (K : tK) (post : Int32 → tG → Prop) (v0 : Option Nat) (v1 : Int32) (v2 : Int32) (v3 : Int32) (u0 : Option Nat) (u1 : Int32) (G : tG) : Prop := rcv G u0 5 (w_X3_fails K (fun x_25 G_25 => ((x_25 = 0 → rcv G_25 v0 5 (w_X3_value K (fun x_36 G_36 => rcv G_36 v0 5 (w_X3_value K (fun x_44 G_44 => rcv G_44 v0 5 (w_X3_write K (fun G_54 => rcv G_54 v0 5 (w_X3_write K (fun G_62 => ((x_36 = x_44 → w_X3_swap_77 K post ((0 : Int32)) G_62) ∧ (¬ x_36 = x_44 → w_X3_swap_77 K post ((1 : Int32)) G_62))) v0 v1 v3 x_36 G_54)) v0 v1 v2 x_44 G_44)) v0 v1 v3 G_36)) v0 v1 v2 G_25)) ∧ (¬ x_25 = 0 → post ((0 : Int32)) G_25))) u0 u1 ((0 : Int32)) G)
def w_X3_swap_19 (K : tK) (post : Int32 → tG → Prop) (v0 : Option Nat) (v1 : Int32) (v2 : Int32) (v3 : Int32) (u0 : Option Nat) (G : tG) : Prop := w_X3_swap_24 K post v0 v1 v2 v3 u0 ((1 : Int32)) G
def w_X3_swap (K : tK) (post : Int32 → tG → Prop) (v0 : Option Nat) (v1 : Int32) (v2 : Int32) (v3 : Int32) (G : tG) : Prop := rcv G v0 5 (w_X3_isNoPlace K (fun x_4 G_4 => ((¬ x_4 = 0 → w_X3_swap_19 K post v0 v1 v2 v3 v0 G_4) ∧ (x_4 = 0 → rcv G_4 v0 5 (w_X3_isNoPlace K (fun x_13 G_13 => ((x_13 = 0 → w_X3_swap_24 K post v0 v1 v2 v3 v0 ((0 : Int32)) G_13) ∧ (¬ x_13 = 0 → w_X3_swap_19 K post v0 v1 v2 v3 v0 G_13))) v0 v1 v3 G_4)))) v0 v1 v2 G)
def w_J9_floorMod_7cf53_18 (K : tK) (post : Int32 → tG → Prop) (v2 : Int32) (G : tG) : Prop := post v2 G
def w_J9_floorMod_7cf53 (K : tK) (post : Int32 → tG → Prop) (v0 : Int32) (v1 : Int32) (G : tG) : Prop := (¬ v1 = 0 ∧ ((0 ≤ (v0 ^^^ v1) → w_J9_floorMod_7cf53_18 K post ((v0 - v0 / v1 * v1)) G) ∧ (¬ 0 ≤ (v0 ^^^ v1) → (((v0 - v0 / v1 * v1) = 0 → w_J9_floorMod_7cf53_18 K post ((v0 - v0 / v1 * v1)) G) ∧ (¬ (v0 - v0 / v1 * v1) = 0 → post (((v0 - v0 / v1 * v1) + v1)) G)))))
def w_X1_turn_7_b (K : tK) (post : tG → Prop) (k7 : Option Nat → Int32 → Int32 → tG → Prop) (v0 : Option Nat) (v3 : Int32) (v4 : Int32) (G : tG) : Prop := ((v3 ≤ v4 → post G) ∧ (¬ v3 ≤ v4 → rcv G v0 2 (w_X0_exchange K (fun G_17 => k7 v0 ((v3 + (-1 : Int32))) ((v4 + (1 : Int32))) G_17) v0 v4 v3 G)))
def w_X1_turn_7 (K : tK) (post : tG → Prop) : Nat → Option Nat → Int32 → Int32 → tG → Prop
  | 0 => fun _ _ _ _ => False
  | n + 1 => w_X1_turn_7_b K post (w_X1_turn_7 K post n)
def w_X1_turn (K : tK) (post : tG → Prop) (v0 : Option Nat) (v1 : Int32) (v2 : Int32) (G : tG) : Prop := ∃ n : Nat, w_X1_turn_7 K post n v0 ((v2 - (1 : Int32))) v1 G
def w_X1_rotate_57 (K : tK) (post : Int32 → tG → Prop) (postX : String → tG → Prop) (v3 : Option Nat) (G : tG) : Prop := gfI G v3 2 3 (fun x_58 => post x_58 G)
def w_X1_rotate (K : tK) (post : Int32 → tG → Prop) (postX : String → tG → Prop) (v0 : Option Nat) (v1 : Int32) (v2 : Int32) (G : tG) : Prop := rcv G v0 3 (w_X1_listAt K (fun x_2 G_2 => w_X1_checkNumber K (fun G_11 => gfI G_11 x_2 2 3 (fun x_15 => ((x_15 ≤ 0 → w_X1_rotate_57 K post postX x_2 G_11) ∧ (¬ x_15 ≤ 0 → gfI G_11 x_2 2 3 (fun x_23 => w_J9_floorMod_7cf53 K (fun x_26 G_26 => gfI G_26 x_2 2 3 (fun x_34 => w_X1_turn K (fun G_37 => w_X1_turn K (fun G_44 => gfI G_44 x_2 2 3 (fun x_51 => w_X1_turn K (fun G_54 => w_X1_rotate_57 K post postX x_2 G_54) x_2 x_26 x_51 G_44)) x_2 ((0 : Int32)) x_26 G_37) x_2 ((0 : Int32)) x_34 G_26)) v2 x_23 G_11))))) postX v2 ((-99 : Int32)) ((99 : Int32)) G_2) postX v0 v1 G)
def w_L_rotate (K : tK) (post : Int32 → tG → Prop) (v0 : Option Nat) (v1 : Int32) (v2 : Int32) (v3 : Option Nat) (G : tG) : Prop := rcv G v0 3 (w_X1_rotate K (fun x_4 G_4 => pfV G_4 v3 4 0 (.long (((x_4).toInt64))) (fun G_8 => post ((0 : Int32)) G_8)) (fun E GX => ((E = "java/lang/IndexOutOfBoundsException" → post ((1 : Int32)) GX) ∧ (¬ E = "java/lang/IndexOutOfBoundsException" → ((E = "java/lang/IllegalArgumentException" → post ((2 : Int32)) GX) ∧ (¬ E = "java/lang/IllegalArgumentException" → False))))) v0 v1 v2 G)
def w_X3_rotate_39_b (K : tK) (post : Int32 → tG → Prop) (k39 : Option Nat → Int32 → Int32 → Option Nat → Int32 → tG → Prop) (v0 : Option Nat) (v1 : Int32) (v2 : Int32) (v3 : Option Nat) (v4 : Int32) (G : tG) : Prop := lenA G v3 (fun x_42 => ((x_42 ≤ v4 → lenA G v3 (fun x_75 => post x_75 G)) ∧ (¬ x_42 ≤ v4 → lenA G v3 (fun x_53 => (¬ x_53 = 0 ∧ lenA G v3 (fun x_56 => lenA G v3 (fun x_59 => (¬ x_59 = 0 ∧ alI G v3 v4 .int (fun x_64 => rcv G v0 5 (w_X3_write K (fun G_65 => k39 v0 v1 v2 v3 ((v4 + (1 : Int32))) G_65) v0 v1 (((((v4 + v2) - (v4 + v2) / x_53 * x_53) + x_56) - (((v4 + v2) - (v4 + v2) / x_53 * x_53) + x_56) / x_59 * x_59)) x_64 G))))))))))
def w_X3_rotate_39 (K : tK) (post : Int32 → tG → Prop) : Nat → Option Nat → Int32 → Int32 → Option Nat → Int32 → tG → Prop
  | 0 => fun _ _ _ _ _ _ => False
  | n + 1 => w_X3_rotate_39_b K post (w_X3_rotate_39 K post n)
def w_X3_rotate_22 (K : tK) (post : Int32 → tG → Prop) (v0 : Option Nat) (v1 : Int32) (v2 : Int32) (u0 : Option Nat) (u1 : Int32) (u2 : Int32) (G : tG) : Prop := rcv G u0 5 (w_X3_fails K (fun x_22 G_22 => ((x_22 = 0 → rcv G_22 v0 5 (w_X3_all K (fun x_32 G_32 => ∃ n : Nat, w_X3_rotate_39 K post n v0 v1 v2 x_32 ((0 : Int32)) G_32) v0 v1 G_22)) ∧ (¬ x_22 = 0 → post ((0 : Int32)) G_22))) u0 u1 u2 G)
def w_X3_rotate (K : tK) (post : Int32 → tG → Prop) (v0 : Option Nat) (v1 : Int32) (v2 : Int32) (G : tG) : Prop := rcv G v0 5 (w_X3_isNoList K (fun x_3 G_3 => w_X3_isIn K (fun x_11 G_11 => ((¬ x_11 = 0 → w_X3_rotate_22 K post v0 v1 v2 v0 x_3 ((0 : Int32)) G_11) ∧ (x_11 = 0 → w_X3_rotate_22 K post v0 v1 v2 v0 x_3 ((1 : Int32)) G_11))) v2 ((-99 : Int32)) ((99 : Int32)) G_3) v0 v1 G)
def w_X1_reverse (K : tK) (post : Int32 → tG → Prop) (postX : String → tG → Prop) (v0 : Option Nat) (v1 : Int32) (G : tG) : Prop := rcv G v0 3 (w_X1_listAt K (fun x_2 G_2 => gfI G_2 x_2 2 3 (fun x_9 => w_X1_turn K (fun G_12 => gfI G_12 x_2 2 3 (fun x_16 => post x_16 G_12)) x_2 ((0 : Int32)) x_9 G_2)) postX v0 v1 G)
def w_L_reverse (K : tK) (post : Int32 → tG → Prop) (v0 : Option Nat) (v1 : Int32) (v2 : Option Nat) (G : tG) : Prop := rcv G v0 3 (w_X1_reverse K (fun x_3 G_3 => pfV G_3 v2 4 0 (.long (((x_3).toInt64))) (fun G_7 => post ((0 : Int32)) G_7)) (fun E GX => ((E = "java/lang/IndexOutOfBoundsException" → post ((1 : Int32)) GX) ∧ (¬ E = "java/lang/IndexOutOfBoundsException" → False))) v0 v1 G)
def w_X3_reverse_23_b (K : tK) (post : Int32 → tG → Prop) (k23 : Option Nat → Int32 → Option Nat → Int32 → tG → Prop) (v0 : Option Nat) (v1 : Int32) (v2 : Option Nat) (v3 : Int32) (G : tG) : Prop := lenA G v2 (fun x_25 => ((x_25 ≤ v3 → lenA G v2 (fun x_50 => post x_50 G)) ∧ (¬ x_25 ≤ v3 → lenA G v2 (fun x_32 => alI G v2 v3 .int (fun x_39 => rcv G v0 5 (w_X3_write K (fun G_40 => k23 v0 v1 v2 ((v3 + (1 : Int32))) G_40) v0 v1 (((x_32 - (1 : Int32)) - v3)) x_39 G))))))
def w_X3_reverse_23 (K : tK) (post : Int32 → tG → Prop) : Nat → Option Nat → Int32 → Option Nat → Int32 → tG → Prop
  | 0 => fun _ _ _ _ _ => False
  | n + 1 => w_X3_reverse_23_b K post (w_X3_reverse_23 K post n)
def w_X3_reverse (K : tK) (post : Int32 → tG → Prop) (v0 : Option Nat) (v1 : Int32) (G : tG) : Prop := rcv G v0 5 (w_X3_isNoList K (fun x_3 G_3 => rcv G_3 v0 5 (w_X3_fails K (fun x_7 G_7 => ((x_7 = 0 → rcv G_7 v0 5 (w_X3_all K (fun x_17 G_17 => ∃ n : Nat, w_X3_reverse_23 K post n v0 v1 x_17 ((0 : Int32)) G_17) v0 v1 G_7)) ∧ (¬ x_7 = 0 → post ((0 : Int32)) G_7))) v0 x_3 ((0 : Int32)) G_3)) v0 v1 G)
def w_J6_compare_7cf53_19 (K : tK) (post : Int32 → tG → Prop) (u0 : Int32) (G : tG) : Prop := post u0 G
def w_J6_compare_7cf53 (K : tK) (post : Int32 → tG → Prop) (v0 : Int32) (v1 : Int32) (G : tG) : Prop := ((v1 ≤ v0 → ((¬ v0 = v1 → w_J6_compare_7cf53_19 K post ((1 : Int32)) G) ∧ (v0 = v1 → w_J6_compare_7cf53_19 K post ((0 : Int32)) G))) ∧ (¬ v1 ≤ v0 → w_J6_compare_7cf53_19 K post ((-1 : Int32)) G))
def w_X1_sink_40 (K : tK) (post : tG → Prop) (G : tG) : Prop := post G
def w_X1_sink_41 (K : tK) (post : tG → Prop) (k2 : Option Nat → Int32 → Int32 → tG → Prop) (v0 : Option Nat) (v2 : Int32) (v3 : Int32) (G : tG) : Prop := rcv G v0 2 (w_X0_exchange K (fun G_46 => k2 v0 v2 ((v3 + (-1 : Int32))) G_46) v0 v3 ((v3 - (1 : Int32))) G)
def w_X1_sink_2_b (K : tK) (post : tG → Prop) (k2 : Option Nat → Int32 → Int32 → tG → Prop) (v0 : Option Nat) (v2 : Int32) (v3 : Int32) (G : tG) : Prop := ((v3 ≤ 0 → post G) ∧ (¬ v3 ≤ 0 → rcv G v0 2 (w_X0_read K (fun x_8 G_8 => rcv G_8 v0 2 (w_X0_read K (fun x_15 G_15 => w_J6_compare_7cf53 K (fun x_18 G_18 => ((v2 = 0 → ((x_18 < 0 → w_X1_sink_41 K post k2 v0 v2 v3 G_18) ∧ (¬ x_18 < 0 → w_X1_sink_40 K post G_18))) ∧ (¬ v2 = 0 → ((0 < x_18 → w_X1_sink_41 K post k2 v0 v2 v3 G_18) ∧ (¬ 0 < x_18 → w_X1_sink_40 K post G_18))))) x_8 x_15 G_15) v0 ((v3 - (1 : Int32))) G_8)) v0 v3 G)))
def w_X1_sink_2 (K : tK) (post : tG → Prop) : Nat → Option Nat → Int32 → Int32 → tG → Prop
  | 0 => fun _ _ _ _ => False
  | n + 1 => w_X1_sink_2_b K post (w_X1_sink_2 K post n)
def w_X1_sink (K : tK) (post : tG → Prop) (v0 : Option Nat) (v1 : Int32) (v2 : Int32) (G : tG) : Prop := ∃ n : Nat, w_X1_sink_2 K post n v0 v2 v1 G
def w_X1_sort_9_b (K : tK) (post : Int32 → tG → Prop) (postX : String → tG → Prop) (k9 : Int32 → Option Nat → Int32 → tG → Prop) (v2 : Int32) (v3 : Option Nat) (v4 : Int32) (G : tG) : Prop := gfI G v3 2 3 (fun x_12 => ((x_12 ≤ v4 → gfI G v3 2 3 (fun x_32 => post x_32 G)) ∧ (¬ x_12 ≤ v4 → w_X1_sink K (fun G_22 => k9 v2 v3 ((v4 + (1 : Int32))) G_22) v3 v4 v2 G)))
def w_X1_sort_9 (K : tK) (post : Int32 → tG → Prop) (postX : String → tG → Prop) : Nat → Int32 → Option Nat → Int32 → tG → Prop
  | 0 => fun _ _ _ _ => False
  | n + 1 => w_X1_sort_9_b K post postX (w_X1_sort_9 K post postX n)
def w_X1_sort (K : tK) (post : Int32 → tG → Prop) (postX : String → tG → Prop) (v0 : Option Nat) (v1 : Int32) (v2 : Int32) (G : tG) : Prop := rcv G v0 3 (w_X1_twinAt K (fun x_2 G_2 => ∃ n : Nat, w_X1_sort_9 K post postX n v2 x_2 ((1 : Int32)) G_2) postX v0 v1 G)
def w_L_sort (K : tK) (post : Int32 → tG → Prop) (v0 : Option Nat) (v1 : Int32) (v2 : Int32) (v3 : Option Nat) (G : tG) : Prop := rcv G v0 3 (w_X1_sort K (fun x_4 G_4 => pfV G_4 v3 4 0 (.long (((x_4).toInt64))) (fun G_8 => post ((0 : Int32)) G_8)) (fun E GX => ((E = "java/lang/IndexOutOfBoundsException" → post ((1 : Int32)) GX) ∧ (¬ E = "java/lang/IndexOutOfBoundsException" → False))) v0 v1 v2 G)
def w_X3_sort_76 (K : tK) (post : Int32 → tG → Prop) (k38 : Option Nat → Int32 → Int32 → Option Nat → Int32 → Int32 → tG → Prop) (k53 : Option Nat → Int32 → Int32 → Option Nat → Int32 → Int32 → Int32 → tG → Prop) (v0 : Option Nat) (v1 : Int32) (v2 : Int32) (v3 : Option Nat) (v4 : Int32) (v5 : Int32) (v6 : Int32) (u0 : Option Nat) (u1 : Int32) (u2 : Int32) (G : tG) : Prop := rcv G u0 5 (w_X3_write K (fun G_78 => k53 v0 v1 v2 v3 ((v4 + (1 : Int32))) v5 ((v6 + (-1 : Int32))) G_78) u0 u1 u2 v5 G)
def w_X3_sort_53_b (K : tK) (post : Int32 → tG → Prop) (k38 : Option Nat → Int32 → Int32 → Option Nat → Int32 → Int32 → tG → Prop) (k53 : Option Nat → Int32 → Int32 → Option Nat → Int32 → Int32 → Int32 → tG → Prop) (v0 : Option Nat) (v1 : Int32) (v2 : Int32) (v3 : Option Nat) (v4 : Int32) (v5 : Int32) (v6 : Int32) (G : tG) : Prop := ((v6 ≤ 0 → k38 v0 v1 v2 v3 v4 ((v5 + (1 : Int32))) G) ∧ (¬ v6 ≤ 0 → ((v2 = 0 → w_X3_sort_76 K post k38 k53 v0 v1 v2 v3 v4 v5 v6 v0 v1 v4 G) ∧ (¬ v2 = 0 → lenA G v3 (fun x_65 => w_X3_sort_76 K post k38 k53 v0 v1 v2 v3 v4 v5 v6 v0 v1 (((x_65 - (1 : Int32)) - v4)) G)))))
def w_X3_sort_53 (K : tK) (post : Int32 → tG → Prop) (k38 : Option Nat → Int32 → Int32 → Option Nat → Int32 → Int32 → tG → Prop) : Nat → Option Nat → Int32 → Int32 → Option Nat → Int32 → Int32 → Int32 → tG → Prop
  | 0 => fun _ _ _ _ _ _ _ _ => False
  | n + 1 => w_X3_sort_53_b K post k38 (w_X3_sort_53 K post k38 n)
def w_X3_sort_38_b (K : tK) (post : Int32 → tG → Prop) (k38 : Option Nat → Int32 → Int32 → Option Nat → Int32 → Int32 → tG → Prop) (v0 : Option Nat) (v1 : Int32) (v2 : Int32) (v3 : Option Nat) (v4 : Int32) (v5 : Int32) (G : tG) : Prop := (((99 : Int32) < v5 → lenA G v3 (fun x_97 => post x_97 G)) ∧ (¬ (99 : Int32) < v5 → w_X3_oftenIn K (fun x_48 G_48 => ∃ n : Nat, w_X3_sort_53 K post k38 n v0 v1 v2 v3 v4 v5 x_48 G_48) v3 v5 G))
def w_X3_sort_38 (K : tK) (post : Int32 → tG → Prop) : Nat → Option Nat → Int32 → Int32 → Option Nat → Int32 → Int32 → tG → Prop
  | 0 => fun _ _ _ _ _ _ _ => False
  | n + 1 => w_X3_sort_38_b K post (w_X3_sort_38 K post n)
def w_X3_sort_15 (K : tK) (post : Int32 → tG → Prop) (v0 : Option Nat) (v1 : Int32) (v2 : Int32) (u0 : Option Nat) (u1 : Int32) (G : tG) : Prop := rcv G u0 5 (w_X3_fails K (fun x_16 G_16 => ((x_16 = 0 → rcv G_16 v0 5 (w_X3_all K (fun x_26 G_26 => ∃ n : Nat, w_X3_sort_38 K post n v0 v1 v2 x_26 ((0 : Int32)) ((-1000 : Int32)) G_26) v0 v1 G_16)) ∧ (¬ x_16 = 0 → post ((0 : Int32)) G_16))) u0 u1 ((0 : Int32)) G)
def w_X3_sort (K : tK) (post : Int32 → tG → Prop) (v0 : Option Nat) (v1 : Int32) (v2 : Int32) (G : tG) : Prop := w_X3_isIn K (fun x_4 G_4 => ((¬ x_4 = 0 → w_X3_sort_15 K post v0 v1 v2 v0 ((0 : Int32)) G_4) ∧ (x_4 = 0 → w_X3_sort_15 K post v0 v1 v2 v0 ((1 : Int32)) G_4))) v1 ((0 : Int32)) ((2 : Int32)) G
def w_X1_writeAll_2_b (K : tK) (post : tG → Prop) (k2 : Option Nat → Int32 → Int32 → tG → Prop) (v0 : Option Nat) (v1 : Int32) (v2 : Int32) (G : tG) : Prop := gfI G v0 2 3 (fun x_4 => ((x_4 ≤ v2 → post G) ∧ (¬ x_4 ≤ v2 → rcv G v0 2 (w_X0_write K (fun x_13 G_13 => k2 v0 v1 ((v2 + (1 : Int32))) G_13) v0 v2 v1 G))))
def w_X1_writeAll_2 (K : tK) (post : tG → Prop) : Nat → Option Nat → Int32 → Int32 → tG → Prop
  | 0 => fun _ _ _ _ => False
  | n + 1 => w_X1_writeAll_2_b K post (w_X1_writeAll_2 K post n)
def w_X1_writeAll (K : tK) (post : tG → Prop) (v0 : Option Nat) (v1 : Int32) (G : tG) : Prop := ∃ n : Nat, w_X1_writeAll_2 K post n v0 v1 ((0 : Int32)) G
def w_X1_fill (K : tK) (post : Int32 → tG → Prop) (postX : String → tG → Prop) (v0 : Option Nat) (v1 : Int32) (v2 : Int32) (G : tG) : Prop := rcv G v0 3 (w_X1_listAt K (fun x_2 G_2 => w_X1_checkValue K (fun G_7 => w_X1_writeAll K (fun G_12 => gfI G_12 x_2 2 3 (fun x_16 => post x_16 G_12)) x_2 v2 G_7) postX v2 G_2) postX v0 v1 G)
def w_L_fill (K : tK) (post : Int32 → tG → Prop) (v0 : Option Nat) (v1 : Int32) (v2 : Int32) (v3 : Option Nat) (G : tG) : Prop := rcv G v0 3 (w_X1_fill K (fun x_4 G_4 => pfV G_4 v3 4 0 (.long (((x_4).toInt64))) (fun G_8 => post ((0 : Int32)) G_8)) (fun E GX => ((E = "java/lang/IndexOutOfBoundsException" → post ((1 : Int32)) GX) ∧ (¬ E = "java/lang/IndexOutOfBoundsException" → ((E = "java/lang/IllegalArgumentException" → post ((2 : Int32)) GX) ∧ (¬ E = "java/lang/IllegalArgumentException" → False))))) v0 v1 v2 G)
def w_X3_fill_20_b (K : tK) (post : Int32 → tG → Prop) (k20 : Option Nat → Int32 → Int32 → Int32 → tG → Prop) (v0 : Option Nat) (v1 : Int32) (v2 : Int32) (v3 : Int32) (G : tG) : Prop := gfR G v0 5 3 (fun x_22 => alI G x_22 v1 .int (fun x_26 => ((x_26 ≤ v3 → gfR G v0 5 3 (fun x_44 => alI G x_44 v1 .int (fun x_48 => post x_48 G))) ∧ (¬ x_26 ≤ v3 → rcv G v0 5 (w_X3_write K (fun G_34 => k20 v0 v1 v2 ((v3 + (1 : Int32))) G_34) v0 v1 v3 v2 G)))))
def w_X3_fill_20 (K : tK) (post : Int32 → tG → Prop) : Nat → Option Nat → Int32 → Int32 → Int32 → tG → Prop
  | 0 => fun _ _ _ _ _ => False
  | n + 1 => w_X3_fill_20_b K post (w_X3_fill_20 K post n)
def w_X3_fill (K : tK) (post : Int32 → tG → Prop) (v0 : Option Nat) (v1 : Int32) (v2 : Int32) (G : tG) : Prop := rcv G v0 5 (w_X3_isNoList K (fun x_3 G_3 => w_X3_isNoValue K (fun x_7 G_7 => rcv G_7 v0 5 (w_X3_fails K (fun x_10 G_10 => ((x_10 = 0 → ∃ n : Nat, w_X3_fill_20 K post n v0 v1 v2 ((0 : Int32)) G_10) ∧ (¬ x_10 = 0 → post ((0 : Int32)) G_10))) v0 x_3 x_7 G_7)) v2 G_3) v0 v1 G)
def w_X1_replaceOld_54 (K : tK) (post : Int32 → tG → Prop) (postX : String → tG → Prop) (k21 : Int32 → Int32 → Option Nat → Int32 → Int32 → tG → Prop) (v2 : Int32) (v3 : Int32) (v4 : Option Nat) (v5 : Int32) (v6 : Int32) (G : tG) : Prop := k21 v2 v3 v4 v5 ((v6 + (1 : Int32))) G
def w_X1_replaceOld_21_b (K : tK) (post : Int32 → tG → Prop) (postX : String → tG → Prop) (k21 : Int32 → Int32 → Option Nat → Int32 → Int32 → tG → Prop) (v2 : Int32) (v3 : Int32) (v4 : Option Nat) (v5 : Int32) (v6 : Int32) (G : tG) : Prop := gfI G v4 2 3 (fun x_25 => ((x_25 ≤ v6 → post v5 G) ∧ (¬ x_25 ≤ v6 → rcv G v4 2 (w_X0_read K (fun x_35 G_35 => ((¬ x_35 = v2 → w_X1_replaceOld_54 K post postX k21 v2 v3 v4 v5 v6 G_35) ∧ (x_35 = v2 → rcv G_35 v4 2 (w_X0_write K (fun x_47 G_47 => w_X1_replaceOld_54 K post postX k21 v2 v3 v4 ((1 : Int32)) v6 G_47) v4 v6 v3 G_35)))) v4 v6 G))))
def w_X1_replaceOld_21 (K : tK) (post : Int32 → tG → Prop) (postX : String → tG → Prop) : Nat → Int32 → Int32 → Option Nat → Int32 → Int32 → tG → Prop
  | 0 => fun _ _ _ _ _ _ => False
  | n + 1 => w_X1_replaceOld_21_b K post postX (w_X1_replaceOld_21 K post postX n)
def w_X1_replaceOld (K : tK) (post : Int32 → tG → Prop) (postX : String → tG → Prop) (v0 : Option Nat) (v1 : Int32) (v2 : Int32) (v3 : Int32) (G : tG) : Prop := rcv G v0 3 (w_X1_listAt K (fun x_2 G_2 => w_X1_checkValue K (fun G_8 => w_X1_checkValue K (fun G_12 => ∃ n : Nat, w_X1_replaceOld_21 K post postX n v2 v3 x_2 ((0 : Int32)) ((0 : Int32)) G_12) postX v3 G_8) postX v2 G_2) postX v0 v1 G)
def w_L_replaceOld (K : tK) (post : Int32 → tG → Prop) (v0 : Option Nat) (v1 : Int32) (v2 : Int32) (v3 : Int32) (v4 : Option Nat) (G : tG) : Prop := rcv G v0 3 (w_X1_replaceOld K (fun x_6 G_6 => pfV G_6 v4 4 0 (.long (((x_6).toInt64))) (fun G_10 => post ((0 : Int32)) G_10)) (fun E GX => ((E = "java/lang/IndexOutOfBoundsException" → post ((1 : Int32)) GX) ∧ (¬ E = "java/lang/IndexOutOfBoundsException" → ((E = "java/lang/IllegalArgumentException" → post ((2 : Int32)) GX) ∧ (¬ E = "java/lang/IllegalArgumentException" → False))))) v0 v1 v2 v3 G)
def w_X3_writeAll_2_b (K : tK) (post : tG → Prop) (k2 : Option Nat → Int32 → Option Nat → Int32 → tG → Prop) (v0 : Option Nat) (v1 : Int32) (v2 : Option Nat) (v3 : Int32) (G : tG) : Prop := lenA G v2 (fun x_4 => ((x_4 ≤ v3 → post G) ∧ (¬ x_4 ≤ v3 → alI G v2 v3 .int (fun x_13 => rcv G v0 5 (w_X3_write K (fun G_14 => k2 v0 v1 v2 ((v3 + (1 : Int32))) G_14) v0 v1 v3 x_13 G)))))
def w_X3_writeAll_2 (K : tK) (post : tG → Prop) : Nat → Option Nat → Int32 → Option Nat → Int32 → tG → Prop
  | 0 => fun _ _ _ _ _ => False
  | n + 1 => w_X3_writeAll_2_b K post (w_X3_writeAll_2 K post n)
def w_X3_writeAll (K : tK) (post : tG → Prop) (v0 : Option Nat) (v1 : Int32) (v2 : Option Nat) (G : tG) : Prop := ∃ n : Nat, w_X3_writeAll_2 K post n v0 v1 v2 ((0 : Int32)) G
def w_X3_replaceOld_81 (K : tK) (post : Int32 → tG → Prop) (k51 : Option Nat → Int32 → Int32 → Int32 → Option Nat → Int32 → Int32 → tG → Prop) (v0 : Option Nat) (v1 : Int32) (v2 : Int32) (v3 : Int32) (v4 : Option Nat) (v5 : Int32) (v6 : Int32) (u0 : Option Nat) (u1 : Int32) (u2 : Int32) (G : tG) : Prop := asI G u0 u1 .int u2 (fun G_81 => k51 v0 v1 v2 v3 v4 v5 ((v6 + (1 : Int32))) G_81)
def w_X3_replaceOld_105 (K : tK) (post : Int32 → tG → Prop) (u0 : Int32) (G : tG) : Prop := w_X3_one K (fun x_105 G_105 => post x_105 G_105) u0 G
def w_X3_replaceOld_51_b (K : tK) (post : Int32 → tG → Prop) (k51 : Option Nat → Int32 → Int32 → Int32 → Option Nat → Int32 → Int32 → tG → Prop) (v0 : Option Nat) (v1 : Int32) (v2 : Int32) (v3 : Int32) (v4 : Option Nat) (v5 : Int32) (v6 : Int32) (G : tG) : Prop := lenA G v4 (fun x_55 => ((x_55 ≤ v6 → rcv G v0 5 (w_X3_writeAll K (fun G_92 => ((v5 ≤ 0 → w_X3_replaceOld_105 K post ((0 : Int32)) G_92) ∧ (¬ v5 ≤ 0 → w_X3_replaceOld_105 K post ((1 : Int32)) G_92))) v0 v1 v4 G)) ∧ (¬ x_55 ≤ v6 → alI G v4 v6 .int (fun x_67 => ((¬ x_67 = v2 → alI G v4 v6 .int (fun x_80 => w_X3_replaceOld_81 K post k51 v0 v1 v2 v3 v4 v5 v6 v4 v6 x_80 G)) ∧ (x_67 = v2 → w_X3_replaceOld_81 K post k51 v0 v1 v2 v3 v4 v5 v6 v4 v6 v3 G))))))
def w_X3_replaceOld_51 (K : tK) (post : Int32 → tG → Prop) : Nat → Option Nat → Int32 → Int32 → Int32 → Option Nat → Int32 → Int32 → tG → Prop
  | 0 => fun _ _ _ _ _ _ _ _ => False
  | n + 1 => w_X3_replaceOld_51_b K post (w_X3_replaceOld_51 K post n)
def w_X3_replaceOld_25 (K : tK) (post : Int32 → tG → Prop) (v0 : Option Nat) (v1 : Int32) (v2 : Int32) (v3 : Int32) (u0 : Option Nat) (u1 : Int32) (u2 : Int32) (G : tG) : Prop := rcv G u0 5 (w_X3_fails K (fun x_25 G_25 => ((x_25 = 0 → rcv G_25 v0 5 (w_X3_all K (fun x_35 G_35 => w_X3_oftenIn K (fun x_43 G_43 => ∃ n : Nat, w_X3_replaceOld_51 K post n v0 v1 v2 v3 x_35 x_43 ((0 : Int32)) G_43) x_35 v2 G_35) v0 v1 G_25)) ∧ (¬ x_25 = 0 → post ((0 : Int32)) G_25))) u0 u1 u2 G)
def w_X3_replaceOld_20 (K : tK) (post : Int32 → tG → Prop) (v0 : Option Nat) (v1 : Int32) (v2 : Int32) (v3 : Int32) (u0 : Option Nat) (u1 : Int32) (G : tG) : Prop := w_X3_replaceOld_25 K post v0 v1 v2 v3 u0 u1 ((1 : Int32)) G
def w_X3_replaceOld (K : tK) (post : Int32 → tG → Prop) (v0 : Option Nat) (v1 : Int32) (v2 : Int32) (v3 : Int32) (G : tG) : Prop := rcv G v0 5 (w_X3_isNoList K (fun x_3 G_3 => w_X3_isNoValue K (fun x_7 G_7 => ((¬ x_7 = 0 → w_X3_replaceOld_20 K post v0 v1 v2 v3 v0 x_3 G_7) ∧ (x_7 = 0 → w_X3_isNoValue K (fun x_14 G_14 => ((x_14 = 0 → w_X3_replaceOld_25 K post v0 v1 v2 v3 v0 x_3 ((0 : Int32)) G_14) ∧ (¬ x_14 = 0 → w_X3_replaceOld_20 K post v0 v1 v2 v3 v0 x_3 G_14))) v3 G_7))) v2 G_3) v0 v1 G)
def w_X1_checkRule (K : tK) (post : tG → Prop) (postX : String → tG → Prop) (v0 : Int32) (v1 : Int32) (G : tG) : Prop := w_X1_checkNumber K (fun G_3 => w_X1_checkNumber K (fun G_11 => post G_11) postX v1 ((-99 : Int32)) ((99 : Int32)) G_3) postX v0 ((0 : Int32)) ((3 : Int32)) G
def w_X1_stepsLeft_14 (K : tK) (post : Int32 → tG → Prop) (u0 : Int32) (G : tG) : Prop := post u0 G
def w_X1_stepsLeft (K : tK) (post : Int32 → tG → Prop) (v0 : Option Nat) (v1 : Int32) (v2 : Int32) (G : tG) : Prop := ((v2 = 0 → gfI G v0 2 3 (fun x_9 => w_X1_stepsLeft_14 K post ((x_9 - v1)) G)) ∧ (¬ v2 = 0 → w_X1_stepsLeft_14 K post v1 G))
def w_X1_withinNumbers (K : tK) (post : Int32 → tG → Prop) (v0 : Int32) (G : tG) : Prop := post ((if (-99 : Int32) < (if v0 < (99 : Int32) then v0 else (99 : Int32)) then (if v0 < (99 : Int32) then v0 else (99 : Int32)) else (-99 : Int32))) G
def w_X1_ruled_64 (K : tK) (post : Int32 → tG → Prop) (u0 : Int32) (G : tG) : Prop := post u0 G
def w_X1_ruled (K : tK) (post : Int32 → tG → Prop) (v0 : Int32) (v1 : Int32) (v2 : Int32) (G : tG) : Prop := w_X1_numberOf K (fun x_1 G_1 => ((v1 = (0 : Int32) → w_X1_withinNumbers K (fun x_35 G_35 => post x_35 G_35) ((x_1 + v2)) G_1) ∧ ((v1 = (1 : Int32) → post ((if x_1 < v2 then v2 else x_1)) G_1) ∧ ((v1 = (2 : Int32) → w_X1_withinNumbers K (fun x_48 G_48 => post x_48 G_48) ((x_1 * v2)) G_1) ∧ (((v1).toInt < 0 ∨ 2 < (v1).toInt) → ((¬ x_1 = v2 → w_X1_ruled_64 K post x_1 G_1) ∧ (x_1 = v2 → w_X1_ruled_64 K post ((-1000 : Int32)) G_1))))))) v0 G
def w_X1_writeRuled_12_b (K : tK) (post : Int32 → tG → Prop) (k12 : Option Nat → Int32 → Int32 → Int32 → Int32 → Int32 → Int32 → tG → Prop) (v0 : Option Nat) (v1 : Int32) (v2 : Int32) (v3 : Int32) (v4 : Int32) (v5 : Int32) (v6 : Int32) (G : tG) : Prop := ((v5 ≤ v6 → post v5 G) ∧ (¬ v5 ≤ v6 → w_X1_placeAfter K (fun x_24 G_24 => rcv G_24 v0 2 (w_X0_read K (fun x_35 G_35 => w_X1_ruled K (fun x_40 G_40 => rcv G_40 v0 2 (w_X0_write K (fun x_43 G_43 => k12 v0 v1 v2 v3 v4 v5 ((v6 + (1 : Int32))) G_43) v0 x_24 x_40 G_40)) x_35 v2 v3 G_35) v0 x_24 G_24)) v1 v6 v4 G))
def w_X1_writeRuled_12 (K : tK) (post : Int32 → tG → Prop) : Nat → Option Nat → Int32 → Int32 → Int32 → Int32 → Int32 → Int32 → tG → Prop
  | 0 => fun _ _ _ _ _ _ _ _ => False
  | n + 1 => w_X1_writeRuled_12_b K post (w_X1_writeRuled_12 K post n)
def w_X1_writeRuled (K : tK) (post : Int32 → tG → Prop) (v0 : Option Nat) (v1 : Int32) (v2 : Int32) (v3 : Int32) (v4 : Int32) (G : tG) : Prop := w_X1_stepsLeft K (fun x_4 G_4 => ∃ n : Nat, w_X1_writeRuled_12 K post n v0 v1 v2 v3 v4 x_4 ((0 : Int32)) G_4) v0 v1 v4 G
def w_X1_replaceAll (K : tK) (post : Int32 → tG → Prop) (postX : String → tG → Prop) (v0 : Option Nat) (v1 : Int32) (v2 : Int32) (v3 : Int32) (G : tG) : Prop := rcv G v0 3 (w_X1_listAt K (fun x_2 G_2 => w_X1_checkRule K (fun G_9 => w_X1_writeRuled K (fun x_18 G_18 => post x_18 G_18) x_2 ((0 : Int32)) v2 v3 ((0 : Int32)) G_9) postX v2 v3 G_2) postX v0 v1 G)
def w_L_replaceAll (K : tK) (post : Int32 → tG → Prop) (v0 : Option Nat) (v1 : Int32) (v2 : Int32) (v3 : Int32) (v4 : Option Nat) (G : tG) : Prop := rcv G v0 3 (w_X1_replaceAll K (fun x_6 G_6 => pfV G_6 v4 4 0 (.long (((x_6).toInt64))) (fun G_10 => post ((0 : Int32)) G_10)) (fun E GX => ((E = "java/lang/IndexOutOfBoundsException" → post ((1 : Int32)) GX) ∧ (¬ E = "java/lang/IndexOutOfBoundsException" → ((E = "java/lang/IllegalArgumentException" → post ((2 : Int32)) GX) ∧ (¬ E = "java/lang/IllegalArgumentException" → False))))) v0 v1 v2 v3 G)
def w_X3_isNoRule_25 (K : tK) (post : Int32 → tG → Prop) (u0 : Int32) (G : tG) : Prop := (narrow .boolean (.int u0) = .int u0 ∧ post u0 G)
def w_X3_isNoRule_20 (K : tK) (post : Int32 → tG → Prop) (G : tG) : Prop := w_X3_isNoRule_25 K post ((1 : Int32)) G
def w_X3_isNoRule (K : tK) (post : Int32 → tG → Prop) (v0 : Int32) (v1 : Int32) (G : tG) : Prop := w_X3_isIn K (fun x_3 G_3 => ((x_3 = 0 → w_X3_isNoRule_20 K post G_3) ∧ (¬ x_3 = 0 → w_X3_isIn K (fun x_14 G_14 => ((¬ x_14 = 0 → w_X3_isNoRule_25 K post ((0 : Int32)) G_14) ∧ (x_14 = 0 → w_X3_isNoRule_20 K post G_14))) v1 ((-99 : Int32)) ((99 : Int32)) G_3))) v0 ((0 : Int32)) ((3 : Int32)) G
def w_X3_bounded (K : tK) (post : Int32 → tG → Prop) (v0 : Int32) (G : tG) : Prop := post ((if (-99 : Int32) < (if v0 < (99 : Int32) then v0 else (99 : Int32)) then (if v0 < (99 : Int32) then v0 else (99 : Int32)) else (-99 : Int32))) G
def w_X3_ruled_59 (K : tK) (post : Int32 → tG → Prop) (u0 : Int32) (G : tG) : Prop := post u0 G
def w_X3_ruled_12 (K : tK) (post : Int32 → tG → Prop) (v0 : Int32) (v2 : Int32) (u0 : Int32) (G : tG) : Prop := ((¬ v0 = 0 → ((¬ v0 = (1 : Int32) → ((¬ v0 = (2 : Int32) → ((¬ u0 = v2 → w_X3_ruled_59 K post u0 G) ∧ (u0 = v2 → w_X3_ruled_59 K post ((-1000 : Int32)) G))) ∧ (v0 = (2 : Int32) → w_X3_bounded K (fun x_43 G_43 => post x_43 G_43) ((u0 * v2)) G))) ∧ (v0 = (1 : Int32) → post ((if u0 < v2 then v2 else u0)) G))) ∧ (v0 = 0 → w_X3_bounded K (fun x_20 G_20 => post x_20 G_20) ((u0 + v2)) G))
def w_X3_ruled (K : tK) (post : Int32 → tG → Prop) (v0 : Int32) (v1 : Int32) (v2 : Int32) (G : tG) : Prop := ((¬ v1 = (-1000 : Int32) → w_X3_ruled_12 K post v0 v2 v1 G) ∧ (v1 = (-1000 : Int32) → w_X3_ruled_12 K post v0 v2 ((0 : Int32)) G))
def w_X3_ruledAll_3_b (K : tK) (post : Int32 → tG → Prop) (k3 : Option Nat → Int32 → Int32 → Int32 → Int32 → Int32 → Int32 → tG → Prop) (v0 : Option Nat) (v1 : Int32) (v2 : Int32) (v3 : Int32) (v4 : Int32) (v5 : Int32) (v6 : Int32) (G : tG) : Prop := ((v3 ≤ v6 → post ((v3 - v2)) G) ∧ (¬ v3 ≤ v6 → rcv G v0 5 (w_X3_value K (fun x_19 G_19 => w_X3_ruled K (fun x_24 G_24 => rcv G_24 v0 5 (w_X3_write K (fun G_27 => k3 v0 v1 v2 v3 v4 v5 ((v6 + (1 : Int32))) G_27) v0 v1 v6 x_24 G_24)) v4 x_19 v5 G_19) v0 v1 v6 G)))
def w_X3_ruledAll_3 (K : tK) (post : Int32 → tG → Prop) : Nat → Option Nat → Int32 → Int32 → Int32 → Int32 → Int32 → Int32 → tG → Prop
  | 0 => fun _ _ _ _ _ _ _ _ => False
  | n + 1 => w_X3_ruledAll_3_b K post (w_X3_ruledAll_3 K post n)
def w_X3_ruledAll (K : tK) (post : Int32 → tG → Prop) (v0 : Option Nat) (v1 : Int32) (v2 : Int32) (v3 : Int32) (v4 : Int32) (v5 : Int32) (G : tG) : Prop := ∃ n : Nat, w_X3_ruledAll_3 K post n v0 v1 v2 v3 v4 v5 v2 G
def w_X3_replaceAll_35 (K : tK) (post : Int32 → tG → Prop) (u0 : Int32) (G : tG) : Prop := post u0 G
def w_X3_replaceAll (K : tK) (post : Int32 → tG → Prop) (v0 : Option Nat) (v1 : Int32) (v2 : Int32) (v3 : Int32) (G : tG) : Prop := rcv G v0 5 (w_X3_isNoList K (fun x_3 G_3 => w_X3_isNoRule K (fun x_8 G_8 => rcv G_8 v0 5 (w_X3_fails K (fun x_11 G_11 => ((x_11 = 0 → gfR G_11 v0 5 3 (fun x_25 => alI G_11 x_25 v1 .int (fun x_29 => rcv G_11 v0 5 (w_X3_ruledAll K (fun x_32 G_32 => w_X3_replaceAll_35 K post x_32 G_32) v0 v1 ((0 : Int32)) x_29 v2 v3 G_11)))) ∧ (¬ x_11 = 0 → w_X3_replaceAll_35 K post ((0 : Int32)) G_11))) v0 x_3 x_8 G_8)) v2 v3 G_3) v0 v1 G)
def w_X1_walkSet (K : tK) (post : Int32 → tG → Prop) (postX : String → tG → Prop) (v0 : Option Nat) (v1 : Int32) (v2 : Int32) (v3 : Int32) (v4 : Int32) (v5 : Int32) (G : tG) : Prop := rcv G v0 3 (w_X1_listAt K (fun x_2 G_2 => gfI G_2 x_2 2 3 (fun x_11 => w_X1_checkNumber K (fun G_14 => w_X1_checkRule K (fun G_20 => w_X1_writeRuled K (fun x_31 G_31 => post x_31 G_31) x_2 v2 v3 v4 v5 G_20) postX v3 v4 G_14) postX v2 ((0 : Int32)) x_11 G_2)) postX v0 v1 G)
def w_L_walkSet (K : tK) (post : Int32 → tG → Prop) (v0 : Option Nat) (v1 : Int32) (v2 : Int32) (v3 : Int32) (v4 : Int32) (v5 : Int32) (v6 : Option Nat) (G : tG) : Prop := rcv G v0 3 (w_X1_walkSet K (fun x_10 G_10 => pfV G_10 v6 4 0 (.long (((x_10).toInt64))) (fun G_14 => post ((0 : Int32)) G_14)) (fun E GX => ((E = "java/lang/IndexOutOfBoundsException" → post ((1 : Int32)) GX) ∧ (¬ E = "java/lang/IndexOutOfBoundsException" → ((E = "java/lang/IllegalArgumentException" → post ((2 : Int32)) GX) ∧ (¬ E = "java/lang/IllegalArgumentException" → False))))) v0 v1 v2 v3 v4 v5 G)
def w_X3_walkSet_64 (K : tK) (post : Int32 → tG → Prop) (v3 : Int32) (v4 : Int32) (u0 : Option Nat) (u1 : Int32) (u2 : Int32) (u3 : Int32) (G : tG) : Prop := rcv G u0 5 (w_X3_ruledAll K (fun x_67 G_67 => post x_67 G_67) u0 u1 u2 u3 v3 v4 G)
def w_X3_walkSet_49 (K : tK) (post : Int32 → tG → Prop) (v0 : Option Nat) (v1 : Int32) (v2 : Int32) (v3 : Int32) (v4 : Int32) (v5 : Int32) (u0 : Option Nat) (u1 : Int32) (u2 : Int32) (G : tG) : Prop := ((v5 = 0 → gfR G v0 5 3 (fun x_59 => alI G x_59 v1 .int (fun x_63 => w_X3_walkSet_64 K post v3 v4 u0 u1 u2 x_63 G))) ∧ (¬ v5 = 0 → w_X3_walkSet_64 K post v3 v4 u0 u1 u2 v2 G))
def w_X3_walkSet_29 (K : tK) (post : Int32 → tG → Prop) (v0 : Option Nat) (v1 : Int32) (v2 : Int32) (v3 : Int32) (v4 : Int32) (v5 : Int32) (u0 : Option Nat) (u1 : Int32) (u2 : Int32) (G : tG) : Prop := rcv G u0 5 (w_X3_fails K (fun x_29 G_29 => ((x_29 = 0 → ((v5 = 0 → w_X3_walkSet_49 K post v0 v1 v2 v3 v4 v5 v0 v1 v2 G_29) ∧ (¬ v5 = 0 → w_X3_walkSet_49 K post v0 v1 v2 v3 v4 v5 v0 v1 ((0 : Int32)) G_29))) ∧ (¬ x_29 = 0 → post ((0 : Int32)) G_29))) u0 u1 u2 G)
def w_X3_walkSet_24 (K : tK) (post : Int32 → tG → Prop) (v0 : Option Nat) (v1 : Int32) (v2 : Int32) (v3 : Int32) (v4 : Int32) (v5 : Int32) (u0 : Option Nat) (u1 : Int32) (G : tG) : Prop := w_X3_walkSet_29 K post v0 v1 v2 v3 v4 v5 u0 u1 ((1 : Int32)) G
def w_X3_walkSet (K : tK) (post : Int32 → tG → Prop) (v0 : Option Nat) (v1 : Int32) (v2 : Int32) (v3 : Int32) (v4 : Int32) (v5 : Int32) (G : tG) : Prop := rcv G v0 5 (w_X3_isNoList K (fun x_3 G_3 => rcv G_3 v0 5 (w_X3_isBeyond K (fun x_9 G_9 => ((¬ x_9 = 0 → w_X3_walkSet_24 K post v0 v1 v2 v3 v4 v5 v0 x_3 G_9) ∧ (x_9 = 0 → w_X3_isNoRule K (fun x_18 G_18 => ((x_18 = 0 → w_X3_walkSet_29 K post v0 v1 v2 v3 v4 v5 v0 x_3 ((0 : Int32)) G_18) ∧ (¬ x_18 = 0 → w_X3_walkSet_24 K post v0 v1 v2 v3 v4 v5 v0 x_3 G_18))) v3 v4 G_9))) v0 v1 v2 G_3)) v0 v1 G)
def w_L_sum (K : tK) (post : Int32 → tG → Prop) (v0 : Option Nat) (v1 : Int32) (v2 : Option Nat) (G : tG) : Prop := rcv G v0 3 (w_X1_sum K (fun x_3 G_3 => pfV G_3 v2 4 0 (.long (((x_3).toInt64))) (fun G_7 => post ((0 : Int32)) G_7)) (fun E GX => ((E = "java/lang/IndexOutOfBoundsException" → post ((1 : Int32)) GX) ∧ (¬ E = "java/lang/IndexOutOfBoundsException" → False))) v0 v1 G)
def w_X3_sum_22 (K : tK) (post : Int32 → tG → Prop) (u0 : Int32) (G : tG) : Prop := post u0 G
def w_X3_sum (K : tK) (post : Int32 → tG → Prop) (v0 : Option Nat) (v1 : Int32) (G : tG) : Prop := rcv G v0 5 (w_X3_isNoList K (fun x_3 G_3 => rcv G_3 v0 5 (w_X3_fails K (fun x_7 G_7 => ((x_7 = 0 → rcv G_7 v0 5 (w_X3_sumNow K (fun x_19 G_19 => w_X3_sum_22 K post x_19 G_19) v0 v1 G_7)) ∧ (¬ x_7 = 0 → w_X3_sum_22 K post ((0 : Int32)) G_7))) v0 x_3 ((0 : Int32)) G_3)) v0 v1 G)
def w_J5_init_d00df (K : tK) (MC MS : Nat) (post : tG → Prop) (v0 : Option Nat) (v1 : Int32) (G : tG) : Prop := ((∃ q : Nat, v0 = some q) ∧ (((1 : Int32) = 0 → False) ∧ (¬ (1 : Int32) = 0 → (∃ z_12 : Nat, z_12 ≤ 65536 ∧ ((0 + 1 ≤ MC ∧ 0 + z_12 ≤ MS) ∧ nwA G .byte v1 z_12 (.inl (fun _ => 0)) (fun r_12 G_12 => pfV G_12 v0 1 0 (va_rf r_12) (fun G_14 => pfV G_14 v0 1 1 (.int ((0 : Int32))) (fun G_19 => post G_19))))))))
def w_J4_init_da8c8 (K : tK) (MC MS : Nat) (post : tG → Prop) (v0 : Option Nat) (G : tG) : Prop := bud 0 0 MC MS (fun mc_3 ms_3 => ((∃ q : Nat, v0 = some q) ∧ w_J5_init_d00df K mc_3 ms_3 (fun G_3 => post G_3) v0 ((16 : Int32)) G))
def w_J5_getValue_6d5f1 (K : tK) (post : Option Nat → tG → Prop) (v0 : Option Nat) (G : tG) : Prop := gfR G v0 1 0 (fun x_1 => post x_1 G)
def w_J5_length_8abf5 (K : tK) (post : Int32 → tG → Prop) (v0 : Option Nat) (G : tG) : Prop := gfI G v0 1 3 (fun x_1 => post x_1 G)
def w_J4_length_8abf5 (K : tK) (post : Int32 → tG → Prop) (v0 : Option Nat) (G : tG) : Prop := rcv G v0 1 (w_J5_length_8abf5 K (fun x_1 G_1 => post x_1 G_1) v0 G)
def w_J5_isLatin1_aae02_18 (K : tK) (post : Int32 → tG → Prop) (u0 : Int32) (G : tG) : Prop := (narrow .boolean (.int u0) = .int u0 ∧ post u0 G)
def w_J5_isLatin1_aae02_17 (K : tK) (post : Int32 → tG → Prop) (G : tG) : Prop := w_J5_isLatin1_aae02_18 K post ((0 : Int32)) G
def w_J5_isLatin1_aae02 (K : tK) (post : Int32 → tG → Prop) (v0 : Option Nat) (G : tG) : Prop := (((1 : Int32) = 0 → w_J5_isLatin1_aae02_17 K post G) ∧ (¬ (1 : Int32) = 0 → gfI G v0 1 1 (fun x_7 => ((¬ x_7 = 0 → w_J5_isLatin1_aae02_17 K post G) ∧ (x_7 = 0 → w_J5_isLatin1_aae02_18 K post ((1 : Int32)) G)))))
def w_J7_checkLength_df160 (K : tK) (post : tG → Prop) (v0 : Int32) (v1 : Int32) (G : tG) : Prop := ((v0 ≤ v1 → post G) ∧ (¬ v0 ≤ v1 → False))
def w_J7_copyOfRangeByte_39247 (K : tK) (MC MS : Nat) (post : Option Nat → tG → Prop) (v0 : Option Nat) (v1 : Int32) (v2 : Int32) (G : tG) : Prop := w_J7_checkLength_df160 K (fun G_2 => (∃ z_10 : Nat, z_10 ≤ 65536 ∧ ((0 + 1 ≤ MC ∧ 0 + z_10 ≤ MS) ∧ nwA G_2 .byte (v2 - v1) z_10 (.inl (fun _ => 0)) (fun r_10 G_10 => lenA G_10 v0 (fun x_20 => cpB K G_10 v0 v1 r_10 (0 : Int32) (if (v2 - v1) < (x_20 - v1) then (v2 - v1) else (x_20 - v1)) (fun G_27 => post r_10 G_27)))))) v1 v2 G
def w_J7_copyOfRange_39247_10 (K : tK) (MC MS : Nat) (post : Option Nat → tG → Prop) (nc ns : Nat) (v0 : Option Nat) (v1 : Int32) (v2 : Int32) (G : tG) : Prop := bud nc ns MC MS (fun mc_13 ms_13 => w_J7_copyOfRangeByte_39247 K mc_13 ms_13 (fun x_13 G_13 => post x_13 G_13) v0 v1 v2 G)
def w_J7_copyOfRange_39247 (K : tK) (MC MS : Nat) (post : Option Nat → tG → Prop) (v0 : Option Nat) (v1 : Int32) (v2 : Int32) (G : tG) : Prop := ((¬ v1 = 0 → w_J7_copyOfRange_39247_10 K MC MS post 0 0 v0 v1 v2 G) ∧ (v1 = 0 → lenA G v0 (fun x_6 => ((v2 = x_6 → (∃ z_18 : Nat, ((0 + 1 ≤ MC ∧ 0 + z_18 ≤ MS) ∧ clB G v0 z_18 (fun r_18 G_18 => isB G_18 r_18 (post r_18 G_18))))) ∧ (¬ v2 = x_6 → w_J7_copyOfRange_39247_10 K MC MS post 0 0 v0 v1 v2 G)))))
def w_J0_init_db425_97 (K : tK) (MC MS : Nat) (post : tG → Prop) (nc ns : Nat) (G : tG) : Prop := post G
def w_J0_init_db425_79 (K : tK) (MC MS : Nat) (post : tG → Prop) (nc ns : Nat) (v0 : Option Nat) (v3 : Option Nat) (v4 : Int32) (G : tG) : Prop := pfV G v0 0 1 (.int ((1 : Int32))) (fun G_81 => bud nc ns MC MS (fun mc_91 ms_91 => w_J7_copyOfRange_39247 K mc_91 ms_91 (fun x_91 G_91 => pfV G_91 v0 0 0 (va_rf x_91) (fun G_94 => w_J0_init_db425_97 K MC MS post ((nc + mc_91)) ((ns + ms_91)) G_94)) v3 ((0 : Int32)) ((v4 <<< ((1 : Int32) &&& 31))) G_81))
def w_J0_init_db425 (K : tK) (MC MS : Nat) (post : tG → Prop) (v0 : Option Nat) (v1 : Option Nat) (v2 : Option Nat) (G : tG) : Prop := ((∃ q : Nat, v0 = some q) ∧ rcv G v1 1 (w_J5_getValue_6d5f1 K (fun x_5 G_5 => rcv G_5 v1 1 (w_J4_length_8abf5 K (fun x_10 G_10 => rcv G_10 v1 1 (w_J5_isLatin1_aae02 K (fun x_16 G_16 => ((x_16 = 0 → (((1 : Int32) = 0 → w_J0_init_db425_79 K MC MS post 0 0 v0 x_5 x_10 G_16) ∧ (¬ (1 : Int32) = 0 → gfI G_16 v1 1 2 (fun x_48 => ((x_48 = 0 → w_J0_init_db425_79 K MC MS post 0 0 v0 x_5 x_10 G_16) ∧ (¬ x_48 = 0 → False)))))) ∧ (¬ x_16 = 0 → pfV G_16 v0 0 1 (.int ((0 : Int32))) (fun G_24 => bud 0 0 MC MS (fun mc_32 ms_32 => w_J7_copyOfRange_39247 K mc_32 ms_32 (fun x_32 G_32 => pfV G_32 v0 0 0 (va_rf x_32) (fun G_35 => w_J0_init_db425_97 K MC MS post ((0 + mc_32)) ((0 + ms_32)) G_35)) x_5 ((0 : Int32)) x_10 G_24))))) v1 G_10)) v1 G_5)) v1 G))
def w_J0_init_81219 (K : tK) (MC MS : Nat) (post : tG → Prop) (v0 : Option Nat) (v1 : Option Nat) (G : tG) : Prop := bud 0 0 MC MS (fun mc_3 ms_3 => ((∃ q : Nat, v0 = some q) ∧ w_J0_init_db425 K mc_3 ms_3 (fun G_3 => post G_3) v0 v1 none G))
def w_J4_toString_0e30d (K : tK) (MC MS : Nat) (post : Option Nat → tG → Prop) (v0 : Option Nat) (G : tG) : Prop := ((0 + 1 ≤ MC ∧ 0 + 4 ≤ MS) ∧ nwO G 0 [.null, .int 0, .int 0, .int 0] (fun r_0 G_0 => bud ((0 + 1)) ((0 + 4)) MC MS (fun mc_5 ms_5 => ((∃ q : Nat, r_0 = some q) ∧ w_J0_init_81219 K mc_5 ms_5 (fun G_5 => post r_0 G_5) r_0 v0 G_0))))
def w_J6_stringSize_0f7a4_16_b (K : tK) (post : Int32 → tG → Prop) (k16 : Int32 → Int32 → Int32 → Int32 → tG → Prop) (v0 : Int32) (v1 : Int32) (v2 : Int32) (v3 : Int32) (G : tG) : Prop := (((10 : Int32) ≤ v3 → post (((10 : Int32) + v1)) G) ∧ (¬ (10 : Int32) ≤ v3 → ((v0 ≤ v2 → k16 v0 v1 (((10 : Int32) * v2)) ((v3 + (1 : Int32))) G) ∧ (¬ v0 ≤ v2 → post ((v3 + v1)) G))))
def w_J6_stringSize_0f7a4_16 (K : tK) (post : Int32 → tG → Prop) : Nat → Int32 → Int32 → Int32 → Int32 → tG → Prop
  | 0 => fun _ _ _ _ _ => False
  | n + 1 => w_J6_stringSize_0f7a4_16_b K post (w_J6_stringSize_0f7a4_16 K post n)
def w_J6_stringSize_0f7a4_11 (K : tK) (post : Int32 → tG → Prop) (v0 : Int32) (v1 : Int32) (G : tG) : Prop := ∃ n : Nat, w_J6_stringSize_0f7a4_16 K post n v0 v1 ((-10 : Int32)) ((1 : Int32)) G
def w_J6_stringSize_0f7a4 (K : tK) (post : Int32 → tG → Prop) (v0 : Int32) (G : tG) : Prop := ((v0 < 0 → w_J6_stringSize_0f7a4_11 K post v0 ((1 : Int32)) G) ∧ (¬ v0 < 0 → w_J6_stringSize_0f7a4_11 K post ((-v0)) ((0 : Int32)) G))
def w_J8_newLength_cabcc_21 (K : tK) (post : Int32 → tG → Prop) (v0 : Int32) (v1 : Int32) (G : tG) : Prop := False
def w_J8_newLength_cabcc (K : tK) (post : Int32 → tG → Prop) (v0 : Int32) (v1 : Int32) (v2 : Int32) (G : tG) : Prop := (((v0 + (if v1 < v2 then v2 else v1)) ≤ (0 : Int32) → w_J8_newLength_cabcc_21 K post v0 v1 G) ∧ (¬ (v0 + (if v1 < v2 then v2 else v1)) ≤ (0 : Int32) → (((2147483639 : Int32) < (v0 + (if v1 < v2 then v2 else v1)) → w_J8_newLength_cabcc_21 K post v0 v1 G) ∧ (¬ (2147483639 : Int32) < (v0 + (if v1 < v2 then v2 else v1)) → post ((v0 + (if v1 < v2 then v2 else v1))) G))))
def w_J5_newCapacity_0f7a4 (K : tK) (post : Int32 → tG → Prop) (v0 : Option Nat) (v1 : Int32) (G : tG) : Prop := gfR G v0 1 0 (fun x_1 => lenA G x_1 (fun x_4 => gfI G v0 1 1 (fun x_8 => gfI G v0 1 1 (fun x_24 => w_J8_newLength_cabcc K (fun x_29 G_29 => ((¬ x_29 = (2147483647 : Int32) → gfI G_29 v0 1 1 (fun x_54 => post ((x_29 >>> (x_54 &&& 31))) G_29)) ∧ (x_29 = (2147483647 : Int32) → False))) x_4 (((v1 <<< (x_8 &&& 31)) - x_4)) ((x_4 + ((2 : Int32) <<< (x_24 &&& 31)))) G))))
def w_J7_copyOf_9075b (K : tK) (MC MS : Nat) (post : Option Nat → tG → Prop) (v0 : Option Nat) (v1 : Int32) (G : tG) : Prop := lenA G v0 (fun x_2 => ((¬ v1 = x_2 → (∃ z_15 : Nat, z_15 ≤ 65536 ∧ ((0 + 1 ≤ MC ∧ 0 + z_15 ≤ MS) ∧ nwA G .byte v1 z_15 (.inl (fun _ => 0)) (fun r_15 G_15 => lenA G_15 v0 (fun x_23 => cpB K G_15 v0 (0 : Int32) r_15 (0 : Int32) (if v1 < x_23 then v1 else x_23) (fun G_28 => post r_15 G_28)))))) ∧ (v1 = x_2 → False)))
def w_J5_ensureCapacityInternal_d00df_38 (K : tK) (MC MS : Nat) (post : tG → Prop) (nc ns : Nat) (G : tG) : Prop := post G
def w_J5_ensureCapacityInternal_d00df (K : tK) (MC MS : Nat) (post : tG → Prop) (v0 : Option Nat) (v1 : Int32) (G : tG) : Prop := gfR G v0 1 0 (fun x_1 => lenA G x_1 (fun x_4 => gfI G v0 1 1 (fun x_6 => (((v1 - (x_4 >>> (x_6 &&& 31))) ≤ 0 → w_J5_ensureCapacityInternal_d00df_38 K MC MS post 0 0 G) ∧ (¬ (v1 - (x_4 >>> (x_6 &&& 31))) ≤ 0 → gfR G v0 1 0 (fun x_19 => rcv G v0 1 (w_J5_newCapacity_0f7a4 K (fun x_24 G_24 => gfI G_24 v0 1 1 (fun x_28 => bud 0 0 MC MS (fun mc_32 ms_32 => w_J7_copyOf_9075b K mc_32 ms_32 (fun x_32 G_32 => pfV G_32 v0 1 0 (va_rf x_32) (fun G_35 => w_J5_ensureCapacityInternal_d00df_38 K MC MS post ((0 + mc_32)) ((0 + ms_32)) G_35)) x_19 ((x_24 <<< (x_28 &&& 31))) G_24))) v0 v1 G)))))))
def w_J6_getChars_ba4f3_118 (K : tK) (post : Int32 → tG → Prop) (v5 : Int32) (G : tG) : Prop := post v5 G
def w_J6_getChars_ba4f3_104 (K : tK) (post : Int32 → tG → Prop) (v2 : Option Nat) (v5 : Int32) (v6 : Int32) (G : tG) : Prop := ((v6 = 0 → w_J6_getChars_ba4f3_118 K post v5 G) ∧ (¬ v6 = 0 → asI G v2 (v5 + (-1 : Int32)) .byte (vp_nar .byte (45 : Int32)) (fun G_117 => w_J6_getChars_ba4f3_118 K post ((v5 + (-1 : Int32))) G_117)))
def w_J6_getChars_ba4f3_22_b (K : tK) (post : Int32 → tG → Prop) (k22 : Int32 → Option Nat → Int32 → Int32 → tG → Prop) (v0 : Int32) (v2 : Option Nat) (v5 : Int32) (v6 : Int32) (G : tG) : Prop := (((-100 : Int32) < v0 → alK K ((some (K.2.2 21))) (-v0) (fun x_83 => asI G v2 (v5 + (-1 : Int32)) .byte (vp_nar .byte x_83) (fun G_84 => (((-9 : Int32) ≤ v0 → w_J6_getChars_ba4f3_104 K post v2 ((v5 + (-1 : Int32))) v6 G_84) ∧ (¬ (-9 : Int32) ≤ v0 → alK K ((some (K.2.2 20))) (-v0) (fun x_102 => asI G_84 v2 ((v5 + (-1 : Int32)) + (-1 : Int32)) .byte (vp_nar .byte x_102) (fun G_103 => w_J6_getChars_ba4f3_104 K post v2 (((v5 + (-1 : Int32)) + (-1 : Int32))) v6 G_103))))))) ∧ (¬ (-100 : Int32) < v0 → alK K ((some (K.2.2 21))) (((v0 / (100 : Int32)) * (100 : Int32)) - v0) (fun x_54 => asI G v2 (v5 + (-1 : Int32)) .byte (vp_nar .byte x_54) (fun G_55 => alK K ((some (K.2.2 20))) (((v0 / (100 : Int32)) * (100 : Int32)) - v0) (fun x_67 => asI G_55 v2 ((v5 + (-1 : Int32)) + (-1 : Int32)) .byte (vp_nar .byte x_67) (fun G_68 => k22 ((v0 / (100 : Int32))) v2 (((v5 + (-1 : Int32)) + (-1 : Int32))) v6 G_68))))))
def w_J6_getChars_ba4f3_22 (K : tK) (post : Int32 → tG → Prop) : Nat → Int32 → Option Nat → Int32 → Int32 → tG → Prop
  | 0 => fun _ _ _ _ _ => False
  | n + 1 => w_J6_getChars_ba4f3_22_b K post (w_J6_getChars_ba4f3_22 K post n)
def w_J6_getChars_ba4f3_12 (K : tK) (post : Int32 → tG → Prop) (v0 : Int32) (v2 : Option Nat) (v5 : Int32) (u0 : Int32) (G : tG) : Prop := ((¬ u0 = 0 → ∃ n : Nat, w_J6_getChars_ba4f3_22 K post n v0 v2 v5 u0 G) ∧ (u0 = 0 → ∃ n : Nat, w_J6_getChars_ba4f3_22 K post n ((-v0)) v2 v5 u0 G))
def w_J6_getChars_ba4f3 (K : tK) (post : Int32 → tG → Prop) (v0 : Int32) (v1 : Int32) (v2 : Option Nat) (G : tG) : Prop := ((0 ≤ v0 → w_J6_getChars_ba4f3_12 K post v0 v2 v1 ((0 : Int32)) G) ∧ (¬ 0 ≤ v0 → w_J6_getChars_ba4f3_12 K post v0 v2 v1 ((1 : Int32)) G))
def w_J5_append_c97b9 (K : tK) (MC MS : Nat) (post : Option Nat → tG → Prop) (v0 : Option Nat) (v1 : Int32) (G : tG) : Prop := gfI G v0 1 3 (fun x_1 => w_J6_stringSize_0f7a4 K (fun x_7 G_7 => bud 0 0 MC MS (fun mc_14 ms_14 => rcv G_7 v0 1 (w_J5_ensureCapacityInternal_d00df K mc_14 ms_14 (fun G_14 => rcv G_14 v0 1 (w_J5_isLatin1_aae02 K (fun x_18 G_18 => ((x_18 = 0 → gfR G_18 v0 1 0 (fun x_41 => False)) ∧ (¬ x_18 = 0 → gfR G_18 v0 1 0 (fun x_27 => w_J6_getChars_ba4f3 K (fun x_30 G_30 => pfV G_30 v0 1 3 (.int ((x_1 + x_7))) (fun G_50 => post v0 G_50)) v1 ((x_1 + x_7)) x_27 G_18)))) v0 G_14)) v0 ((x_1 + x_7)) G_7))) v1 G)
def w_J4_append_bf812 (K : tK) (MC MS : Nat) (post : Option Nat → tG → Prop) (v0 : Option Nat) (v1 : Int32) (G : tG) : Prop := bud 0 0 MC MS (fun mc_2 ms_2 => rcv G v0 1 (w_J5_append_c97b9 K mc_2 ms_2 (fun x_2 G_2 => post v0 G_2) v0 v1 G))
def w_J1_canEncode_fc78d_12 (K : tK) (post : Int32 → tG → Prop) (u0 : Int32) (G : tG) : Prop := (narrow .boolean (.int u0) = .int u0 ∧ post u0 G)
def w_J1_canEncode_fc78d (K : tK) (post : Int32 → tG → Prop) (v0 : Int32) (G : tG) : Prop := (((255 : Int32) < v0 → w_J1_canEncode_fc78d_12 K post ((0 : Int32)) G) ∧ (¬ (255 : Int32) < v0 → w_J1_canEncode_fc78d_12 K post ((1 : Int32)) G))
def w_J5_append_3fe6f_45 (K : tK) (MC MS : Nat) (post : Option Nat → tG → Prop) (nc ns : Nat) (v0 : Option Nat) (v1 : Int32) (G : tG) : Prop := rcv G v0 1 (w_J5_isLatin1_aae02 K (fun x_46 G_46 => ((x_46 = 0 → gfR G_46 v0 1 0 (fun x_57 => gfI G_46 v0 1 3 (fun x_62 => pfV G_46 v0 1 3 (.int ((x_62 + (1 : Int32)))) (fun G_68 => False)))) ∧ (¬ x_46 = 0 → False))) v0 G)
def w_J5_append_3fe6f (K : tK) (MC MS : Nat) (post : Option Nat → tG → Prop) (v0 : Option Nat) (v1 : Int32) (G : tG) : Prop := gfI G v0 1 3 (fun x_2 => bud 0 0 MC MS (fun mc_7 ms_7 => rcv G v0 1 (w_J5_ensureCapacityInternal_d00df K mc_7 ms_7 (fun G_7 => rcv G_7 v0 1 (w_J5_isLatin1_aae02 K (fun x_11 G_11 => ((x_11 = 0 → w_J5_append_3fe6f_45 K MC MS post ((0 + mc_7)) ((0 + ms_7)) v0 v1 G_11) ∧ (¬ x_11 = 0 → w_J1_canEncode_fc78d K (fun x_18 G_18 => ((x_18 = 0 → w_J5_append_3fe6f_45 K MC MS post ((0 + mc_7)) ((0 + ms_7)) v0 v1 G_18) ∧ (¬ x_18 = 0 → gfR G_18 v0 1 0 (fun x_25 => gfI G_18 v0 1 3 (fun x_30 => pfV G_18 v0 1 3 (.int ((x_30 + (1 : Int32)))) (fun G_36 => asI G_36 x_25 x_30 .byte (vp_nar .byte ((v1).toInt8.toInt32)) (fun G_41 => post v0 G_41))))))) v1 G_11))) v0 G_7)) v0 ((x_2 + (1 : Int32))) G)))
def w_J4_append_cf468 (K : tK) (MC MS : Nat) (post : Option Nat → tG → Prop) (v0 : Option Nat) (v1 : Int32) (G : tG) : Prop := bud 0 0 MC MS (fun mc_2 ms_2 => rcv G v0 1 (w_J5_append_3fe6f K mc_2 ms_2 (fun x_2 G_2 => post v0 G_2) v0 v1 G))
def w_X1_appendValue_23 (K : tK) (MC MS : Nat) (post : tG → Prop) (nc ns : Nat) (G : tG) : Prop := post G
def w_X1_appendValue (K : tK) (MC MS : Nat) (post : tG → Prop) (v0 : Option Nat) (v1 : Int32) (G : tG) : Prop := ((¬ v1 = (-1000 : Int32) → bud 0 0 MC MS (fun mc_19 ms_19 => rcv G v0 1 (w_J4_append_bf812 K mc_19 ms_19 (fun x_19 G_19 => w_X1_appendValue_23 K MC MS post ((0 + mc_19)) ((0 + ms_19)) G_19) v0 v1 G))) ∧ (v1 = (-1000 : Int32) → bud 0 0 MC MS (fun mc_10 ms_10 => rcv G v0 1 (w_J4_append_cf468 K mc_10 ms_10 (fun x_10 G_10 => w_X1_appendValue_23 K MC MS post ((0 + mc_10)) ((0 + ms_10)) G_10) v0 ((45 : Int32)) G))))
def w_X1_textOf_61 (K : tK) (MC MS : Nat) (post : Option Nat → tG → Prop) (k12 : Nat → Nat → Option Nat → Int32 → Int32 → Int32 → Int32 → Option Nat → Int32 → tG → Prop) (nc ns : Nat) (v0 : Option Nat) (v1 : Int32) (v2 : Int32) (v3 : Int32) (v4 : Int32) (v5 : Option Nat) (v6 : Int32) (v7 : Int32) (G : tG) : Prop := rcv G v0 2 (w_X0_read K (fun x_66 G_66 => bud nc ns MC MS (fun mc_69 ms_69 => w_X1_appendValue K mc_69 ms_69 (fun G_69 => k12 ((nc + mc_69)) ((ns + ms_69)) v0 v1 v2 v3 v4 v5 ((v6 + (1 : Int32))) G_69) v5 x_66 G_66)) v0 v7 G)
def w_X1_textOf_40 (K : tK) (MC MS : Nat) (post : Option Nat → tG → Prop) (k12 : Nat → Nat → Option Nat → Int32 → Int32 → Int32 → Int32 → Option Nat → Int32 → tG → Prop) (nc ns : Nat) (v0 : Option Nat) (v1 : Int32) (v2 : Int32) (v3 : Int32) (v4 : Int32) (v5 : Option Nat) (v6 : Int32) (v7 : Int32) (G : tG) : Prop := ((v4 = 0 → w_X1_textOf_61 K MC MS post k12 nc ns v0 v1 v2 v3 v4 v5 v6 v7 G) ∧ (¬ v4 = 0 → bud nc ns MC MS (fun mc_49 ms_49 => rcv G v5 1 (w_J4_append_bf812 K mc_49 ms_49 (fun x_49 G_49 => bud ((nc + mc_49)) ((ns + ms_49)) MC MS (fun mc_57 ms_57 => rcv G_49 v5 1 (w_J4_append_cf468 K mc_57 ms_57 (fun x_57 G_57 => w_X1_textOf_61 K MC MS post k12 (((nc + mc_49) + mc_57)) (((ns + ms_49) + ms_57)) v0 v1 v2 v3 v4 v5 v6 v7 G_57) v5 ((58 : Int32)) G_49))) v5 v7 G))))
def w_X1_textOf_12_b (K : tK) (MC MS : Nat) (post : Option Nat → tG → Prop) (k12 : Nat → Nat → Option Nat → Int32 → Int32 → Int32 → Int32 → Option Nat → Int32 → tG → Prop) (nc ns : Nat) (v0 : Option Nat) (v1 : Int32) (v2 : Int32) (v3 : Int32) (v4 : Int32) (v5 : Option Nat) (v6 : Int32) (G : tG) : Prop := ((v2 ≤ v6 → bud nc ns MC MS (fun mc_80 ms_80 => rcv G v5 1 (w_J4_toString_0e30d K mc_80 ms_80 (fun x_80 G_80 => post x_80 G_80) v5 G))) ∧ (¬ v2 ≤ v6 → w_X1_placeAfter K (fun x_22 G_22 => ((v6 ≤ 0 → w_X1_textOf_40 K MC MS post k12 nc ns v0 v1 v2 v3 v4 v5 v6 x_22 G_22) ∧ (¬ v6 ≤ 0 → bud nc ns MC MS (fun mc_36 ms_36 => rcv G_22 v5 1 (w_J4_append_cf468 K mc_36 ms_36 (fun x_36 G_36 => w_X1_textOf_40 K MC MS post k12 ((nc + mc_36)) ((ns + ms_36)) v0 v1 v2 v3 v4 v5 v6 x_22 G_36) v5 ((32 : Int32)) G_22))))) v1 v6 v3 G))
def w_X1_textOf_12 (K : tK) (MC MS : Nat) (post : Option Nat → tG → Prop) : Nat → Nat → Nat → Option Nat → Int32 → Int32 → Int32 → Int32 → Option Nat → Int32 → tG → Prop
  | 0 => fun _ _ _ _ _ _ _ _ _ _ => False
  | n + 1 => w_X1_textOf_12_b K MC MS post (w_X1_textOf_12 K MC MS post n)
def w_X1_textOf (K : tK) (MC MS : Nat) (post : Option Nat → tG → Prop) (v0 : Option Nat) (v1 : Int32) (v2 : Int32) (v3 : Int32) (v4 : Int32) (G : tG) : Prop := ((0 + 1 ≤ MC ∧ 0 + 4 ≤ MS) ∧ nwO G 1 [.null, .int 0, .int 0, .int 0] (fun r_0 G_0 => bud ((0 + 1)) ((0 + 4)) MC MS (fun mc_4 ms_4 => ((∃ q : Nat, r_0 = some q) ∧ w_J4_init_da8c8 K mc_4 ms_4 (fun G_4 => ∃ n : Nat, w_X1_textOf_12 K MC MS post n (((0 + 1) + mc_4)) (((0 + 4) + ms_4)) v0 v1 v2 v3 v4 r_0 ((0 : Int32)) G_4) r_0 G_0))))
def w_X1_walk (K : tK) (MC MS : Nat) (post : Option Nat → tG → Prop) (postX : String → tG → Prop) (v0 : Option Nat) (v1 : Int32) (v2 : Int32) (v3 : Int32) (v4 : Int32) (G : tG) : Prop := ((0 + 1 ≤ MC ∧ 0 + 6 ≤ MS) ∧ rcv G v0 3 (w_X1_listAt K (fun x_2 G_2 => gfI G_2 x_2 2 3 (fun x_11 => (((0 + 1) + 1 ≤ MC ∧ (0 + 6) + 6 ≤ MS) ∧ w_X1_checkNumber K (fun G_14 => ((((0 + 1) + 1) + 1 ≤ MC ∧ ((0 + 6) + 6) + 6 ≤ MS) ∧ w_X1_checkNumber K (fun G_21 => w_X1_stepsLeft K (fun x_30 G_30 => bud ((((0 + 1) + 1) + 1)) ((((0 + 6) + 6) + 6)) MC MS (fun mc_46 ms_46 => w_X1_textOf K mc_46 ms_46 (fun x_46 G_46 => post x_46 G_46) x_2 v2 ((if x_30 < v3 then x_30 else v3)) v4 ((1 : Int32)) G_30)) x_2 v2 v4 G_21) postX v3 ((0 : Int32)) ((12 : Int32)) G_14)) postX v2 ((0 : Int32)) x_11 G_2))) postX v0 v1 G))
def w_L_walk (K : tK) (MC MS : Nat) (post : Int32 → tG → Prop) (v0 : Option Nat) (v1 : Int32) (v2 : Int32) (v3 : Int32) (v4 : Int32) (v5 : Option Nat) (G : tG) : Prop := bud 0 0 MC MS (fun mc_8 ms_8 => rcv G v0 3 (w_X1_walk K mc_8 ms_8 (fun x_8 G_8 => pfV G_8 v5 4 1 (va_rf x_8) (fun G_11 => post ((0 : Int32)) G_11)) (fun E GX => ((E = "java/lang/IndexOutOfBoundsException" → post ((1 : Int32)) GX) ∧ (¬ E = "java/lang/IndexOutOfBoundsException" → ((E = "java/lang/IllegalArgumentException" → post ((2 : Int32)) GX) ∧ (¬ E = "java/lang/IllegalArgumentException" → False))))) v0 v1 v2 v3 v4 G))
def w_J0_coder_7d493_14 (K : tK) (post : Int32 → tG → Prop) (u0 : Int32) (G : tG) : Prop := (narrow .byte (.int u0) = .int u0 ∧ post u0 G)
def w_J0_coder_7d493 (K : tK) (post : Int32 → tG → Prop) (v0 : Option Nat) (G : tG) : Prop := (((1 : Int32) = 0 → w_J0_coder_7d493_14 K post ((1 : Int32)) G) ∧ (¬ (1 : Int32) = 0 → gsC K G v0 0 (fun x_7 => w_J0_coder_7d493_14 K post x_7 G)))
def w_J0_length_8abf5 (K : tK) (post : Int32 → tG → Prop) (v0 : Option Nat) (G : tG) : Prop := gsV K G v0 0 (fun x_1 => lenK K G x_1 (fun x_4 => rcvS K G v0 0 (w_J0_coder_7d493 K (fun x_6 G_6 => post ((x_4 >>> (x_6 &&& 31))) G_6) v0 G)))
def w_J5_inflateIfNeededFor_a7421_21 (K : tK) (post : tG → Prop) (G : tG) : Prop := post G
def w_J5_inflateIfNeededFor_a7421 (K : tK) (post : tG → Prop) (v0 : Option Nat) (v1 : Option Nat) (G : tG) : Prop := (((1 : Int32) = 0 → w_J5_inflateIfNeededFor_a7421_21 K post G) ∧ (¬ (1 : Int32) = 0 → gfI G v0 1 1 (fun x_7 => rcvS K G v1 0 (w_J0_coder_7d493 K (fun x_11 G_11 => ((x_7 = x_11 → w_J5_inflateIfNeededFor_a7421_21 K post G_11) ∧ (¬ x_7 = x_11 → False))) v1 G))))
def w_J0_getBytes_840e7 (K : tK) (post : tG → Prop) (v0 : Option Nat) (v1 : Option Nat) (v2 : Int32) (v3 : Int32) (G : tG) : Prop := rcvS K G v0 0 (w_J0_coder_7d493 K (fun x_1 G_1 => ((¬ x_1 = v3 → gsV K G_1 v0 0 (fun x_29 => gsV K G_1 v0 0 (fun x_36 => lenK K G_1 x_36 (fun x_39 => False)))) ∧ (x_1 = v3 → gsV K G_1 v0 0 (fun x_9 => gsV K G_1 v0 0 (fun x_18 => lenK K G_1 x_18 (fun x_21 => cpB K G_1 x_9 (0 : Int32) v1 (v2 <<< (v3 &&& 31)) x_21 (fun G_22 => post G_22))))))) v0 G)
def w_J5_putStringAt_47b60 (K : tK) (post : tG → Prop) (v0 : Option Nat) (v1 : Int32) (v2 : Option Nat) (G : tG) : Prop := rcv G v0 1 (w_J5_inflateIfNeededFor_a7421 K (fun G_2 => gfR G_2 v0 1 0 (fun x_7 => gfI G_2 v0 1 1 (fun x_12 => rcvS K G_2 v2 0 (w_J0_getBytes_840e7 K (fun G_15 => post G_15) v2 x_7 v1 x_12 G_2)))) v0 v2 G)
def w_J5_append_cf1ce (K : tK) (MC MS : Nat) (post : Option Nat → tG → Prop) (v0 : Option Nat) (v1 : Option Nat) (G : tG) : Prop := ((¬ v1 = none → rcvS K G v1 0 (w_J0_length_8abf5 K (fun x_10 G_10 => gfI G_10 v0 1 3 (fun x_16 => bud 0 0 MC MS (fun mc_21 ms_21 => rcv G_10 v0 1 (w_J5_ensureCapacityInternal_d00df K mc_21 ms_21 (fun G_21 => gfI G_21 v0 1 3 (fun x_26 => rcv G_21 v0 1 (w_J5_putStringAt_47b60 K (fun G_30 => gfI G_30 v0 1 3 (fun x_35 => pfV G_30 v0 1 3 (.int ((x_35 + x_10))) (fun G_40 => post v0 G_40))) v0 x_26 v1 G_21))) v0 ((x_16 + x_10)) G_10)))) v1 G)) ∧ (v1 = none → False))
def w_J4_append_15ec4 (K : tK) (MC MS : Nat) (post : Option Nat → tG → Prop) (v0 : Option Nat) (v1 : Option Nat) (G : tG) : Prop := bud 0 0 MC MS (fun mc_2 ms_2 => rcv G v0 1 (w_J5_append_cf1ce K mc_2 ms_2 (fun x_2 G_2 => post v0 G_2) v0 v1 G))
def w_J0_isEmpty_aae02_13 (K : tK) (post : Int32 → tG → Prop) (u0 : Int32) (G : tG) : Prop := (narrow .boolean (.int u0) = .int u0 ∧ post u0 G)
def w_J0_isEmpty_aae02 (K : tK) (post : Int32 → tG → Prop) (v0 : Option Nat) (G : tG) : Prop := gsV K G v0 0 (fun x_1 => lenK K G x_1 (fun x_4 => ((¬ x_4 = 0 → w_J0_isEmpty_aae02_13 K post ((0 : Int32)) G) ∧ (x_4 = 0 → w_J0_isEmpty_aae02_13 K post ((1 : Int32)) G))))
def w_X3_shown_31 (K : tK) (MC MS : Nat) (post : Option Nat → tG → Prop) (nc ns : Nat) (u0 : Option Nat) (G : tG) : Prop := post u0 G
def w_X3_shown (K : tK) (MC MS : Nat) (post : Option Nat → tG → Prop) (v0 : Int32) (G : tG) : Prop := ((¬ v0 = (-1000 : Int32) → ((0 + 1 ≤ MC ∧ 0 + 4 ≤ MS) ∧ nwO G 1 [.null, .int 0, .int 0, .int 0] (fun r_12 G_12 => bud ((0 + 1)) ((0 + 4)) MC MS (fun mc_16 ms_16 => ((∃ q : Nat, r_12 = some q) ∧ w_J4_init_da8c8 K mc_16 ms_16 (fun G_16 => bud (((0 + 1) + mc_16)) (((0 + 4) + ms_16)) MC MS (fun mc_21 ms_21 => rcv G_16 r_12 1 (w_J4_append_15ec4 K mc_21 ms_21 (fun x_21 G_21 => bud ((((0 + 1) + mc_16) + mc_21)) ((((0 + 4) + ms_16) + ms_21)) MC MS (fun mc_25 ms_25 => rcv G_21 x_21 1 (w_J4_append_bf812 K mc_25 ms_25 (fun x_25 G_25 => bud (((((0 + 1) + mc_16) + mc_21) + mc_25)) (((((0 + 4) + ms_16) + ms_21) + ms_25)) MC MS (fun mc_28 ms_28 => rcv G_25 x_25 1 (w_J4_toString_0e30d K mc_28 ms_28 (fun x_28 G_28 => w_X3_shown_31 K MC MS post ((((((0 + 1) + mc_16) + mc_21) + mc_25) + mc_28)) ((((((0 + 4) + ms_16) + ms_21) + ms_25) + ms_28)) x_28 G_28) x_25 G_25))) x_21 v0 G_21))) r_12 ((some (K.2.2 6))) G_16))) r_12 G_12))))) ∧ (v0 = (-1000 : Int32) → w_X3_shown_31 K MC MS post 0 0 ((some (K.2.2 5))) G))
def w_X3_walk_153 (K : tK) (MC MS : Nat) (post : Option Nat → tG → Prop) (k60 : Nat → Nat → Option Nat → Int32 → Int32 → Int32 → Option Nat → Int32 → Int32 → tG → Prop) (nc ns : Nat) (v0 : Option Nat) (v1 : Int32) (v3 : Int32) (v4 : Int32) (v5 : Option Nat) (v7 : Int32) (u0 : Int32) (u1 : Int32) (G : tG) : Prop := k60 nc ns v0 v1 v3 v4 v5 ((u0 + u1)) ((v7 + (1 : Int32))) G
def w_X3_walk_110 (K : tK) (MC MS : Nat) (post : Option Nat → tG → Prop) (k60 : Nat → Nat → Option Nat → Int32 → Int32 → Int32 → Option Nat → Int32 → Int32 → tG → Prop) (nc ns : Nat) (v0 : Option Nat) (v1 : Int32) (v3 : Int32) (v4 : Int32) (v6 : Int32) (v7 : Int32) (u0 : Option Nat) (u1 : Option Nat) (G : tG) : Prop := bud nc ns MC MS (fun mc_110 ms_110 => rcv G u0 1 (w_J4_append_15ec4 K mc_110 ms_110 (fun x_110 G_110 => bud ((nc + mc_110)) ((ns + ms_110)) MC MS (fun mc_115 ms_115 => rcv G_110 x_110 1 (w_J4_append_bf812 K mc_115 ms_115 (fun x_115 G_115 => bud (((nc + mc_110) + mc_115)) (((ns + ms_110) + ms_115)) MC MS (fun mc_120 ms_120 => rcv G_115 x_115 1 (w_J4_append_15ec4 K mc_120 ms_120 (fun x_120 G_120 => rcv G_120 v0 5 (w_X3_value K (fun x_127 G_127 => bud ((((nc + mc_110) + mc_115) + mc_120)) ((((ns + ms_110) + ms_115) + ms_120)) MC MS (fun mc_130 ms_130 => w_X3_shown K mc_130 ms_130 (fun x_130 G_130 => bud (((((nc + mc_110) + mc_115) + mc_120) + mc_130)) (((((ns + ms_110) + ms_115) + ms_120) + ms_130)) MC MS (fun mc_133 ms_133 => rcv G_130 x_120 1 (w_J4_append_15ec4 K mc_133 ms_133 (fun x_133 G_133 => bud ((((((nc + mc_110) + mc_115) + mc_120) + mc_130) + mc_133)) ((((((ns + ms_110) + ms_115) + ms_120) + ms_130) + ms_133)) MC MS (fun mc_136 ms_136 => rcv G_133 x_133 1 (w_J4_toString_0e30d K mc_136 ms_136 (fun x_136 G_136 => ((v4 = 0 → w_X3_walk_153 K MC MS post k60 (((((((nc + mc_110) + mc_115) + mc_120) + mc_130) + mc_133) + mc_136)) (((((((ns + ms_110) + ms_115) + ms_120) + ms_130) + ms_133) + ms_136)) v0 v1 v3 v4 x_136 v7 v6 ((1 : Int32)) G_136) ∧ (¬ v4 = 0 → w_X3_walk_153 K MC MS post k60 (((((((nc + mc_110) + mc_115) + mc_120) + mc_130) + mc_133) + mc_136)) (((((((ns + ms_110) + ms_115) + ms_120) + ms_130) + ms_133) + ms_136)) v0 v1 v3 v4 x_136 v7 v6 ((-1 : Int32)) G_136))) x_133 G_133))) x_120 x_130 G_130))) x_127 G_127)) v0 v1 v6 G_120)) x_115 ((some (K.2.2 8))) G_115))) x_110 v6 G_110))) u0 u1 G))
def w_X3_walk_162 (K : tK) (MC MS : Nat) (post : Option Nat → tG → Prop) (nc ns : Nat) (v5 : Option Nat) (G : tG) : Prop := post v5 G
def w_X3_walk_60_b (K : tK) (MC MS : Nat) (post : Option Nat → tG → Prop) (k60 : Nat → Nat → Option Nat → Int32 → Int32 → Int32 → Option Nat → Int32 → Int32 → tG → Prop) (nc ns : Nat) (v0 : Option Nat) (v1 : Int32) (v3 : Int32) (v4 : Int32) (v5 : Option Nat) (v6 : Int32) (v7 : Int32) (G : tG) : Prop := ((v3 ≤ v7 → w_X3_walk_162 K MC MS post nc ns v5 G) ∧ (¬ v3 ≤ v7 → gfR G v0 5 3 (fun x_70 => alI G x_70 v1 .int (fun x_74 => w_X3_isIn K (fun x_77 G_77 => ((x_77 = 0 → w_X3_walk_162 K MC MS post nc ns v5 G_77) ∧ (¬ x_77 = 0 → ((nc + 1 ≤ MC ∧ ns + 4 ≤ MS) ∧ nwO G_77 1 [.null, .int 0, .int 0, .int 0] (fun r_83 G_83 => bud ((nc + 1)) ((ns + 4)) MC MS (fun mc_87 ms_87 => ((∃ q : Nat, r_83 = some q) ∧ w_J4_init_da8c8 K mc_87 ms_87 (fun G_87 => bud (((nc + 1) + mc_87)) (((ns + 4) + ms_87)) MC MS (fun mc_92 ms_92 => rcv G_87 r_83 1 (w_J4_append_15ec4 K mc_92 ms_92 (fun x_92 G_92 => rcvS K G_92 v5 0 (w_J0_isEmpty_aae02 K (fun x_97 G_97 => ((x_97 = 0 → w_X3_walk_110 K MC MS post k60 ((((nc + 1) + mc_87) + mc_92)) ((((ns + 4) + ms_87) + ms_92)) v0 v1 v3 v4 v6 v7 x_92 ((some (K.2.2 7))) G_97) ∧ (¬ x_97 = 0 → w_X3_walk_110 K MC MS post k60 ((((nc + 1) + mc_87) + mc_92)) ((((ns + 4) + ms_87) + ms_92)) v0 v1 v3 v4 v6 v7 x_92 ((some (K.2.2 6))) G_97))) v5 G_92)) r_83 v5 G_87))) r_83 G_83))))))) v6 ((0 : Int32)) ((x_74 - (1 : Int32))) G))))
def w_X3_walk_60 (K : tK) (MC MS : Nat) (post : Option Nat → tG → Prop) : Nat → Nat → Nat → Option Nat → Int32 → Int32 → Int32 → Option Nat → Int32 → Int32 → tG → Prop
  | 0 => fun _ _ _ _ _ _ _ _ _ _ => False
  | n + 1 => w_X3_walk_60_b K MC MS post (w_X3_walk_60 K MC MS post n)
def w_X3_walk_55 (K : tK) (MC MS : Nat) (post : Option Nat → tG → Prop) (nc ns : Nat) (v0 : Option Nat) (v1 : Int32) (v3 : Int32) (v4 : Int32) (v5 : Option Nat) (u0 : Int32) (G : tG) : Prop := ∃ n : Nat, w_X3_walk_60 K MC MS post n nc ns v0 v1 v3 v4 v5 u0 ((0 : Int32)) G
def w_X3_walk_30 (K : tK) (MC MS : Nat) (post : Option Nat → tG → Prop) (nc ns : Nat) (v0 : Option Nat) (v1 : Int32) (v2 : Int32) (v3 : Int32) (v4 : Int32) (u0 : Option Nat) (u1 : Int32) (u2 : Int32) (G : tG) : Prop := rcv G u0 5 (w_X3_fails K (fun x_30 G_30 => ((x_30 = 0 → ((v4 = 0 → w_X3_walk_55 K MC MS post nc ns v0 v1 v3 v4 ((some (K.2.2 6))) v2 G_30) ∧ (¬ v4 = 0 → w_X3_walk_55 K MC MS post nc ns v0 v1 v3 v4 ((some (K.2.2 6))) ((v2 - (1 : Int32))) G_30))) ∧ (¬ x_30 = 0 → post ((some (K.2.2 6))) G_30))) u0 u1 u2 G)
def w_X3_walk_25 (K : tK) (MC MS : Nat) (post : Option Nat → tG → Prop) (nc ns : Nat) (v0 : Option Nat) (v1 : Int32) (v2 : Int32) (v3 : Int32) (v4 : Int32) (u0 : Option Nat) (u1 : Int32) (G : tG) : Prop := w_X3_walk_30 K MC MS post nc ns v0 v1 v2 v3 v4 u0 u1 ((1 : Int32)) G
def w_X3_walk (K : tK) (MC MS : Nat) (post : Option Nat → tG → Prop) (v0 : Option Nat) (v1 : Int32) (v2 : Int32) (v3 : Int32) (v4 : Int32) (G : tG) : Prop := rcv G v0 5 (w_X3_isNoList K (fun x_3 G_3 => rcv G_3 v0 5 (w_X3_isBeyond K (fun x_9 G_9 => ((¬ x_9 = 0 → w_X3_walk_25 K MC MS post 0 0 v0 v1 v2 v3 v4 v0 x_3 G_9) ∧ (x_9 = 0 → w_X3_isIn K (fun x_19 G_19 => ((¬ x_19 = 0 → w_X3_walk_30 K MC MS post 0 0 v0 v1 v2 v3 v4 v0 x_3 ((0 : Int32)) G_19) ∧ (x_19 = 0 → w_X3_walk_25 K MC MS post 0 0 v0 v1 v2 v3 v4 v0 x_3 G_19))) v3 ((0 : Int32)) ((12 : Int32)) G_9))) v0 v1 v2 G_3)) v0 v1 G)
def w_L_code (K : tK) (post : Int32 → tG → Prop) (v0 : Option Nat) (v1 : Int32) (v2 : Option Nat) (G : tG) : Prop := rcv G v0 3 (w_X1_code K (fun x_3 G_3 => pfV G_3 v2 4 0 (.long (((x_3).toInt64))) (fun G_7 => post ((0 : Int32)) G_7)) (fun E GX => ((E = "java/lang/IndexOutOfBoundsException" → post ((1 : Int32)) GX) ∧ (¬ E = "java/lang/IndexOutOfBoundsException" → False))) v0 v1 G)
def w_X3_code_22 (K : tK) (post : Int32 → tG → Prop) (u0 : Int32) (G : tG) : Prop := post u0 G
def w_X3_code (K : tK) (post : Int32 → tG → Prop) (v0 : Option Nat) (v1 : Int32) (G : tG) : Prop := rcv G v0 5 (w_X3_isNoList K (fun x_3 G_3 => rcv G_3 v0 5 (w_X3_fails K (fun x_7 G_7 => ((x_7 = 0 → rcv G_7 v0 5 (w_X3_codeNow K (fun x_19 G_19 => w_X3_code_22 K post x_19 G_19) v0 v1 G_7)) ∧ (¬ x_7 = 0 → w_X3_code_22 K post ((0 : Int32)) G_7))) v0 x_3 ((0 : Int32)) G_3)) v0 v1 G)
def w_X1_areEqual (K : tK) (post : Int32 → tG → Prop) (postX : String → tG → Prop) (v0 : Option Nat) (v1 : Int32) (v2 : Int32) (G : tG) : Prop := rcv G v0 3 (w_X1_listAt K (fun x_2 G_2 => rcv G_2 v0 3 (w_X1_listAt K (fun x_9 G_9 => w_X1_areSame K (fun x_12 G_12 => (narrow .boolean (.int x_12) = .int x_12 ∧ post x_12 G_12)) x_2 x_9 G_9) postX v0 v2 G_2)) postX v0 v1 G)
def w_L_areEqual_15 (K : tK) (post : Int32 → tG → Prop) (u0 : Option Nat) (u1 : Int64) (G : tG) : Prop := pfV G u0 4 0 (.long u1) (fun G_15 => post ((0 : Int32)) G_15)
def w_L_areEqual (K : tK) (post : Int32 → tG → Prop) (v0 : Option Nat) (v1 : Int32) (v2 : Int32) (v3 : Option Nat) (G : tG) : Prop := rcv G v0 3 (w_X1_areEqual K (fun x_4 G_4 => ((x_4 = 0 → w_L_areEqual_15 K post v3 ((0 : Int64)) G_4) ∧ (¬ x_4 = 0 → w_L_areEqual_15 K post v3 ((1 : Int64)) G_4))) (fun E GX => ((E = "java/lang/IndexOutOfBoundsException" → post ((1 : Int32)) GX) ∧ (¬ E = "java/lang/IndexOutOfBoundsException" → False))) v0 v1 v2 G)
def w_X3_isAt_47 (K : tK) (post : Int32 → tG → Prop) (k18 : Option Nat → Int32 → Option Nat → Int32 → Int32 → tG → Prop) (v0 : Option Nat) (v1 : Int32) (v2 : Option Nat) (v4 : Int32) (u0 : Int32) (G : tG) : Prop := k18 v0 v1 v2 u0 ((v4 + (1 : Int32))) G
def w_X3_isAt_54 (K : tK) (post : Int32 → tG → Prop) (v3 : Int32) (G : tG) : Prop := (narrow .boolean (.int v3) = .int v3 ∧ post v3 G)
def w_X3_isAt_18_b (K : tK) (post : Int32 → tG → Prop) (k18 : Option Nat → Int32 → Option Nat → Int32 → Int32 → tG → Prop) (v0 : Option Nat) (v1 : Int32) (v2 : Option Nat) (v3 : Int32) (v4 : Int32) (G : tG) : Prop := lenA G v2 (fun x_21 => ((x_21 ≤ v4 → w_X3_isAt_54 K post v3 G) ∧ (¬ x_21 ≤ v4 → ((v3 = 0 → w_X3_isAt_54 K post v3 G) ∧ (¬ v3 = 0 → alI G v0 (v1 + v4) .int (fun x_34 => alI G v2 v4 .int (fun x_38 => ((¬ x_34 = x_38 → w_X3_isAt_47 K post k18 v0 v1 v2 v4 ((0 : Int32)) G) ∧ (x_34 = x_38 → w_X3_isAt_47 K post k18 v0 v1 v2 v4 ((1 : Int32)) G)))))))))
def w_X3_isAt_18 (K : tK) (post : Int32 → tG → Prop) : Nat → Option Nat → Int32 → Option Nat → Int32 → Int32 → tG → Prop
  | 0 => fun _ _ _ _ _ _ => False
  | n + 1 => w_X3_isAt_18_b K post (w_X3_isAt_18 K post n)
def w_X3_isAt_14 (K : tK) (post : Int32 → tG → Prop) (v0 : Option Nat) (v1 : Int32) (v2 : Option Nat) (u0 : Int32) (G : tG) : Prop := ∃ n : Nat, w_X3_isAt_18 K post n v0 v1 v2 u0 ((0 : Int32)) G
def w_X3_isAt (K : tK) (post : Int32 → tG → Prop) (v0 : Option Nat) (v1 : Int32) (v2 : Option Nat) (G : tG) : Prop := lenA G v2 (fun x_2 => lenA G v0 (fun x_5 => ((x_5 < (v1 + x_2) → w_X3_isAt_14 K post v0 v1 v2 ((0 : Int32)) G) ∧ (¬ x_5 < (v1 + x_2) → w_X3_isAt_14 K post v0 v1 v2 ((1 : Int32)) G))))
def w_X3_areEqual_51 (K : tK) (post : Int32 → tG → Prop) (u0 : Int32) (G : tG) : Prop := (narrow .boolean (.int u0) = .int u0 ∧ post u0 G)
def w_X3_areEqual_50 (K : tK) (post : Int32 → tG → Prop) (G : tG) : Prop := w_X3_areEqual_51 K post ((0 : Int32)) G
def w_X3_areEqual (K : tK) (post : Int32 → tG → Prop) (v0 : Option Nat) (v1 : Int32) (v2 : Int32) (G : tG) : Prop := rcv G v0 5 (w_X3_isNoPair K (fun x_4 G_4 => rcv G_4 v0 5 (w_X3_fails K (fun x_8 G_8 => ((¬ x_8 = 0 → w_X3_areEqual_50 K post G_8) ∧ (x_8 = 0 → gfR G_8 v0 5 3 (fun x_15 => alI G_8 x_15 v1 .int (fun x_19 => gfR G_8 v0 5 3 (fun x_21 => alI G_8 x_21 v2 .int (fun x_25 => ((¬ x_19 = x_25 → w_X3_areEqual_50 K post G_8) ∧ (x_19 = x_25 → rcv G_8 v0 5 (w_X3_all K (fun x_31 G_31 => rcv G_31 v0 5 (w_X3_all K (fun x_37 G_37 => w_X3_isAt K (fun x_40 G_40 => ((x_40 = 0 → w_X3_areEqual_50 K post G_40) ∧ (¬ x_40 = 0 → w_X3_areEqual_51 K post ((1 : Int32)) G_40))) x_31 ((0 : Int32)) x_37 G_37) v0 v2 G_31)) v0 v1 G_8)))))))))) v0 x_4 ((0 : Int32)) G_4)) v0 v1 v2 G)
def w_X1_indexOfAll_16_b (K : tK) (post : Int32 → tG → Prop) (postX : String → tG → Prop) (k16 : Option Nat → Option Nat → Int32 → tG → Prop) (v3 : Option Nat) (v4 : Option Nat) (v5 : Int32) (G : tG) : Prop := gfI G v3 2 3 (fun x_19 => gfI G v4 2 3 (fun x_24 => (((x_19 - x_24) < v5 → post ((-1 : Int32)) G) ∧ (¬ (x_19 - x_24) < v5 → w_X1_hasAllFrom K (fun x_36 G_36 => ((x_36 = 0 → k16 v3 v4 ((v5 + (1 : Int32))) G_36) ∧ (¬ x_36 = 0 → post v5 G_36))) v3 v5 v4 G))))
def w_X1_indexOfAll_16 (K : tK) (post : Int32 → tG → Prop) (postX : String → tG → Prop) : Nat → Option Nat → Option Nat → Int32 → tG → Prop
  | 0 => fun _ _ _ _ => False
  | n + 1 => w_X1_indexOfAll_16_b K post postX (w_X1_indexOfAll_16 K post postX n)
def w_X1_indexOfAll (K : tK) (post : Int32 → tG → Prop) (postX : String → tG → Prop) (v0 : Option Nat) (v1 : Int32) (v2 : Int32) (G : tG) : Prop := rcv G v0 3 (w_X1_listAt K (fun x_2 G_2 => rcv G_2 v0 3 (w_X1_listAt K (fun x_8 G_8 => ∃ n : Nat, w_X1_indexOfAll_16 K post postX n x_2 x_8 ((0 : Int32)) G_8) postX v0 v2 G_2)) postX v0 v1 G)
def w_L_indexOfAll (K : tK) (post : Int32 → tG → Prop) (v0 : Option Nat) (v1 : Int32) (v2 : Int32) (v3 : Option Nat) (G : tG) : Prop := rcv G v0 3 (w_X1_indexOfAll K (fun x_4 G_4 => pfV G_4 v3 4 0 (.long (((x_4).toInt64))) (fun G_8 => post ((0 : Int32)) G_8)) (fun E GX => ((E = "java/lang/IndexOutOfBoundsException" → post ((1 : Int32)) GX) ∧ (¬ E = "java/lang/IndexOutOfBoundsException" → False))) v0 v1 v2 G)
def w_X3_indexOfAll_18_b (K : tK) (post : Int32 → tG → Prop) (k18 : Nat → Nat → Option Nat → Int32 → Int32 → Int32 → tG → Prop) (nc ns : Nat) (v0 : Option Nat) (v1 : Int32) (v2 : Int32) (v3 : Int32) (G : tG) : Prop := gfR G v0 5 3 (fun x_20 => alI G x_20 v1 .int (fun x_24 => ((x_24 < v3 → post ((-1 : Int32)) G) ∧ (¬ x_24 < v3 → ((nc + 1 ≤ 26 ∧ ns + 12 ≤ 312) ∧ rcv G v0 5 (w_X3_all K (fun x_30 G_30 => (((nc + 1) + 1 ≤ 26 ∧ (ns + 12) + 12 ≤ 312) ∧ rcv G_30 v0 5 (w_X3_all K (fun x_36 G_36 => w_X3_isAt K (fun x_39 G_39 => ((x_39 = 0 → k18 (((nc + 1) + 1)) (((ns + 12) + 12)) v0 v1 v2 ((v3 + (1 : Int32))) G_39) ∧ (¬ x_39 = 0 → post v3 G_39))) x_30 v3 x_36 G_36) v0 v2 G_30))) v0 v1 G))))))
def w_X3_indexOfAll_18 (K : tK) (post : Int32 → tG → Prop) : Nat → Nat → Nat → Option Nat → Int32 → Int32 → Int32 → tG → Prop
  | 0 => fun _ _ _ _ _ _ _ => False
  | n + 1 => w_X3_indexOfAll_18_b K post (w_X3_indexOfAll_18 K post n)
def w_X3_indexOfAll (K : tK) (post : Int32 → tG → Prop) (v0 : Option Nat) (v1 : Int32) (v2 : Int32) (G : tG) : Prop := rcv G v0 5 (w_X3_isNoPair K (fun x_4 G_4 => rcv G_4 v0 5 (w_X3_fails K (fun x_8 G_8 => ((x_8 = 0 → ∃ n : Nat, w_X3_indexOfAll_18 K post n 0 0 v0 v1 v2 ((0 : Int32)) G_8) ∧ (¬ x_8 = 0 → post ((0 : Int32)) G_8))) v0 x_4 ((0 : Int32)) G_4)) v0 v1 v2 G)
def w_X1_areApart_24 (K : tK) (post : Int32 → tG → Prop) (postX : String → tG → Prop) (u0 : Int32) (G : tG) : Prop := (narrow .boolean (.int u0) = .int u0 ∧ post u0 G)
def w_X1_areApart (K : tK) (post : Int32 → tG → Prop) (postX : String → tG → Prop) (v0 : Option Nat) (v1 : Int32) (v2 : Int32) (G : tG) : Prop := rcv G v0 3 (w_X1_listAt K (fun x_2 G_2 => rcv G_2 v0 3 (w_X1_listAt K (fun x_9 G_9 => w_X1_hasOneThatStands K (fun x_13 G_13 => ((¬ x_13 = 0 → w_X1_areApart_24 K post postX ((0 : Int32)) G_13) ∧ (x_13 = 0 → w_X1_areApart_24 K post postX ((1 : Int32)) G_13))) x_2 x_9 ((1 : Int32)) G_9) postX v0 v2 G_2)) postX v0 v1 G)
def w_L_areApart_15 (K : tK) (post : Int32 → tG → Prop) (u0 : Option Nat) (u1 : Int64) (G : tG) : Prop := pfV G u0 4 0 (.long u1) (fun G_15 => post ((0 : Int32)) G_15)
def w_L_areApart (K : tK) (post : Int32 → tG → Prop) (v0 : Option Nat) (v1 : Int32) (v2 : Int32) (v3 : Option Nat) (G : tG) : Prop := rcv G v0 3 (w_X1_areApart K (fun x_4 G_4 => ((x_4 = 0 → w_L_areApart_15 K post v3 ((0 : Int64)) G_4) ∧ (¬ x_4 = 0 → w_L_areApart_15 K post v3 ((1 : Int64)) G_4))) (fun E GX => ((E = "java/lang/IndexOutOfBoundsException" → post ((1 : Int32)) GX) ∧ (¬ E = "java/lang/IndexOutOfBoundsException" → False))) v0 v1 v2 G)
def w_X3_areApart_28 (K : tK) (post : Int32 → tG → Prop) (u0 : Int32) (G : tG) : Prop := (narrow .boolean (.int u0) = .int u0 ∧ post u0 G)
def w_X3_areApart_27 (K : tK) (post : Int32 → tG → Prop) (G : tG) : Prop := w_X3_areApart_28 K post ((0 : Int32)) G
def w_X3_areApart (K : tK) (post : Int32 → tG → Prop) (v0 : Option Nat) (v1 : Int32) (v2 : Int32) (G : tG) : Prop := rcv G v0 5 (w_X3_isNoPair K (fun x_4 G_4 => rcv G_4 v0 5 (w_X3_fails K (fun x_8 G_8 => ((¬ x_8 = 0 → w_X3_areApart_27 K post G_8) ∧ (x_8 = 0 → rcv G_8 v0 5 (w_X3_shared K (fun x_17 G_17 => ((¬ x_17 = 0 → w_X3_areApart_27 K post G_17) ∧ (x_17 = 0 → w_X3_areApart_28 K post ((1 : Int32)) G_17))) v0 v1 v2 G_8)))) v0 x_4 ((0 : Int32)) G_4)) v0 v1 v2 G)
def w_X1_hasAll_24 (K : tK) (post : Int32 → tG → Prop) (postX : String → tG → Prop) (u0 : Int32) (G : tG) : Prop := (narrow .boolean (.int u0) = .int u0 ∧ post u0 G)
def w_X1_hasAll (K : tK) (post : Int32 → tG → Prop) (postX : String → tG → Prop) (v0 : Option Nat) (v1 : Int32) (v2 : Int32) (G : tG) : Prop := rcv G v0 3 (w_X1_listAt K (fun x_2 G_2 => rcv G_2 v0 3 (w_X1_listAt K (fun x_8 G_8 => w_X1_hasOneThatStands K (fun x_13 G_13 => ((¬ x_13 = 0 → w_X1_hasAll_24 K post postX ((0 : Int32)) G_13) ∧ (x_13 = 0 → w_X1_hasAll_24 K post postX ((1 : Int32)) G_13))) x_8 x_2 ((0 : Int32)) G_8) postX v0 v2 G_2)) postX v0 v1 G)
def w_L_hasAll_15 (K : tK) (post : Int32 → tG → Prop) (u0 : Option Nat) (u1 : Int64) (G : tG) : Prop := pfV G u0 4 0 (.long u1) (fun G_15 => post ((0 : Int32)) G_15)
def w_L_hasAll (K : tK) (post : Int32 → tG → Prop) (v0 : Option Nat) (v1 : Int32) (v2 : Int32) (v3 : Option Nat) (G : tG) : Prop := rcv G v0 3 (w_X1_hasAll K (fun x_4 G_4 => ((x_4 = 0 → w_L_hasAll_15 K post v3 ((0 : Int64)) G_4) ∧ (¬ x_4 = 0 → w_L_hasAll_15 K post v3 ((1 : Int64)) G_4))) (fun E GX => ((E = "java/lang/IndexOutOfBoundsException" → post ((1 : Int32)) GX) ∧ (¬ E = "java/lang/IndexOutOfBoundsException" → False))) v0 v1 v2 G)
def w_X3_hasAll_34 (K : tK) (post : Int32 → tG → Prop) (u0 : Int32) (G : tG) : Prop := (narrow .boolean (.int u0) = .int u0 ∧ post u0 G)
def w_X3_hasAll_33 (K : tK) (post : Int32 → tG → Prop) (G : tG) : Prop := w_X3_hasAll_34 K post ((0 : Int32)) G
def w_X3_hasAll (K : tK) (post : Int32 → tG → Prop) (v0 : Option Nat) (v1 : Int32) (v2 : Int32) (G : tG) : Prop := rcv G v0 5 (w_X3_isNoPair K (fun x_4 G_4 => rcv G_4 v0 5 (w_X3_fails K (fun x_8 G_8 => ((¬ x_8 = 0 → w_X3_hasAll_33 K post G_8) ∧ (x_8 = 0 → rcv G_8 v0 5 (w_X3_shared K (fun x_17 G_17 => gfR G_17 v0 5 3 (fun x_21 => alI G_17 x_21 v2 .int (fun x_25 => ((¬ x_17 = x_25 → w_X3_hasAll_33 K post G_17) ∧ (x_17 = x_25 → w_X3_hasAll_34 K post ((1 : Int32)) G_17))))) v0 v2 v1 G_8)))) v0 x_4 ((0 : Int32)) G_4)) v0 v1 v2 G)
def w_X1_often_42 (K : tK) (post : Int32 → tG → Prop) (postX : String → tG → Prop) (k16 : Int32 → Option Nat → Int32 → Int32 → tG → Prop) (v2 : Int32) (v3 : Option Nat) (v5 : Int32) (u0 : Int32) (u1 : Int32) (G : tG) : Prop := k16 v2 v3 ((u0 + u1)) ((v5 + (1 : Int32))) G
def w_X1_often_16_b (K : tK) (post : Int32 → tG → Prop) (postX : String → tG → Prop) (k16 : Int32 → Option Nat → Int32 → Int32 → tG → Prop) (v2 : Int32) (v3 : Option Nat) (v4 : Int32) (v5 : Int32) (G : tG) : Prop := gfI G v3 2 3 (fun x_19 => ((x_19 ≤ v5 → post v4 G) ∧ (¬ x_19 ≤ v5 → rcv G v3 2 (w_X0_read K (fun x_30 G_30 => ((¬ x_30 = v2 → w_X1_often_42 K post postX k16 v2 v3 v5 v4 ((0 : Int32)) G_30) ∧ (x_30 = v2 → w_X1_often_42 K post postX k16 v2 v3 v5 v4 ((1 : Int32)) G_30))) v3 v5 G))))
def w_X1_often_16 (K : tK) (post : Int32 → tG → Prop) (postX : String → tG → Prop) : Nat → Int32 → Option Nat → Int32 → Int32 → tG → Prop
  | 0 => fun _ _ _ _ _ => False
  | n + 1 => w_X1_often_16_b K post postX (w_X1_often_16 K post postX n)
def w_X1_often (K : tK) (post : Int32 → tG → Prop) (postX : String → tG → Prop) (v0 : Option Nat) (v1 : Int32) (v2 : Int32) (G : tG) : Prop := rcv G v0 3 (w_X1_listAt K (fun x_2 G_2 => w_X1_checkValue K (fun G_7 => ∃ n : Nat, w_X1_often_16 K post postX n v2 x_2 ((0 : Int32)) ((0 : Int32)) G_7) postX v2 G_2) postX v0 v1 G)
def w_L_often (K : tK) (post : Int32 → tG → Prop) (v0 : Option Nat) (v1 : Int32) (v2 : Int32) (v3 : Option Nat) (G : tG) : Prop := rcv G v0 3 (w_X1_often K (fun x_4 G_4 => pfV G_4 v3 4 0 (.long (((x_4).toInt64))) (fun G_8 => post ((0 : Int32)) G_8)) (fun E GX => ((E = "java/lang/IndexOutOfBoundsException" → post ((1 : Int32)) GX) ∧ (¬ E = "java/lang/IndexOutOfBoundsException" → ((E = "java/lang/IllegalArgumentException" → post ((2 : Int32)) GX) ∧ (¬ E = "java/lang/IllegalArgumentException" → False))))) v0 v1 v2 G)
def w_X3_often_29 (K : tK) (post : Int32 → tG → Prop) (u0 : Int32) (G : tG) : Prop := post u0 G
def w_X3_often (K : tK) (post : Int32 → tG → Prop) (v0 : Option Nat) (v1 : Int32) (v2 : Int32) (G : tG) : Prop := rcv G v0 5 (w_X3_isNoList K (fun x_3 G_3 => w_X3_isNoValue K (fun x_7 G_7 => rcv G_7 v0 5 (w_X3_fails K (fun x_10 G_10 => ((x_10 = 0 → rcv G_10 v0 5 (w_X3_all K (fun x_22 G_22 => w_X3_oftenIn K (fun x_26 G_26 => w_X3_often_29 K post x_26 G_26) x_22 v2 G_22) v0 v1 G_10)) ∧ (¬ x_10 = 0 → w_X3_often_29 K post ((0 : Int32)) G_10))) v0 x_3 x_7 G_7)) v2 G_3) v0 v1 G)
def w_X1_has (K : tK) (post : Int32 → tG → Prop) (postX : String → tG → Prop) (v0 : Option Nat) (v1 : Int32) (v2 : Int32) (G : tG) : Prop := rcv G v0 3 (w_X1_listAt K (fun x_2 G_2 => w_X1_checkValue K (fun G_7 => w_X1_stands K (fun x_12 G_12 => (narrow .boolean (.int x_12) = .int x_12 ∧ post x_12 G_12)) x_2 v2 G_7) postX v2 G_2) postX v0 v1 G)
def w_L_has_15 (K : tK) (post : Int32 → tG → Prop) (u0 : Option Nat) (u1 : Int64) (G : tG) : Prop := pfV G u0 4 0 (.long u1) (fun G_15 => post ((0 : Int32)) G_15)
def w_L_has (K : tK) (post : Int32 → tG → Prop) (v0 : Option Nat) (v1 : Int32) (v2 : Int32) (v3 : Option Nat) (G : tG) : Prop := rcv G v0 3 (w_X1_has K (fun x_4 G_4 => ((x_4 = 0 → w_L_has_15 K post v3 ((0 : Int64)) G_4) ∧ (¬ x_4 = 0 → w_L_has_15 K post v3 ((1 : Int64)) G_4))) (fun E GX => ((E = "java/lang/IndexOutOfBoundsException" → post ((1 : Int32)) GX) ∧ (¬ E = "java/lang/IndexOutOfBoundsException" → ((E = "java/lang/IllegalArgumentException" → post ((2 : Int32)) GX) ∧ (¬ E = "java/lang/IllegalArgumentException" → False))))) v0 v1 v2 G)
def w_X3_placeOf_2_b (K : tK) (post : Int32 → tG → Prop) (k2 : Option Nat → Int32 → Int32 → tG → Prop) (v0 : Option Nat) (v1 : Int32) (v2 : Int32) (G : tG) : Prop := lenA G v0 (fun x_4 => ((x_4 ≤ v2 → post ((-1 : Int32)) G) ∧ (¬ x_4 ≤ v2 → alI G v0 v2 .int (fun x_10 => ((¬ x_10 = v1 → k2 v0 v1 ((v2 + (1 : Int32))) G) ∧ (x_10 = v1 → post v2 G))))))
def w_X3_placeOf_2 (K : tK) (post : Int32 → tG → Prop) : Nat → Option Nat → Int32 → Int32 → tG → Prop
  | 0 => fun _ _ _ _ => False
  | n + 1 => w_X3_placeOf_2_b K post (w_X3_placeOf_2 K post n)
def w_X3_placeOf (K : tK) (post : Int32 → tG → Prop) (v0 : Option Nat) (v1 : Int32) (G : tG) : Prop := ∃ n : Nat, w_X3_placeOf_2 K post n v0 v1 ((0 : Int32)) G
def w_X3_has_33 (K : tK) (post : Int32 → tG → Prop) (u0 : Int32) (G : tG) : Prop := (narrow .boolean (.int u0) = .int u0 ∧ post u0 G)
def w_X3_has_32 (K : tK) (post : Int32 → tG → Prop) (G : tG) : Prop := w_X3_has_33 K post ((0 : Int32)) G
def w_X3_has (K : tK) (post : Int32 → tG → Prop) (v0 : Option Nat) (v1 : Int32) (v2 : Int32) (G : tG) : Prop := rcv G v0 5 (w_X3_isNoList K (fun x_3 G_3 => w_X3_isNoValue K (fun x_7 G_7 => rcv G_7 v0 5 (w_X3_fails K (fun x_10 G_10 => ((¬ x_10 = 0 → w_X3_has_32 K post G_10) ∧ (x_10 = 0 → rcv G_10 v0 5 (w_X3_all K (fun x_18 G_18 => w_X3_placeOf K (fun x_22 G_22 => ((x_22 < 0 → w_X3_has_32 K post G_22) ∧ (¬ x_22 < 0 → w_X3_has_33 K post ((1 : Int32)) G_22))) x_18 v2 G_18) v0 v1 G_10)))) v0 x_3 x_7 G_7)) v2 G_3) v0 v1 G)
def w_X1_lastIndexOf (K : tK) (post : Int32 → tG → Prop) (postX : String → tG → Prop) (v0 : Option Nat) (v1 : Int32) (v2 : Int32) (G : tG) : Prop := rcv G v0 3 (w_X1_listAt K (fun x_2 G_2 => w_X1_checkValue K (fun G_7 => w_X1_lastPlace K (fun x_12 G_12 => post x_12 G_12) x_2 v2 G_7) postX v2 G_2) postX v0 v1 G)
def w_L_lastIndexOf (K : tK) (post : Int32 → tG → Prop) (v0 : Option Nat) (v1 : Int32) (v2 : Int32) (v3 : Option Nat) (G : tG) : Prop := rcv G v0 3 (w_X1_lastIndexOf K (fun x_4 G_4 => pfV G_4 v3 4 0 (.long (((x_4).toInt64))) (fun G_8 => post ((0 : Int32)) G_8)) (fun E GX => ((E = "java/lang/IndexOutOfBoundsException" → post ((1 : Int32)) GX) ∧ (¬ E = "java/lang/IndexOutOfBoundsException" → ((E = "java/lang/IllegalArgumentException" → post ((2 : Int32)) GX) ∧ (¬ E = "java/lang/IllegalArgumentException" → False))))) v0 v1 v2 G)
def w_X3_lastIndexOf_48 (K : tK) (post : Int32 → tG → Prop) (k23 : Option Nat → Int32 → Int32 → Int32 → Int32 → tG → Prop) (v0 : Option Nat) (v1 : Int32) (v2 : Int32) (v3 : Int32) (v4 : Int32) (G : tG) : Prop := k23 v0 v1 v2 v3 ((v4 + (1 : Int32))) G
def w_X3_lastIndexOf_23_b (K : tK) (post : Int32 → tG → Prop) (k23 : Option Nat → Int32 → Int32 → Int32 → Int32 → tG → Prop) (v0 : Option Nat) (v1 : Int32) (v2 : Int32) (v3 : Int32) (v4 : Int32) (G : tG) : Prop := gfR G v0 5 3 (fun x_26 => alI G x_26 v1 .int (fun x_30 => ((x_30 ≤ v4 → post v3 G) ∧ (¬ x_30 ≤ v4 → rcv G v0 5 (w_X3_value K (fun x_38 G_38 => ((¬ x_38 = v2 → w_X3_lastIndexOf_48 K post k23 v0 v1 v2 v3 v4 G_38) ∧ (x_38 = v2 → w_X3_lastIndexOf_48 K post k23 v0 v1 v2 v4 v4 G_38))) v0 v1 v4 G)))))
def w_X3_lastIndexOf_23 (K : tK) (post : Int32 → tG → Prop) : Nat → Option Nat → Int32 → Int32 → Int32 → Int32 → tG → Prop
  | 0 => fun _ _ _ _ _ _ => False
  | n + 1 => w_X3_lastIndexOf_23_b K post (w_X3_lastIndexOf_23 K post n)
def w_X3_lastIndexOf (K : tK) (post : Int32 → tG → Prop) (v0 : Option Nat) (v1 : Int32) (v2 : Int32) (G : tG) : Prop := rcv G v0 5 (w_X3_isNoList K (fun x_3 G_3 => w_X3_isNoValue K (fun x_7 G_7 => rcv G_7 v0 5 (w_X3_fails K (fun x_10 G_10 => ((x_10 = 0 → ∃ n : Nat, w_X3_lastIndexOf_23 K post n v0 v1 v2 ((-1 : Int32)) ((0 : Int32)) G_10) ∧ (¬ x_10 = 0 → post ((0 : Int32)) G_10))) v0 x_3 x_7 G_7)) v2 G_3) v0 v1 G)
def w_X1_indexOf (K : tK) (post : Int32 → tG → Prop) (postX : String → tG → Prop) (v0 : Option Nat) (v1 : Int32) (v2 : Int32) (G : tG) : Prop := rcv G v0 3 (w_X1_listAt K (fun x_2 G_2 => w_X1_checkValue K (fun G_7 => w_X1_firstPlace K (fun x_12 G_12 => post x_12 G_12) x_2 v2 G_7) postX v2 G_2) postX v0 v1 G)
def w_L_indexOf (K : tK) (post : Int32 → tG → Prop) (v0 : Option Nat) (v1 : Int32) (v2 : Int32) (v3 : Option Nat) (G : tG) : Prop := rcv G v0 3 (w_X1_indexOf K (fun x_4 G_4 => pfV G_4 v3 4 0 (.long (((x_4).toInt64))) (fun G_8 => post ((0 : Int32)) G_8)) (fun E GX => ((E = "java/lang/IndexOutOfBoundsException" → post ((1 : Int32)) GX) ∧ (¬ E = "java/lang/IndexOutOfBoundsException" → ((E = "java/lang/IllegalArgumentException" → post ((2 : Int32)) GX) ∧ (¬ E = "java/lang/IllegalArgumentException" → False))))) v0 v1 v2 G)
def w_X3_indexOf_29 (K : tK) (post : Int32 → tG → Prop) (u0 : Int32) (G : tG) : Prop := post u0 G
def w_X3_indexOf (K : tK) (post : Int32 → tG → Prop) (v0 : Option Nat) (v1 : Int32) (v2 : Int32) (G : tG) : Prop := rcv G v0 5 (w_X3_isNoList K (fun x_3 G_3 => w_X3_isNoValue K (fun x_7 G_7 => rcv G_7 v0 5 (w_X3_fails K (fun x_10 G_10 => ((x_10 = 0 → rcv G_10 v0 5 (w_X3_all K (fun x_22 G_22 => w_X3_placeOf K (fun x_26 G_26 => w_X3_indexOf_29 K post x_26 G_26) x_22 v2 G_22) v0 v1 G_10)) ∧ (¬ x_10 = 0 → w_X3_indexOf_29 K post ((0 : Int32)) G_10))) v0 x_3 x_7 G_7)) v2 G_3) v0 v1 G)
def w_X1_back (K : tK) (MC MS : Nat) (post : Option Nat → tG → Prop) (postX : String → tG → Prop) (v0 : Option Nat) (v1 : Int32) (G : tG) : Prop := ((0 + 1 ≤ MC ∧ 0 + 6 ≤ MS) ∧ rcv G v0 3 (w_X1_listAt K (fun x_2 G_2 => gfI G_2 x_2 2 3 (fun x_8 => gfI G_2 x_2 2 3 (fun x_12 => bud ((0 + 1)) ((0 + 6)) MC MS (fun mc_17 ms_17 => w_X1_textOf K mc_17 ms_17 (fun x_17 G_17 => post x_17 G_17) x_2 x_8 x_12 ((1 : Int32)) ((0 : Int32)) G_2)))) postX v0 v1 G))
def w_L_back (K : tK) (MC MS : Nat) (post : Int32 → tG → Prop) (v0 : Option Nat) (v1 : Int32) (v2 : Option Nat) (G : tG) : Prop := bud 0 0 MC MS (fun mc_3 ms_3 => rcv G v0 3 (w_X1_back K mc_3 ms_3 (fun x_3 G_3 => pfV G_3 v2 4 1 (va_rf x_3) (fun G_6 => post ((0 : Int32)) G_6)) (fun E GX => ((E = "java/lang/IndexOutOfBoundsException" → post ((1 : Int32)) GX) ∧ (¬ E = "java/lang/IndexOutOfBoundsException" → False))) v0 v1 G))
def w_X3_line_124 (K : tK) (MC MS : Nat) (post : Option Nat → tG → Prop) (k34 : Nat → Nat → Int32 → Option Nat → Option Nat → Int32 → Int32 → tG → Prop) (nc ns : Nat) (v2 : Int32) (v4 : Option Nat) (v5 : Int32) (v6 : Int32) (u0 : Option Nat) (G : tG) : Prop := k34 nc ns v2 u0 v4 v5 ((v6 + (1 : Int32))) G
def w_X3_line_34_b (K : tK) (MC MS : Nat) (post : Option Nat → tG → Prop) (k34 : Nat → Nat → Int32 → Option Nat → Option Nat → Int32 → Int32 → tG → Prop) (nc ns : Nat) (v2 : Int32) (v3 : Option Nat) (v4 : Option Nat) (v5 : Int32) (v6 : Int32) (G : tG) : Prop := ((v5 ≤ v6 → post v3 G) ∧ (¬ v5 ≤ v6 → alI G v4 v6 .int (fun x_45 => rcvS K G v3 0 (w_J0_isEmpty_aae02 K (fun x_49 G_49 => ((x_49 = 0 → ((v2 = 0 → ((nc + 1 ≤ MC ∧ ns + 4 ≤ MS) ∧ nwO G_49 1 [.null, .int 0, .int 0, .int 0] (fun r_97 G_97 => bud ((nc + 1)) ((ns + 4)) MC MS (fun mc_101 ms_101 => ((∃ q : Nat, r_97 = some q) ∧ w_J4_init_da8c8 K mc_101 ms_101 (fun G_101 => bud (((nc + 1) + mc_101)) (((ns + 4) + ms_101)) MC MS (fun mc_105 ms_105 => rcv G_101 r_97 1 (w_J4_append_15ec4 K mc_105 ms_105 (fun x_105 G_105 => bud ((((nc + 1) + mc_101) + mc_105)) ((((ns + 4) + ms_101) + ms_105)) MC MS (fun mc_110 ms_110 => rcv G_105 x_105 1 (w_J4_append_15ec4 K mc_110 ms_110 (fun x_110 G_110 => bud (((((nc + 1) + mc_101) + mc_105) + mc_110)) (((((ns + 4) + ms_101) + ms_105) + ms_110)) MC MS (fun mc_115 ms_115 => w_X3_shown K mc_115 ms_115 (fun x_115 G_115 => bud ((((((nc + 1) + mc_101) + mc_105) + mc_110) + mc_115)) ((((((ns + 4) + ms_101) + ms_105) + ms_110) + ms_115)) MC MS (fun mc_118 ms_118 => rcv G_115 x_110 1 (w_J4_append_15ec4 K mc_118 ms_118 (fun x_118 G_118 => bud (((((((nc + 1) + mc_101) + mc_105) + mc_110) + mc_115) + mc_118)) (((((((ns + 4) + ms_101) + ms_105) + ms_110) + ms_115) + ms_118)) MC MS (fun mc_121 ms_121 => rcv G_118 x_118 1 (w_J4_toString_0e30d K mc_121 ms_121 (fun x_121 G_121 => w_X3_line_124 K MC MS post k34 ((((((((nc + 1) + mc_101) + mc_105) + mc_110) + mc_115) + mc_118) + mc_121)) ((((((((ns + 4) + ms_101) + ms_105) + ms_110) + ms_115) + ms_118) + ms_121)) v2 v4 v5 v6 x_121 G_121) x_118 G_118))) x_110 x_115 G_115))) x_45 G_110)) x_105 ((some (K.2.2 7))) G_105))) r_97 v3 G_101))) r_97 G_97))))) ∧ (¬ v2 = 0 → ((nc + 1 ≤ MC ∧ ns + 4 ≤ MS) ∧ nwO G_49 1 [.null, .int 0, .int 0, .int 0] (fun r_67 G_67 => bud ((nc + 1)) ((ns + 4)) MC MS (fun mc_71 ms_71 => ((∃ q : Nat, r_67 = some q) ∧ w_J4_init_da8c8 K mc_71 ms_71 (fun G_71 => bud (((nc + 1) + mc_71)) (((ns + 4) + ms_71)) MC MS (fun mc_76 ms_76 => w_X3_shown K mc_76 ms_76 (fun x_76 G_76 => bud ((((nc + 1) + mc_71) + mc_76)) ((((ns + 4) + ms_71) + ms_76)) MC MS (fun mc_79 ms_79 => rcv G_76 r_67 1 (w_J4_append_15ec4 K mc_79 ms_79 (fun x_79 G_79 => bud (((((nc + 1) + mc_71) + mc_76) + mc_79)) (((((ns + 4) + ms_71) + ms_76) + ms_79)) MC MS (fun mc_84 ms_84 => rcv G_79 x_79 1 (w_J4_append_15ec4 K mc_84 ms_84 (fun x_84 G_84 => bud ((((((nc + 1) + mc_71) + mc_76) + mc_79) + mc_84)) ((((((ns + 4) + ms_71) + ms_76) + ms_79) + ms_84)) MC MS (fun mc_88 ms_88 => rcv G_84 x_84 1 (w_J4_append_15ec4 K mc_88 ms_88 (fun x_88 G_88 => bud (((((((nc + 1) + mc_71) + mc_76) + mc_79) + mc_84) + mc_88)) (((((((ns + 4) + ms_71) + ms_76) + ms_79) + ms_84) + ms_88)) MC MS (fun mc_91 ms_91 => rcv G_88 x_88 1 (w_J4_toString_0e30d K mc_91 ms_91 (fun x_91 G_91 => w_X3_line_124 K MC MS post k34 ((((((((nc + 1) + mc_71) + mc_76) + mc_79) + mc_84) + mc_88) + mc_91)) ((((((((ns + 4) + ms_71) + ms_76) + ms_79) + ms_84) + ms_88) + ms_91)) v2 v4 v5 v6 x_91 G_91) x_88 G_88))) x_84 v3 G_84))) x_79 ((some (K.2.2 7))) G_79))) r_67 x_76 G_76))) x_45 G_71)) r_67 G_67))))))) ∧ (¬ x_49 = 0 → bud nc ns MC MS (fun mc_57 ms_57 => w_X3_shown K mc_57 ms_57 (fun x_57 G_57 => w_X3_line_124 K MC MS post k34 ((nc + mc_57)) ((ns + ms_57)) v2 v4 v5 v6 x_57 G_57) x_45 G_49)))) v3 G))))
def w_X3_line_34 (K : tK) (MC MS : Nat) (post : Option Nat → tG → Prop) : Nat → Nat → Nat → Int32 → Option Nat → Option Nat → Int32 → Int32 → tG → Prop
  | 0 => fun _ _ _ _ _ _ _ _ => False
  | n + 1 => w_X3_line_34_b K MC MS post (w_X3_line_34 K MC MS post n)
def w_X3_line (K : tK) (MC MS : Nat) (post : Option Nat → tG → Prop) (v0 : Option Nat) (v1 : Int32) (v2 : Int32) (G : tG) : Prop := rcv G v0 5 (w_X3_isNoList K (fun x_3 G_3 => rcv G_3 v0 5 (w_X3_fails K (fun x_7 G_7 => ((x_7 = 0 → ((0 + 1 ≤ MC ∧ 0 + 12 ≤ MS) ∧ rcv G_7 v0 5 (w_X3_all K (fun x_21 G_21 => lenA G_21 x_21 (fun x_28 => ∃ n : Nat, w_X3_line_34 K MC MS post n ((0 + 1)) ((0 + 12)) v2 ((some (K.2.2 6))) x_21 x_28 ((0 : Int32)) G_21)) v0 v1 G_7))) ∧ (¬ x_7 = 0 → post ((some (K.2.2 6))) G_7))) v0 x_3 ((0 : Int32)) G_3)) v0 v1 G)
def w_X3_back (K : tK) (MC MS : Nat) (post : Option Nat → tG → Prop) (v0 : Option Nat) (v1 : Int32) (G : tG) : Prop := bud 0 0 MC MS (fun mc_3 ms_3 => rcv G v0 5 (w_X3_line K mc_3 ms_3 (fun x_3 G_3 => post x_3 G_3) v0 v1 ((1 : Int32)) G))
def w_X1_text (K : tK) (MC MS : Nat) (post : Option Nat → tG → Prop) (postX : String → tG → Prop) (v0 : Option Nat) (v1 : Int32) (G : tG) : Prop := ((0 + 1 ≤ MC ∧ 0 + 6 ≤ MS) ∧ rcv G v0 3 (w_X1_listAt K (fun x_2 G_2 => gfI G_2 x_2 2 3 (fun x_9 => bud ((0 + 1)) ((0 + 6)) MC MS (fun mc_14 ms_14 => w_X1_textOf K mc_14 ms_14 (fun x_14 G_14 => post x_14 G_14) x_2 ((0 : Int32)) x_9 ((0 : Int32)) ((0 : Int32)) G_2))) postX v0 v1 G))
def w_L_text (K : tK) (MC MS : Nat) (post : Int32 → tG → Prop) (v0 : Option Nat) (v1 : Int32) (v2 : Option Nat) (G : tG) : Prop := bud 0 0 MC MS (fun mc_3 ms_3 => rcv G v0 3 (w_X1_text K mc_3 ms_3 (fun x_3 G_3 => pfV G_3 v2 4 1 (va_rf x_3) (fun G_6 => post ((0 : Int32)) G_6)) (fun E GX => ((E = "java/lang/IndexOutOfBoundsException" → post ((1 : Int32)) GX) ∧ (¬ E = "java/lang/IndexOutOfBoundsException" → False))) v0 v1 G))
def w_X3_text (K : tK) (MC MS : Nat) (post : Option Nat → tG → Prop) (v0 : Option Nat) (v1 : Int32) (G : tG) : Prop := bud 0 0 MC MS (fun mc_3 ms_3 => rcv G v0 5 (w_X3_line K mc_3 ms_3 (fun x_3 G_3 => post x_3 G_3) v0 v1 ((0 : Int32)) G))
def w_X1_isEmpty_16 (K : tK) (post : Int32 → tG → Prop) (postX : String → tG → Prop) (u0 : Int32) (G : tG) : Prop := (narrow .boolean (.int u0) = .int u0 ∧ post u0 G)
def w_X1_isEmpty (K : tK) (post : Int32 → tG → Prop) (postX : String → tG → Prop) (v0 : Option Nat) (v1 : Int32) (G : tG) : Prop := rcv G v0 3 (w_X1_listAt K (fun x_2 G_2 => gfI G_2 x_2 2 3 (fun x_5 => ((¬ x_5 = 0 → w_X1_isEmpty_16 K post postX ((0 : Int32)) G_2) ∧ (x_5 = 0 → w_X1_isEmpty_16 K post postX ((1 : Int32)) G_2)))) postX v0 v1 G)
def w_L_isEmpty_14 (K : tK) (post : Int32 → tG → Prop) (u0 : Option Nat) (u1 : Int64) (G : tG) : Prop := pfV G u0 4 0 (.long u1) (fun G_14 => post ((0 : Int32)) G_14)
def w_L_isEmpty (K : tK) (post : Int32 → tG → Prop) (v0 : Option Nat) (v1 : Int32) (v2 : Option Nat) (G : tG) : Prop := rcv G v0 3 (w_X1_isEmpty K (fun x_3 G_3 => ((x_3 = 0 → w_L_isEmpty_14 K post v2 ((0 : Int64)) G_3) ∧ (¬ x_3 = 0 → w_L_isEmpty_14 K post v2 ((1 : Int64)) G_3))) (fun E GX => ((E = "java/lang/IndexOutOfBoundsException" → post ((1 : Int32)) GX) ∧ (¬ E = "java/lang/IndexOutOfBoundsException" → False))) v0 v1 G)
def w_X3_isEmpty_27 (K : tK) (post : Int32 → tG → Prop) (u0 : Int32) (G : tG) : Prop := (narrow .boolean (.int u0) = .int u0 ∧ post u0 G)
def w_X3_isEmpty_26 (K : tK) (post : Int32 → tG → Prop) (G : tG) : Prop := w_X3_isEmpty_27 K post ((0 : Int32)) G
def w_X3_isEmpty (K : tK) (post : Int32 → tG → Prop) (v0 : Option Nat) (v1 : Int32) (G : tG) : Prop := rcv G v0 5 (w_X3_isNoList K (fun x_3 G_3 => rcv G_3 v0 5 (w_X3_fails K (fun x_7 G_7 => ((¬ x_7 = 0 → w_X3_isEmpty_26 K post G_7) ∧ (x_7 = 0 → gfR G_7 v0 5 3 (fun x_14 => alI G_7 x_14 v1 .int (fun x_18 => ((¬ x_18 = 0 → w_X3_isEmpty_26 K post G_7) ∧ (x_18 = 0 → w_X3_isEmpty_27 K post ((1 : Int32)) G_7))))))) v0 x_3 ((0 : Int32)) G_3)) v0 v1 G)
def w_L_length (K : tK) (post : Int32 → tG → Prop) (v0 : Option Nat) (v1 : Int32) (v2 : Option Nat) (G : tG) : Prop := rcv G v0 3 (w_X1_length K (fun x_3 G_3 => pfV G_3 v2 4 0 (.long (((x_3).toInt64))) (fun G_7 => post ((0 : Int32)) G_7)) (fun E GX => ((E = "java/lang/IndexOutOfBoundsException" → post ((1 : Int32)) GX) ∧ (¬ E = "java/lang/IndexOutOfBoundsException" → False))) v0 v1 G)
def w_X3_length_23 (K : tK) (post : Int32 → tG → Prop) (u0 : Int32) (G : tG) : Prop := post u0 G
def w_X3_length (K : tK) (post : Int32 → tG → Prop) (v0 : Option Nat) (v1 : Int32) (G : tG) : Prop := rcv G v0 5 (w_X3_isNoList K (fun x_3 G_3 => rcv G_3 v0 5 (w_X3_fails K (fun x_7 G_7 => ((x_7 = 0 → gfR G_7 v0 5 3 (fun x_18 => alI G_7 x_18 v1 .int (fun x_22 => w_X3_length_23 K post x_22 G_7))) ∧ (¬ x_7 = 0 → w_X3_length_23 K post ((0 : Int32)) G_7))) v0 x_3 ((0 : Int32)) G_3)) v0 v1 G)
def w_X1_get (K : tK) (post : Int32 → tG → Prop) (postX : String → tG → Prop) (v0 : Option Nat) (v1 : Int32) (v2 : Int32) (G : tG) : Prop := rcv G v0 3 (w_X1_listAt K (fun x_2 G_2 => w_X1_checkPlace K (fun G_8 => rcv G_8 x_2 2 (w_X0_read K (fun x_13 G_13 => post x_13 G_13) x_2 v2 G_8)) postX x_2 v2 G_2) postX v0 v1 G)
def w_L_get (K : tK) (post : Int32 → tG → Prop) (v0 : Option Nat) (v1 : Int32) (v2 : Int32) (v3 : Option Nat) (G : tG) : Prop := rcv G v0 3 (w_X1_get K (fun x_4 G_4 => pfV G_4 v3 4 0 (.long (((x_4).toInt64))) (fun G_8 => post ((0 : Int32)) G_8)) (fun E GX => ((E = "java/lang/IndexOutOfBoundsException" → post ((1 : Int32)) GX) ∧ (¬ E = "java/lang/IndexOutOfBoundsException" → False))) v0 v1 v2 G)
def w_X3_get_24 (K : tK) (post : Int32 → tG → Prop) (u0 : Int32) (G : tG) : Prop := post u0 G
def w_X3_get (K : tK) (post : Int32 → tG → Prop) (v0 : Option Nat) (v1 : Int32) (v2 : Int32) (G : tG) : Prop := rcv G v0 5 (w_X3_isNoPlace K (fun x_4 G_4 => rcv G_4 v0 5 (w_X3_fails K (fun x_8 G_8 => ((x_8 = 0 → rcv G_8 v0 5 (w_X3_value K (fun x_21 G_21 => w_X3_get_24 K post x_21 G_21) v0 v1 v2 G_8)) ∧ (¬ x_8 = 0 → w_X3_get_24 K post ((0 : Int32)) G_8))) v0 x_4 ((0 : Int32)) G_4)) v0 v1 v2 G)
def w_X1_set (K : tK) (post : Int32 → tG → Prop) (postX : String → tG → Prop) (v0 : Option Nat) (v1 : Int32) (v2 : Int32) (v3 : Int32) (G : tG) : Prop := rcv G v0 3 (w_X1_listAt K (fun x_2 G_2 => w_X1_checkPlace K (fun G_10 => w_X1_checkValue K (fun G_14 => rcv G_14 x_2 2 (w_X0_write K (fun x_21 G_21 => post x_21 G_21) x_2 v2 v3 G_14)) postX v3 G_10) postX x_2 v2 G_2) postX v0 v1 G)
def w_L_set (K : tK) (post : Int32 → tG → Prop) (v0 : Option Nat) (v1 : Int32) (v2 : Int32) (v3 : Int32) (v4 : Option Nat) (G : tG) : Prop := rcv G v0 3 (w_X1_set K (fun x_6 G_6 => pfV G_6 v4 4 0 (.long (((x_6).toInt64))) (fun G_10 => post ((0 : Int32)) G_10)) (fun E GX => ((E = "java/lang/IndexOutOfBoundsException" → post ((1 : Int32)) GX) ∧ (¬ E = "java/lang/IndexOutOfBoundsException" → ((E = "java/lang/IllegalArgumentException" → post ((2 : Int32)) GX) ∧ (¬ E = "java/lang/IllegalArgumentException" → False))))) v0 v1 v2 v3 G)
def w_X3_set (K : tK) (post : Int32 → tG → Prop) (v0 : Option Nat) (v1 : Int32) (v2 : Int32) (v3 : Int32) (G : tG) : Prop := rcv G v0 5 (w_X3_isNoPlace K (fun x_4 G_4 => w_X3_isNoValue K (fun x_8 G_8 => rcv G_8 v0 5 (w_X3_fails K (fun x_11 G_11 => ((x_11 = 0 → rcv G_11 v0 5 (w_X3_value K (fun x_22 G_22 => rcv G_22 v0 5 (w_X3_write K (fun G_31 => post x_22 G_31) v0 v1 v2 v3 G_22)) v0 v1 v2 G_11)) ∧ (¬ x_11 = 0 → post ((0 : Int32)) G_11))) v0 x_4 x_8 G_8)) v3 G_4) v0 v1 v2 G)
def w_X1_checkPart_11 (K : tK) (post : tG → Prop) (postX : String → tG → Prop) (G : tG) : Prop := postX "java/lang/IndexOutOfBoundsException" G
def w_X1_checkPart (K : tK) (post : tG → Prop) (postX : String → tG → Prop) (v0 : Int32) (G : tG) : Prop := ((v0 < (3 : Int32) → w_X1_checkPart_11 K post postX G) ∧ (¬ v0 < (3 : Int32) → ((v0 < (7 : Int32) → post G) ∧ (¬ v0 < (7 : Int32) → w_X1_checkPart_11 K post postX G))))
def w_X0_pieceOf (K : tK) (post : Option Nat → tG → Prop) (v0 : Option Nat) (v1 : Int32) (v2 : Int32) (G : tG) : Prop := nwO G 2 [.int 0, .null, .int 0, .int 0] (fun r_0 G_0 => gfI G_0 v0 2 0 (fun x_5 => gfR G_0 v0 2 1 (fun x_9 => gfI G_0 v0 2 2 (fun x_13 => ((∃ q : Nat, r_0 = some q) ∧ w_X0_init K (fun G_21 => post r_0 G_21) r_0 x_5 x_9 ((x_13 + v1)) ((v2 - v1)) G_0)))))
def w_X1_part (K : tK) (post : Int32 → tG → Prop) (postX : String → tG → Prop) (v0 : Option Nat) (v1 : Int32) (v2 : Int32) (v3 : Int32) (v4 : Int32) (G : tG) : Prop := w_X1_checkPart K (fun G_1 => rcv G_1 v0 3 (w_X1_listAt K (fun x_6 G_6 => gfI G_6 x_6 2 3 (fun x_16 => w_X1_checkNumber K (fun G_19 => w_X1_checkNumber K (fun G_26 => rcv G_26 x_6 2 (w_X0_pieceOf K (fun x_34 G_34 => gfR G_34 v0 3 0 (fun x_40 => asR G_34 x_40 v1 (.object "Twinrow$RowList") x_34 (okO 2) (fun G_46 => gfI G_46 x_34 2 3 (fun x_49 => post x_49 G_46)))) x_6 v3 v4 G_26)) postX v3 ((0 : Int32)) v4 G_19) postX v4 ((0 : Int32)) x_16 G_6)) postX v0 v2 G_1)) postX v1 G
def w_L_part (K : tK) (post : Int32 → tG → Prop) (v0 : Option Nat) (v1 : Int32) (v2 : Int32) (v3 : Int32) (v4 : Int32) (v5 : Option Nat) (G : tG) : Prop := rcv G v0 3 (w_X1_part K (fun x_8 G_8 => pfV G_8 v5 4 0 (.long (((x_8).toInt64))) (fun G_12 => post ((0 : Int32)) G_12)) (fun E GX => ((E = "java/lang/IndexOutOfBoundsException" → post ((1 : Int32)) GX) ∧ (¬ E = "java/lang/IndexOutOfBoundsException" → ((E = "java/lang/IllegalArgumentException" → post ((2 : Int32)) GX) ∧ (¬ E = "java/lang/IllegalArgumentException" → False))))) v0 v1 v2 v3 v4 G)
def w_X3_part_67 (K : tK) (post : Int32 → tG → Prop) (v0 : Option Nat) (v1 : Int32) (v2 : Int32) (v3 : Int32) (v4 : Int32) (u0 : Option Nat) (u1 : Int32) (u2 : Int32) (G : tG) : Prop := rcv G u0 5 (w_X3_fails K (fun x_67 G_67 => ((x_67 = 0 → gfR G_67 v0 5 1 (fun x_76 => alI G_67 x_76 v2 .int (fun x_80 => gfR G_67 v0 5 2 (fun x_84 => alI G_67 x_84 v2 .int (fun x_88 => gfR G_67 v0 5 1 (fun x_94 => asI G_67 x_94 v1 .int x_80 (fun G_100 => gfR G_100 v0 5 2 (fun x_102 => asI G_100 x_102 v1 .int (x_88 + v3) (fun G_108 => gfR G_108 v0 5 3 (fun x_110 => asI G_108 x_110 v1 .int (v4 - v3) (fun G_118 => post ((v4 - v3)) G_118))))))))))) ∧ (¬ x_67 = 0 → post ((0 : Int32)) G_67))) u0 u1 u2 G)
def w_X3_part_62 (K : tK) (post : Int32 → tG → Prop) (v0 : Option Nat) (v1 : Int32) (v2 : Int32) (v3 : Int32) (v4 : Int32) (u0 : Option Nat) (u1 : Int32) (G : tG) : Prop := w_X3_part_67 K post v0 v1 v2 v3 v4 u0 u1 ((1 : Int32)) G
def w_X3_part_66 (K : tK) (post : Int32 → tG → Prop) (v0 : Option Nat) (v1 : Int32) (v2 : Int32) (v3 : Int32) (v4 : Int32) (u0 : Option Nat) (u1 : Int32) (G : tG) : Prop := w_X3_part_67 K post v0 v1 v2 v3 v4 u0 u1 ((0 : Int32)) G
def w_X3_part_23 (K : tK) (post : Int32 → tG → Prop) (v0 : Option Nat) (v1 : Int32) (v2 : Int32) (v3 : Int32) (v4 : Int32) (u0 : Int32) (G : tG) : Prop := ((¬ u0 = 0 → w_X3_part_66 K post v0 v1 v2 v3 v4 v0 u0 G) ∧ (u0 = 0 → gfR G v0 5 3 (fun x_36 => alI G x_36 v2 .int (fun x_40 => w_X3_isIn K (fun x_41 G_41 => ((x_41 = 0 → w_X3_part_62 K post v0 v1 v2 v3 v4 v0 u0 G_41) ∧ (¬ x_41 = 0 → gfR G_41 v0 5 3 (fun x_51 => alI G_41 x_51 v2 .int (fun x_55 => w_X3_isIn K (fun x_56 G_56 => ((¬ x_56 = 0 → w_X3_part_66 K post v0 v1 v2 v3 v4 v0 u0 G_56) ∧ (x_56 = 0 → w_X3_part_62 K post v0 v1 v2 v3 v4 v0 u0 G_56))) v4 v3 x_55 G_41))))) v3 ((0 : Int32)) x_40 G))))
def w_X3_part_18 (K : tK) (post : Int32 → tG → Prop) (v0 : Option Nat) (v1 : Int32) (v2 : Int32) (v3 : Int32) (v4 : Int32) (G : tG) : Prop := w_X3_part_23 K post v0 v1 v2 v3 v4 ((1 : Int32)) G
def w_X3_part (K : tK) (post : Int32 → tG → Prop) (v0 : Option Nat) (v1 : Int32) (v2 : Int32) (v3 : Int32) (v4 : Int32) (G : tG) : Prop := w_X3_isIn K (fun x_4 G_4 => ((x_4 = 0 → w_X3_part_18 K post v0 v1 v2 v3 v4 G_4) ∧ (¬ x_4 = 0 → rcv G_4 v0 5 (w_X3_isNoList K (fun x_12 G_12 => ((x_12 = 0 → w_X3_part_23 K post v0 v1 v2 v3 v4 ((0 : Int32)) G_12) ∧ (¬ x_12 = 0 → w_X3_part_18 K post v0 v1 v2 v3 v4 G_12))) v0 v2 G_4)))) v1 ((3 : Int32)) ((6 : Int32)) G
def w_X1_at (K : tK) (post : Int32 → tG → Prop) (postX : String → tG → Prop) (v0 : Option Nat) (v1 : Int32) (v2 : Int32) (G : tG) : Prop := rcv G v0 3 (w_X1_twinAt K (fun x_2 G_2 => w_X1_checkPlace K (fun G_8 => rcv G_8 x_2 2 (w_X0_read K (fun x_13 G_13 => post x_13 G_13) x_2 v2 G_8)) postX x_2 v2 G_2) postX v0 v1 G)
def w_L_at (K : tK) (post : Int32 → tG → Prop) (v0 : Option Nat) (v1 : Int32) (v2 : Int32) (v3 : Option Nat) (G : tG) : Prop := rcv G v0 3 (w_X1_at K (fun x_4 G_4 => pfV G_4 v3 4 0 (.long (((x_4).toInt64))) (fun G_8 => post ((0 : Int32)) G_8)) (fun E GX => ((E = "java/lang/IndexOutOfBoundsException" → post ((1 : Int32)) GX) ∧ (¬ E = "java/lang/IndexOutOfBoundsException" → False))) v0 v1 v2 G)
def w_X3_isNoRowPlace_31 (K : tK) (post : Int32 → tG → Prop) (u0 : Int32) (G : tG) : Prop := (narrow .boolean (.int u0) = .int u0 ∧ post u0 G)
def w_X3_isNoRowPlace_26 (K : tK) (post : Int32 → tG → Prop) (G : tG) : Prop := w_X3_isNoRowPlace_31 K post ((1 : Int32)) G
def w_X3_isNoRowPlace (K : tK) (post : Int32 → tG → Prop) (v0 : Option Nat) (v1 : Int32) (v2 : Int32) (G : tG) : Prop := w_X3_isIn K (fun x_3 G_3 => ((x_3 = 0 → w_X3_isNoRowPlace_26 K post G_3) ∧ (¬ x_3 = 0 → gfR G_3 v0 5 0 (fun x_12 => alR G_3 x_12 v1 (.array .int) (fun x_16 => lenA G_3 x_16 (fun x_17 => w_X3_isIn K (fun x_20 G_20 => ((¬ x_20 = 0 → w_X3_isNoRowPlace_31 K post ((0 : Int32)) G_20) ∧ (x_20 = 0 → w_X3_isNoRowPlace_26 K post G_20))) v2 ((0 : Int32)) ((x_17 - (1 : Int32))) G_3)))))) v1 ((0 : Int32)) ((2 : Int32)) G
def w_X3_at_26 (K : tK) (post : Int32 → tG → Prop) (u0 : Int32) (G : tG) : Prop := post u0 G
def w_X3_at (K : tK) (post : Int32 → tG → Prop) (v0 : Option Nat) (v1 : Int32) (v2 : Int32) (G : tG) : Prop := rcv G v0 5 (w_X3_isNoRowPlace K (fun x_4 G_4 => rcv G_4 v0 5 (w_X3_fails K (fun x_8 G_8 => ((x_8 = 0 → gfR G_8 v0 5 0 (fun x_19 => alR G_8 x_19 v1 (.array .int) (fun x_23 => alI G_8 x_23 v2 .int (fun x_25 => w_X3_at_26 K post x_25 G_8)))) ∧ (¬ x_8 = 0 → w_X3_at_26 K post ((0 : Int32)) G_8))) v0 x_4 ((0 : Int32)) G_4)) v0 v1 v2 G)
def w_X1_put (K : tK) (post : Int32 → tG → Prop) (postX : String → tG → Prop) (v0 : Option Nat) (v1 : Int32) (v2 : Int32) (v3 : Int32) (G : tG) : Prop := rcv G v0 3 (w_X1_twinAt K (fun x_2 G_2 => w_X1_checkPlace K (fun G_10 => w_X1_checkValue K (fun G_14 => rcv G_14 x_2 2 (w_X0_write K (fun x_21 G_21 => post x_21 G_21) x_2 v2 v3 G_14)) postX v3 G_10) postX x_2 v2 G_2) postX v0 v1 G)
def w_L_put (K : tK) (post : Int32 → tG → Prop) (v0 : Option Nat) (v1 : Int32) (v2 : Int32) (v3 : Int32) (v4 : Option Nat) (G : tG) : Prop := rcv G v0 3 (w_X1_put K (fun x_6 G_6 => pfV G_6 v4 4 0 (.long (((x_6).toInt64))) (fun G_10 => post ((0 : Int32)) G_10)) (fun E GX => ((E = "java/lang/IndexOutOfBoundsException" → post ((1 : Int32)) GX) ∧ (¬ E = "java/lang/IndexOutOfBoundsException" → ((E = "java/lang/IllegalArgumentException" → post ((2 : Int32)) GX) ∧ (¬ E = "java/lang/IllegalArgumentException" → False))))) v0 v1 v2 v3 G)
def w_X3_put (K : tK) (post : Int32 → tG → Prop) (v0 : Option Nat) (v1 : Int32) (v2 : Int32) (v3 : Int32) (G : tG) : Prop := rcv G v0 5 (w_X3_isNoRowPlace K (fun x_4 G_4 => w_X3_isNoValue K (fun x_8 G_8 => rcv G_8 v0 5 (w_X3_fails K (fun x_11 G_11 => ((x_11 = 0 → gfR G_11 v0 5 0 (fun x_20 => alR G_11 x_20 v1 (.array .int) (fun x_24 => alI G_11 x_24 v2 .int (fun x_26 => gfR G_11 v0 5 0 (fun x_30 => alR G_11 x_30 v1 (.array .int) (fun x_34 => asI G_11 x_34 v2 .int v3 (fun G_37 => post x_26 G_37))))))) ∧ (¬ x_11 = 0 → post ((0 : Int32)) G_11))) v0 x_4 x_8 G_8)) v3 G_4) v0 v1 v2 G)
def w_X1_dropPartsOf_45 (K : tK) (post : Int32 → tG → Prop) (k4 : Option Nat → Int32 → Int32 → Int32 → tG → Prop) (v0 : Option Nat) (v1 : Int32) (v2 : Int32) (v3 : Int32) (G : tG) : Prop := k4 v0 v1 v2 ((v3 + (1 : Int32))) G
def w_X1_dropPartsOf_4_b (K : tK) (post : Int32 → tG → Prop) (k4 : Option Nat → Int32 → Int32 → Int32 → tG → Prop) (v0 : Option Nat) (v1 : Int32) (v2 : Int32) (v3 : Int32) (G : tG) : Prop := gfR G v0 3 0 (fun x_6 => lenA G x_6 (fun x_9 => ((x_9 ≤ v3 → post v2 G) ∧ (¬ x_9 ≤ v3 → gfR G v0 3 0 (fun x_14 => alR G x_14 v3 (.object "Twinrow$RowList") (fun x_18 => ((x_18 = none → w_X1_dropPartsOf_45 K post k4 v0 v1 v2 v3 G) ∧ (¬ x_18 = none → gfI G x_18 2 0 (fun x_28 => ((¬ x_28 = v1 → w_X1_dropPartsOf_45 K post k4 v0 v1 v2 v3 G) ∧ (x_28 = v1 → gfR G v0 3 0 (fun x_36 => asR G x_36 v3 (.object "Twinrow$RowList") none (okO 2) (fun G_41 => w_X1_dropPartsOf_45 K post k4 v0 v1 ((v2 + (1 : Int32))) v3 G_41)))))))))))))
def w_X1_dropPartsOf_4 (K : tK) (post : Int32 → tG → Prop) : Nat → Option Nat → Int32 → Int32 → Int32 → tG → Prop
  | 0 => fun _ _ _ _ _ => False
  | n + 1 => w_X1_dropPartsOf_4_b K post (w_X1_dropPartsOf_4 K post n)
def w_X1_dropPartsOf (K : tK) (post : Int32 → tG → Prop) (v0 : Option Nat) (v1 : Int32) (G : tG) : Prop := ∃ n : Nat, w_X1_dropPartsOf_4 K post n v0 v1 ((0 : Int32)) ((3 : Int32)) G
def w_X1_lay (K : tK) (post : Int32 → tG → Prop) (postX : String → tG → Prop) (v0 : Option Nat) (v1 : Int32) (v2 : Int32) (G : tG) : Prop := rcv G v0 3 (w_X1_twinAt K (fun x_2 G_2 => w_X1_checkNumber K (fun G_10 => nwO G_10 2 [.int 0, .null, .int 0, .int 0] (fun r_13 G_13 => gfR G_13 x_2 2 1 (fun x_19 => ((∃ q : Nat, r_13 = some q) ∧ w_X0_init K (fun G_24 => w_X1_writeAll K (fun G_32 => gfR G_32 v0 3 0 (fun x_36 => asR G_32 x_36 v1 (.object "Twinrow$RowList") r_13 (okO 2) (fun G_42 => rcv G_42 v0 3 (w_X1_dropPartsOf K (fun x_45 G_45 => post x_45 G_45) v0 v1 G_42)))) r_13 ((0 : Int32)) G_24) r_13 v1 x_19 ((0 : Int32)) v2 G_13)))) postX v2 ((0 : Int32)) ((12 : Int32)) G_2) postX v0 v1 G)
def w_L_lay (K : tK) (post : Int32 → tG → Prop) (v0 : Option Nat) (v1 : Int32) (v2 : Int32) (v3 : Option Nat) (G : tG) : Prop := rcv G v0 3 (w_X1_lay K (fun x_4 G_4 => pfV G_4 v3 4 0 (.long (((x_4).toInt64))) (fun G_8 => post ((0 : Int32)) G_8)) (fun E GX => ((E = "java/lang/IndexOutOfBoundsException" → post ((1 : Int32)) GX) ∧ (¬ E = "java/lang/IndexOutOfBoundsException" → ((E = "java/lang/IllegalArgumentException" → post ((2 : Int32)) GX) ∧ (¬ E = "java/lang/IllegalArgumentException" → False))))) v0 v1 v2 G)
def w_X3_lay_88 (K : tK) (post : Int32 → tG → Prop) (k59 : Option Nat → Int32 → Int32 → Int32 → tG → Prop) (v0 : Option Nat) (v1 : Int32) (v3 : Int32) (v4 : Int32) (G : tG) : Prop := k59 v0 v1 v3 ((v4 + (1 : Int32))) G
def w_X3_lay_59_b (K : tK) (post : Int32 → tG → Prop) (k59 : Option Nat → Int32 → Int32 → Int32 → tG → Prop) (v0 : Option Nat) (v1 : Int32) (v3 : Int32) (v4 : Int32) (G : tG) : Prop := (((7 : Int32) ≤ v4 → post v3 G) ∧ (¬ (7 : Int32) ≤ v4 → gfR G v0 5 1 (fun x_67 => alI G x_67 v4 .int (fun x_72 => ((¬ x_72 = v1 → w_X3_lay_88 K post k59 v0 v1 v3 v4 G) ∧ (x_72 = v1 → gfR G v0 5 1 (fun x_78 => asI G x_78 v4 .int (-1 : Int32) (fun G_84 => w_X3_lay_88 K post k59 v0 v1 ((v3 + (1 : Int32))) v4 G_84))))))))
def w_X3_lay_59 (K : tK) (post : Int32 → tG → Prop) : Nat → Option Nat → Int32 → Int32 → Int32 → tG → Prop
  | 0 => fun _ _ _ _ _ => False
  | n + 1 => w_X3_lay_59_b K post (w_X3_lay_59 K post n)
def w_X3_lay_30 (K : tK) (post : Int32 → tG → Prop) (v0 : Option Nat) (v1 : Int32) (v2 : Int32) (u0 : Option Nat) (u1 : Int32) (u2 : Int32) (G : tG) : Prop := rcv G u0 5 (w_X3_fails K (fun x_30 G_30 => ((x_30 = 0 → gfR G_30 v0 5 0 (fun x_39 => nwA G_30 .int v2 12 (.inl (fun _ => 0)) (fun r_44 G_44 => (r_44 ≠ none ∧ asR G_44 x_39 v1 (.array .int) r_44 okI (fun G_46 => gfR G_46 v0 5 3 (fun x_48 => asI G_46 x_48 v1 .int v2 (fun G_53 => ∃ n : Nat, w_X3_lay_59 K post n v0 v1 ((0 : Int32)) ((3 : Int32)) G_53))))))) ∧ (¬ x_30 = 0 → post ((0 : Int32)) G_30))) u0 u1 u2 G)
def w_X3_lay_15 (K : tK) (post : Int32 → tG → Prop) (v0 : Option Nat) (v1 : Int32) (v2 : Int32) (u0 : Option Nat) (u1 : Int32) (G : tG) : Prop := w_X3_isIn K (fun x_19 G_19 => ((¬ x_19 = 0 → w_X3_lay_30 K post v0 v1 v2 u0 u1 ((0 : Int32)) G_19) ∧ (x_19 = 0 → w_X3_lay_30 K post v0 v1 v2 u0 u1 ((1 : Int32)) G_19))) v2 ((0 : Int32)) ((12 : Int32)) G
def w_X3_lay (K : tK) (post : Int32 → tG → Prop) (v0 : Option Nat) (v1 : Int32) (v2 : Int32) (G : tG) : Prop := w_X3_isIn K (fun x_4 G_4 => ((¬ x_4 = 0 → w_X3_lay_15 K post v0 v1 v2 v0 ((0 : Int32)) G_4) ∧ (x_4 = 0 → w_X3_lay_15 K post v0 v1 v2 v0 ((1 : Int32)) G_4))) v1 ((0 : Int32)) ((2 : Int32)) G
end
section
def w_L_law_2055 (K : tK) (xL : Nat) (xs : Nat → Int32) (k27 : Nat → Nat → Option Nat → Option Nat → Option Nat → Int32 → tG → Prop) (nc ns : Nat) (v1 : Option Nat) (v2 : Option Nat) (v3 : Option Nat) (v4 : Int32) (G : tG) : Prop := k27 nc ns v1 v2 v3 ((v4 + (6 : Int32))) G
def w_L_law_1060 (K : tK) (xL : Nat) (xs : Nat → Int32) (k27 : Nat → Nat → Option Nat → Option Nat → Option Nat → Int32 → tG → Prop) (nc ns : Nat) (v1 : Option Nat) (v2 : Option Nat) (v3 : Option Nat) (v4 : Int32) (u0 : Option Nat) (u1 : Int32) (u2 : Int32) (u3 : Int32) (u4 : Int32) (G : tG) : Prop := bud nc ns 618168 7241600 (fun mc_1060 ms_1060 => rcv G u0 5 (w_X3_walk K mc_1060 ms_1060 (fun x_1060 G_1060 => w_L_law_2055 K xL xs k27 ((nc + mc_1060)) ((ns + ms_1060)) v1 v2 v3 v4 G_1060) u0 u1 u2 u3 u4 G))
def w_L_law_1021 (K : tK) (xL : Nat) (xs : Nat → Int32) (k27 : Nat → Nat → Option Nat → Option Nat → Option Nat → Int32 → tG → Prop) (nc ns : Nat) (v1 : Option Nat) (v2 : Option Nat) (v3 : Option Nat) (v4 : Int32) (u0 : Option Nat) (u1 : Int32) (u2 : Int32) (u3 : Int32) (u4 : Int32) (G : tG) : Prop := bud nc ns 618168 7241600 (fun mc_1022 ms_1022 => w_L_walk K mc_1022 ms_1022 (fun x_1022 G_1022 => sld xL xs (v4 + (1 : Int32)) (fun x_1033 => sld xL xs (v4 + (2 : Int32)) (fun x_1039 => sld xL xs (v4 + (3 : Int32)) (fun x_1045 => sld xL xs (v4 + (4 : Int32)) (fun x_1051 => ((x_1051 = 0 → w_L_law_1060 K xL xs k27 ((nc + mc_1022)) ((ns + ms_1022)) v1 v2 v3 v4 v2 x_1033 x_1039 x_1045 ((0 : Int32)) G_1022) ∧ (¬ x_1051 = 0 → w_L_law_1060 K xL xs k27 ((nc + mc_1022)) ((ns + ms_1022)) v1 v2 v3 v4 v2 x_1033 x_1039 x_1045 ((1 : Int32)) G_1022))))))) u0 u1 u2 u3 u4 v3 G)
def w_L_law_1180 (K : tK) (xL : Nat) (xs : Nat → Int32) (k27 : Nat → Nat → Option Nat → Option Nat → Option Nat → Int32 → tG → Prop) (nc ns : Nat) (v1 : Option Nat) (v2 : Option Nat) (v3 : Option Nat) (v4 : Int32) (u0 : Option Nat) (u1 : Int32) (u2 : Int32) (u3 : Int32) (u4 : Int32) (u5 : Int32) (G : tG) : Prop := rcv G u0 5 (w_X3_walkSet K (fun x_1180 G_1180 => w_L_law_2055 K xL xs k27 nc ns v1 v2 v3 v4 G_1180) u0 u1 u2 u3 u4 u5 G)
def w_L_law_1135 (K : tK) (xL : Nat) (xs : Nat → Int32) (k27 : Nat → Nat → Option Nat → Option Nat → Option Nat → Int32 → tG → Prop) (nc ns : Nat) (v1 : Option Nat) (v2 : Option Nat) (v3 : Option Nat) (v4 : Int32) (u0 : Option Nat) (u1 : Int32) (u2 : Int32) (u3 : Int32) (u4 : Int32) (u5 : Int32) (G : tG) : Prop := ((nc + 4 ≤ 618168 ∧ ns + 24 ≤ 7241600) ∧ w_L_walkSet K (fun x_1136 G_1136 => sld xL xs (v4 + (1 : Int32)) (fun x_1147 => sld xL xs (v4 + (2 : Int32)) (fun x_1153 => sld xL xs (v4 + (3 : Int32)) (fun x_1159 => sld xL xs (v4 + (4 : Int32)) (fun x_1165 => sld xL xs (v4 + (5 : Int32)) (fun x_1171 => ((x_1171 = 0 → w_L_law_1180 K xL xs k27 ((nc + 4)) ((ns + 24)) v1 v2 v3 v4 v2 x_1147 x_1153 x_1159 x_1165 ((0 : Int32)) G_1136) ∧ (¬ x_1171 = 0 → w_L_law_1180 K xL xs k27 ((nc + 4)) ((ns + 24)) v1 v2 v3 v4 v2 x_1147 x_1153 x_1159 x_1165 ((1 : Int32)) G_1136)))))))) u0 u1 u2 u3 u4 u5 v3 G)
def w_L_law_1380 (K : tK) (xL : Nat) (xs : Nat → Int32) (k27 : Nat → Nat → Option Nat → Option Nat → Option Nat → Int32 → tG → Prop) (nc ns : Nat) (v1 : Option Nat) (v2 : Option Nat) (v3 : Option Nat) (v4 : Int32) (u0 : Option Nat) (u1 : Int32) (u2 : Int32) (G : tG) : Prop := ((nc + 1 ≤ 618168 ∧ ns + 12 ≤ 7241600) ∧ rcv G u0 5 (w_X3_sort K (fun x_1380 G_1380 => w_L_law_2055 K xL xs k27 ((nc + 1)) ((ns + 12)) v1 v2 v3 v4 G_1380) u0 u1 u2 G))
def w_L_law_1353 (K : tK) (xL : Nat) (xs : Nat → Int32) (k27 : Nat → Nat → Option Nat → Option Nat → Option Nat → Int32 → tG → Prop) (nc ns : Nat) (v1 : Option Nat) (v2 : Option Nat) (v3 : Option Nat) (v4 : Int32) (u0 : Option Nat) (u1 : Int32) (u2 : Int32) (G : tG) : Prop := ((nc + 1 ≤ 618168 ∧ ns + 6 ≤ 7241600) ∧ w_L_sort K (fun x_1354 G_1354 => sld xL xs (v4 + (1 : Int32)) (fun x_1365 => sld xL xs (v4 + (2 : Int32)) (fun x_1371 => ((x_1371 = 0 → w_L_law_1380 K xL xs k27 ((nc + 1)) ((ns + 6)) v1 v2 v3 v4 v2 x_1365 ((0 : Int32)) G_1354) ∧ (¬ x_1371 = 0 → w_L_law_1380 K xL xs k27 ((nc + 1)) ((ns + 6)) v1 v2 v3 v4 v2 x_1365 ((1 : Int32)) G_1354))))) u0 u1 u2 v3 G)
def w_L_law_27_b (K : tK) (xL : Nat) (xs : Nat → Int32) (k27 : Nat → Nat → Option Nat → Option Nat → Option Nat → Int32 → tG → Prop) (nc ns : Nat) (v1 : Option Nat) (v2 : Option Nat) (v3 : Option Nat) (v4 : Int32) (G : tG) : Prop := ((((Int32.ofNat xL) - (6 : Int32)) < v4 → (1 : Int32) = 1) ∧ (¬ ((Int32.ofNat xL) - (6 : Int32)) < v4 → sld xL xs v4 (fun x_40 => (((x_40 &&& (63 : Int32)) = (0 : Int32) → sld xL xs (v4 + (1 : Int32)) (fun x_246 => sld xL xs (v4 + (2 : Int32)) (fun x_252 => ((nc + 3 ≤ 618168 ∧ ns + 16 ≤ 7241600) ∧ w_L_lay K (fun x_254 G_254 => sld xL xs (v4 + (1 : Int32)) (fun x_265 => sld xL xs (v4 + (2 : Int32)) (fun x_271 => (((nc + 3) + 1 ≤ 618168 ∧ (ns + 16) + 12 ≤ 7241600) ∧ rcv G_254 v2 5 (w_X3_lay K (fun x_272 G_272 => w_L_law_2055 K xL xs k27 (((nc + 3) + 1)) (((ns + 16) + 12)) v1 v2 v3 v4 G_272) v2 x_265 x_271 G_254))))) v1 x_246 x_252 v3 G)))) ∧ (((x_40 &&& (63 : Int32)) = (1 : Int32) → sld xL xs (v4 + (1 : Int32)) (fun x_286 => sld xL xs (v4 + (2 : Int32)) (fun x_292 => sld xL xs (v4 + (3 : Int32)) (fun x_298 => ((nc + 3 ≤ 618168 ∧ ns + 18 ≤ 7241600) ∧ w_L_put K (fun x_300 G_300 => sld xL xs (v4 + (1 : Int32)) (fun x_311 => sld xL xs (v4 + (2 : Int32)) (fun x_317 => sld xL xs (v4 + (3 : Int32)) (fun x_323 => rcv G_300 v2 5 (w_X3_put K (fun x_324 G_324 => w_L_law_2055 K xL xs k27 ((nc + 3)) ((ns + 18)) v1 v2 v3 v4 G_324) v2 x_311 x_317 x_323 G_300))))) v1 x_286 x_292 x_298 v3 G))))) ∧ (((x_40 &&& (63 : Int32)) = (2 : Int32) → sld xL xs (v4 + (1 : Int32)) (fun x_338 => sld xL xs (v4 + (2 : Int32)) (fun x_344 => ((nc + 2 ≤ 618168 ∧ ns + 12 ≤ 7241600) ∧ w_L_at K (fun x_346 G_346 => sld xL xs (v4 + (1 : Int32)) (fun x_357 => sld xL xs (v4 + (2 : Int32)) (fun x_363 => rcv G_346 v2 5 (w_X3_at K (fun x_364 G_364 => w_L_law_2055 K xL xs k27 ((nc + 2)) ((ns + 12)) v1 v2 v3 v4 G_364) v2 x_357 x_363 G_346)))) v1 x_338 x_344 v3 G)))) ∧ (((x_40 &&& (63 : Int32)) = (3 : Int32) → sld xL xs (v4 + (1 : Int32)) (fun x_378 => sld xL xs (v4 + (2 : Int32)) (fun x_384 => sld xL xs (v4 + (3 : Int32)) (fun x_390 => sld xL xs (v4 + (4 : Int32)) (fun x_396 => ((nc + 5 ≤ 618168 ∧ ns + 28 ≤ 7241600) ∧ w_L_part K (fun x_398 G_398 => sld xL xs (v4 + (1 : Int32)) (fun x_409 => sld xL xs (v4 + (2 : Int32)) (fun x_415 => sld xL xs (v4 + (3 : Int32)) (fun x_421 => sld xL xs (v4 + (4 : Int32)) (fun x_427 => rcv G_398 v2 5 (w_X3_part K (fun x_428 G_428 => w_L_law_2055 K xL xs k27 ((nc + 5)) ((ns + 28)) v1 v2 v3 v4 G_428) v2 x_409 x_415 x_421 x_427 G_398)))))) v1 x_378 x_384 x_390 x_396 v3 G)))))) ∧ (((x_40 &&& (63 : Int32)) = (4 : Int32) → sld xL xs (v4 + (1 : Int32)) (fun x_442 => sld xL xs (v4 + (2 : Int32)) (fun x_448 => sld xL xs (v4 + (3 : Int32)) (fun x_454 => ((nc + 3 ≤ 618168 ∧ ns + 18 ≤ 7241600) ∧ w_L_set K (fun x_456 G_456 => sld xL xs (v4 + (1 : Int32)) (fun x_467 => sld xL xs (v4 + (2 : Int32)) (fun x_473 => sld xL xs (v4 + (3 : Int32)) (fun x_479 => rcv G_456 v2 5 (w_X3_set K (fun x_480 G_480 => w_L_law_2055 K xL xs k27 ((nc + 3)) ((ns + 18)) v1 v2 v3 v4 G_480) v2 x_467 x_473 x_479 G_456))))) v1 x_442 x_448 x_454 v3 G))))) ∧ (((x_40 &&& (63 : Int32)) = (5 : Int32) → sld xL xs (v4 + (1 : Int32)) (fun x_494 => sld xL xs (v4 + (2 : Int32)) (fun x_500 => ((nc + 2 ≤ 618168 ∧ ns + 12 ≤ 7241600) ∧ w_L_get K (fun x_502 G_502 => sld xL xs (v4 + (1 : Int32)) (fun x_513 => sld xL xs (v4 + (2 : Int32)) (fun x_519 => rcv G_502 v2 5 (w_X3_get K (fun x_520 G_520 => w_L_law_2055 K xL xs k27 ((nc + 2)) ((ns + 12)) v1 v2 v3 v4 G_520) v2 x_513 x_519 G_502)))) v1 x_494 x_500 v3 G)))) ∧ (((x_40 &&& (63 : Int32)) = (6 : Int32) → sld xL xs (v4 + (1 : Int32)) (fun x_534 => ((nc + 1 ≤ 618168 ∧ ns + 6 ≤ 7241600) ∧ w_L_length K (fun x_536 G_536 => sld xL xs (v4 + (1 : Int32)) (fun x_547 => rcv G_536 v2 5 (w_X3_length K (fun x_548 G_548 => w_L_law_2055 K xL xs k27 ((nc + 1)) ((ns + 6)) v1 v2 v3 v4 G_548) v2 x_547 G_536))) v1 x_534 v3 G))) ∧ (((x_40 &&& (63 : Int32)) = (7 : Int32) → sld xL xs (v4 + (1 : Int32)) (fun x_562 => ((nc + 1 ≤ 618168 ∧ ns + 6 ≤ 7241600) ∧ w_L_isEmpty K (fun x_564 G_564 => sld xL xs (v4 + (1 : Int32)) (fun x_575 => rcv G_564 v2 5 (w_X3_isEmpty K (fun x_576 G_576 => w_L_law_2055 K xL xs k27 ((nc + 1)) ((ns + 6)) v1 v2 v3 v4 G_576) v2 x_575 G_564))) v1 x_562 v3 G))) ∧ (((x_40 &&& (63 : Int32)) = (8 : Int32) → sld xL xs (v4 + (1 : Int32)) (fun x_590 => bud nc ns 618168 7241600 (fun mc_592 ms_592 => w_L_text K mc_592 ms_592 (fun x_592 G_592 => sld xL xs (v4 + (1 : Int32)) (fun x_603 => bud ((nc + mc_592)) ((ns + ms_592)) 618168 7241600 (fun mc_604 ms_604 => rcv G_592 v2 5 (w_X3_text K mc_604 ms_604 (fun x_604 G_604 => w_L_law_2055 K xL xs k27 (((nc + mc_592) + mc_604)) (((ns + ms_592) + ms_604)) v1 v2 v3 v4 G_604) v2 x_603 G_592)))) v1 x_590 v3 G))) ∧ (((x_40 &&& (63 : Int32)) = (9 : Int32) → sld xL xs (v4 + (1 : Int32)) (fun x_618 => bud nc ns 618168 7241600 (fun mc_620 ms_620 => w_L_back K mc_620 ms_620 (fun x_620 G_620 => sld xL xs (v4 + (1 : Int32)) (fun x_631 => bud ((nc + mc_620)) ((ns + ms_620)) 618168 7241600 (fun mc_632 ms_632 => rcv G_620 v2 5 (w_X3_back K mc_632 ms_632 (fun x_632 G_632 => w_L_law_2055 K xL xs k27 (((nc + mc_620) + mc_632)) (((ns + ms_620) + ms_632)) v1 v2 v3 v4 G_632) v2 x_631 G_620)))) v1 x_618 v3 G))) ∧ (((x_40 &&& (63 : Int32)) = (10 : Int32) → sld xL xs (v4 + (1 : Int32)) (fun x_646 => sld xL xs (v4 + (2 : Int32)) (fun x_652 => ((nc + 2 ≤ 618168 ∧ ns + 12 ≤ 7241600) ∧ w_L_indexOf K (fun x_654 G_654 => sld xL xs (v4 + (1 : Int32)) (fun x_665 => sld xL xs (v4 + (2 : Int32)) (fun x_671 => (((nc + 2) + 1 ≤ 618168 ∧ (ns + 12) + 12 ≤ 7241600) ∧ rcv G_654 v2 5 (w_X3_indexOf K (fun x_672 G_672 => w_L_law_2055 K xL xs k27 (((nc + 2) + 1)) (((ns + 12) + 12)) v1 v2 v3 v4 G_672) v2 x_665 x_671 G_654))))) v1 x_646 x_652 v3 G)))) ∧ (((x_40 &&& (63 : Int32)) = (11 : Int32) → sld xL xs (v4 + (1 : Int32)) (fun x_686 => sld xL xs (v4 + (2 : Int32)) (fun x_692 => ((nc + 2 ≤ 618168 ∧ ns + 12 ≤ 7241600) ∧ w_L_lastIndexOf K (fun x_694 G_694 => sld xL xs (v4 + (1 : Int32)) (fun x_705 => sld xL xs (v4 + (2 : Int32)) (fun x_711 => rcv G_694 v2 5 (w_X3_lastIndexOf K (fun x_712 G_712 => w_L_law_2055 K xL xs k27 ((nc + 2)) ((ns + 12)) v1 v2 v3 v4 G_712) v2 x_705 x_711 G_694)))) v1 x_686 x_692 v3 G)))) ∧ (((x_40 &&& (63 : Int32)) = (12 : Int32) → sld xL xs (v4 + (1 : Int32)) (fun x_726 => sld xL xs (v4 + (2 : Int32)) (fun x_732 => ((nc + 2 ≤ 618168 ∧ ns + 12 ≤ 7241600) ∧ w_L_has K (fun x_734 G_734 => sld xL xs (v4 + (1 : Int32)) (fun x_745 => sld xL xs (v4 + (2 : Int32)) (fun x_751 => (((nc + 2) + 1 ≤ 618168 ∧ (ns + 12) + 12 ≤ 7241600) ∧ rcv G_734 v2 5 (w_X3_has K (fun x_752 G_752 => w_L_law_2055 K xL xs k27 (((nc + 2) + 1)) (((ns + 12) + 12)) v1 v2 v3 v4 G_752) v2 x_745 x_751 G_734))))) v1 x_726 x_732 v3 G)))) ∧ (((x_40 &&& (63 : Int32)) = (13 : Int32) → sld xL xs (v4 + (1 : Int32)) (fun x_766 => sld xL xs (v4 + (2 : Int32)) (fun x_772 => ((nc + 2 ≤ 618168 ∧ ns + 12 ≤ 7241600) ∧ w_L_often K (fun x_774 G_774 => sld xL xs (v4 + (1 : Int32)) (fun x_785 => sld xL xs (v4 + (2 : Int32)) (fun x_791 => (((nc + 2) + 1 ≤ 618168 ∧ (ns + 12) + 12 ≤ 7241600) ∧ rcv G_774 v2 5 (w_X3_often K (fun x_792 G_792 => w_L_law_2055 K xL xs k27 (((nc + 2) + 1)) (((ns + 12) + 12)) v1 v2 v3 v4 G_792) v2 x_785 x_791 G_774))))) v1 x_766 x_772 v3 G)))) ∧ (((x_40 &&& (63 : Int32)) = (14 : Int32) → sld xL xs (v4 + (1 : Int32)) (fun x_806 => sld xL xs (v4 + (2 : Int32)) (fun x_812 => ((nc + 2 ≤ 618168 ∧ ns + 12 ≤ 7241600) ∧ w_L_hasAll K (fun x_814 G_814 => sld xL xs (v4 + (1 : Int32)) (fun x_825 => sld xL xs (v4 + (2 : Int32)) (fun x_831 => (((nc + 2) + 13 ≤ 618168 ∧ (ns + 12) + 156 ≤ 7241600) ∧ rcv G_814 v2 5 (w_X3_hasAll K (fun x_832 G_832 => w_L_law_2055 K xL xs k27 (((nc + 2) + 13)) (((ns + 12) + 156)) v1 v2 v3 v4 G_832) v2 x_825 x_831 G_814))))) v1 x_806 x_812 v3 G)))) ∧ (((x_40 &&& (63 : Int32)) = (15 : Int32) → sld xL xs (v4 + (1 : Int32)) (fun x_846 => sld xL xs (v4 + (2 : Int32)) (fun x_852 => ((nc + 2 ≤ 618168 ∧ ns + 12 ≤ 7241600) ∧ w_L_areApart K (fun x_854 G_854 => sld xL xs (v4 + (1 : Int32)) (fun x_865 => sld xL xs (v4 + (2 : Int32)) (fun x_871 => (((nc + 2) + 13 ≤ 618168 ∧ (ns + 12) + 156 ≤ 7241600) ∧ rcv G_854 v2 5 (w_X3_areApart K (fun x_872 G_872 => w_L_law_2055 K xL xs k27 (((nc + 2) + 13)) (((ns + 12) + 156)) v1 v2 v3 v4 G_872) v2 x_865 x_871 G_854))))) v1 x_846 x_852 v3 G)))) ∧ (((x_40 &&& (63 : Int32)) = (16 : Int32) → sld xL xs (v4 + (1 : Int32)) (fun x_886 => sld xL xs (v4 + (2 : Int32)) (fun x_892 => ((nc + 2 ≤ 618168 ∧ ns + 12 ≤ 7241600) ∧ w_L_indexOfAll K (fun x_894 G_894 => sld xL xs (v4 + (1 : Int32)) (fun x_905 => sld xL xs (v4 + (2 : Int32)) (fun x_911 => (((nc + 2) + 26 ≤ 618168 ∧ (ns + 12) + 312 ≤ 7241600) ∧ rcv G_894 v2 5 (w_X3_indexOfAll K (fun x_912 G_912 => w_L_law_2055 K xL xs k27 (((nc + 2) + 26)) (((ns + 12) + 312)) v1 v2 v3 v4 G_912) v2 x_905 x_911 G_894))))) v1 x_886 x_892 v3 G)))) ∧ (((x_40 &&& (63 : Int32)) = (17 : Int32) → sld xL xs (v4 + (1 : Int32)) (fun x_926 => sld xL xs (v4 + (2 : Int32)) (fun x_932 => ((nc + 2 ≤ 618168 ∧ ns + 12 ≤ 7241600) ∧ w_L_areEqual K (fun x_934 G_934 => sld xL xs (v4 + (1 : Int32)) (fun x_945 => sld xL xs (v4 + (2 : Int32)) (fun x_951 => (((nc + 2) + 2 ≤ 618168 ∧ (ns + 12) + 24 ≤ 7241600) ∧ rcv G_934 v2 5 (w_X3_areEqual K (fun x_952 G_952 => w_L_law_2055 K xL xs k27 (((nc + 2) + 2)) (((ns + 12) + 24)) v1 v2 v3 v4 G_952) v2 x_945 x_951 G_934))))) v1 x_926 x_932 v3 G)))) ∧ (((x_40 &&& (63 : Int32)) = (18 : Int32) → sld xL xs (v4 + (1 : Int32)) (fun x_966 => ((nc + 1 ≤ 618168 ∧ ns + 6 ≤ 7241600) ∧ w_L_code K (fun x_968 G_968 => sld xL xs (v4 + (1 : Int32)) (fun x_979 => (((nc + 1) + 1 ≤ 618168 ∧ (ns + 6) + 12 ≤ 7241600) ∧ rcv G_968 v2 5 (w_X3_code K (fun x_980 G_980 => w_L_law_2055 K xL xs k27 (((nc + 1) + 1)) (((ns + 6) + 12)) v1 v2 v3 v4 G_980) v2 x_979 G_968)))) v1 x_966 v3 G))) ∧ (((x_40 &&& (63 : Int32)) = (19 : Int32) → sld xL xs (v4 + (1 : Int32)) (fun x_994 => sld xL xs (v4 + (2 : Int32)) (fun x_1000 => sld xL xs (v4 + (3 : Int32)) (fun x_1006 => sld xL xs (v4 + (4 : Int32)) (fun x_1012 => ((x_1012 = 0 → w_L_law_1021 K xL xs k27 nc ns v1 v2 v3 v4 v1 x_994 x_1000 x_1006 ((0 : Int32)) G) ∧ (¬ x_1012 = 0 → w_L_law_1021 K xL xs k27 nc ns v1 v2 v3 v4 v1 x_994 x_1000 x_1006 ((1 : Int32)) G))))))) ∧ (((x_40 &&& (63 : Int32)) = (20 : Int32) → sld xL xs (v4 + (1 : Int32)) (fun x_1074 => ((nc + 1 ≤ 618168 ∧ ns + 6 ≤ 7241600) ∧ w_L_sum K (fun x_1076 G_1076 => sld xL xs (v4 + (1 : Int32)) (fun x_1087 => (((nc + 1) + 1 ≤ 618168 ∧ (ns + 6) + 12 ≤ 7241600) ∧ rcv G_1076 v2 5 (w_X3_sum K (fun x_1088 G_1088 => w_L_law_2055 K xL xs k27 (((nc + 1) + 1)) (((ns + 6) + 12)) v1 v2 v3 v4 G_1088) v2 x_1087 G_1076)))) v1 x_1074 v3 G))) ∧ (((x_40 &&& (63 : Int32)) = (21 : Int32) → sld xL xs (v4 + (1 : Int32)) (fun x_1102 => sld xL xs (v4 + (2 : Int32)) (fun x_1108 => sld xL xs (v4 + (3 : Int32)) (fun x_1114 => sld xL xs (v4 + (4 : Int32)) (fun x_1120 => sld xL xs (v4 + (5 : Int32)) (fun x_1126 => ((x_1126 = 0 → w_L_law_1135 K xL xs k27 nc ns v1 v2 v3 v4 v1 x_1102 x_1108 x_1114 x_1120 ((0 : Int32)) G) ∧ (¬ x_1126 = 0 → w_L_law_1135 K xL xs k27 nc ns v1 v2 v3 v4 v1 x_1102 x_1108 x_1114 x_1120 ((1 : Int32)) G)))))))) ∧ (((x_40 &&& (63 : Int32)) = (22 : Int32) → sld xL xs (v4 + (1 : Int32)) (fun x_1194 => sld xL xs (v4 + (2 : Int32)) (fun x_1200 => sld xL xs (v4 + (3 : Int32)) (fun x_1206 => ((nc + 3 ≤ 618168 ∧ ns + 18 ≤ 7241600) ∧ w_L_replaceAll K (fun x_1208 G_1208 => sld xL xs (v4 + (1 : Int32)) (fun x_1219 => sld xL xs (v4 + (2 : Int32)) (fun x_1225 => sld xL xs (v4 + (3 : Int32)) (fun x_1231 => rcv G_1208 v2 5 (w_X3_replaceAll K (fun x_1232 G_1232 => w_L_law_2055 K xL xs k27 ((nc + 3)) ((ns + 18)) v1 v2 v3 v4 G_1232) v2 x_1219 x_1225 x_1231 G_1208))))) v1 x_1194 x_1200 x_1206 v3 G))))) ∧ (((x_40 &&& (63 : Int32)) = (23 : Int32) → sld xL xs (v4 + (1 : Int32)) (fun x_1246 => sld xL xs (v4 + (2 : Int32)) (fun x_1252 => sld xL xs (v4 + (3 : Int32)) (fun x_1258 => ((nc + 3 ≤ 618168 ∧ ns + 18 ≤ 7241600) ∧ w_L_replaceOld K (fun x_1260 G_1260 => sld xL xs (v4 + (1 : Int32)) (fun x_1271 => sld xL xs (v4 + (2 : Int32)) (fun x_1277 => sld xL xs (v4 + (3 : Int32)) (fun x_1283 => (((nc + 3) + 1 ≤ 618168 ∧ (ns + 18) + 12 ≤ 7241600) ∧ rcv G_1260 v2 5 (w_X3_replaceOld K (fun x_1284 G_1284 => w_L_law_2055 K xL xs k27 (((nc + 3) + 1)) (((ns + 18) + 12)) v1 v2 v3 v4 G_1284) v2 x_1271 x_1277 x_1283 G_1260)))))) v1 x_1246 x_1252 x_1258 v3 G))))) ∧ (((x_40 &&& (63 : Int32)) = (24 : Int32) → sld xL xs (v4 + (1 : Int32)) (fun x_1298 => sld xL xs (v4 + (2 : Int32)) (fun x_1304 => ((nc + 2 ≤ 618168 ∧ ns + 12 ≤ 7241600) ∧ w_L_fill K (fun x_1306 G_1306 => sld xL xs (v4 + (1 : Int32)) (fun x_1317 => sld xL xs (v4 + (2 : Int32)) (fun x_1323 => rcv G_1306 v2 5 (w_X3_fill K (fun x_1324 G_1324 => w_L_law_2055 K xL xs k27 ((nc + 2)) ((ns + 12)) v1 v2 v3 v4 G_1324) v2 x_1317 x_1323 G_1306)))) v1 x_1298 x_1304 v3 G)))) ∧ (((x_40 &&& (63 : Int32)) = (25 : Int32) → sld xL xs (v4 + (1 : Int32)) (fun x_1338 => sld xL xs (v4 + (2 : Int32)) (fun x_1344 => ((x_1344 = 0 → w_L_law_1353 K xL xs k27 nc ns v1 v2 v3 v4 v1 x_1338 ((0 : Int32)) G) ∧ (¬ x_1344 = 0 → w_L_law_1353 K xL xs k27 nc ns v1 v2 v3 v4 v1 x_1338 ((1 : Int32)) G))))) ∧ (((x_40 &&& (63 : Int32)) = (26 : Int32) → sld xL xs (v4 + (1 : Int32)) (fun x_1394 => ((nc + 1 ≤ 618168 ∧ ns + 6 ≤ 7241600) ∧ w_L_reverse K (fun x_1396 G_1396 => sld xL xs (v4 + (1 : Int32)) (fun x_1407 => (((nc + 1) + 1 ≤ 618168 ∧ (ns + 6) + 12 ≤ 7241600) ∧ rcv G_1396 v2 5 (w_X3_reverse K (fun x_1408 G_1408 => w_L_law_2055 K xL xs k27 (((nc + 1) + 1)) (((ns + 6) + 12)) v1 v2 v3 v4 G_1408) v2 x_1407 G_1396)))) v1 x_1394 v3 G))) ∧ (((x_40 &&& (63 : Int32)) = (27 : Int32) → sld xL xs (v4 + (1 : Int32)) (fun x_1422 => sld xL xs (v4 + (2 : Int32)) (fun x_1428 => ((nc + 2 ≤ 618168 ∧ ns + 12 ≤ 7241600) ∧ w_L_rotate K (fun x_1430 G_1430 => sld xL xs (v4 + (1 : Int32)) (fun x_1441 => sld xL xs (v4 + (2 : Int32)) (fun x_1447 => (((nc + 2) + 1 ≤ 618168 ∧ (ns + 12) + 12 ≤ 7241600) ∧ rcv G_1430 v2 5 (w_X3_rotate K (fun x_1448 G_1448 => w_L_law_2055 K xL xs k27 (((nc + 2) + 1)) (((ns + 12) + 12)) v1 v2 v3 v4 G_1448) v2 x_1441 x_1447 G_1430))))) v1 x_1422 x_1428 v3 G)))) ∧ (((x_40 &&& (63 : Int32)) = (28 : Int32) → sld xL xs (v4 + (1 : Int32)) (fun x_1462 => sld xL xs (v4 + (2 : Int32)) (fun x_1468 => sld xL xs (v4 + (3 : Int32)) (fun x_1474 => ((nc + 3 ≤ 618168 ∧ ns + 18 ≤ 7241600) ∧ w_L_swap K (fun x_1476 G_1476 => sld xL xs (v4 + (1 : Int32)) (fun x_1487 => sld xL xs (v4 + (2 : Int32)) (fun x_1493 => sld xL xs (v4 + (3 : Int32)) (fun x_1499 => rcv G_1476 v2 5 (w_X3_swap K (fun x_1500 G_1500 => w_L_law_2055 K xL xs k27 ((nc + 3)) ((ns + 18)) v1 v2 v3 v4 G_1500) v2 x_1487 x_1493 x_1499 G_1476))))) v1 x_1462 x_1468 x_1474 v3 G))))) ∧ (((x_40 &&& (63 : Int32)) = (29 : Int32) → sld xL xs (v4 + (1 : Int32)) (fun x_1514 => sld xL xs (v4 + (2 : Int32)) (fun x_1520 => ((nc + 2 ≤ 618168 ∧ ns + 12 ≤ 7241600) ∧ w_L_add K (fun x_1522 G_1522 => sld xL xs (v4 + (1 : Int32)) (fun x_1533 => sld xL xs (v4 + (2 : Int32)) (fun x_1539 => rcv G_1522 v2 5 (w_X3_add K (fun x_1540 G_1540 => w_L_law_2055 K xL xs k27 ((nc + 2)) ((ns + 12)) v1 v2 v3 v4 G_1540) v2 x_1533 x_1539 G_1522)))) v1 x_1514 x_1520 v3 G)))) ∧ (((x_40 &&& (63 : Int32)) = (30 : Int32) → sld xL xs (v4 + (1 : Int32)) (fun x_1554 => sld xL xs (v4 + (2 : Int32)) (fun x_1560 => sld xL xs (v4 + (3 : Int32)) (fun x_1566 => ((nc + 3 ≤ 618168 ∧ ns + 18 ≤ 7241600) ∧ w_L_addAt K (fun x_1568 G_1568 => sld xL xs (v4 + (1 : Int32)) (fun x_1579 => sld xL xs (v4 + (2 : Int32)) (fun x_1585 => sld xL xs (v4 + (3 : Int32)) (fun x_1591 => rcv G_1568 v2 5 (w_X3_addAt K (fun x_1592 G_1592 => w_L_law_2055 K xL xs k27 ((nc + 3)) ((ns + 18)) v1 v2 v3 v4 G_1592) v2 x_1579 x_1585 x_1591 G_1568))))) v1 x_1554 x_1560 x_1566 v3 G))))) ∧ (((x_40 &&& (63 : Int32)) = (31 : Int32) → sld xL xs (v4 + (1 : Int32)) (fun x_1606 => sld xL xs (v4 + (2 : Int32)) (fun x_1612 => ((nc + 2 ≤ 618168 ∧ ns + 12 ≤ 7241600) ∧ w_L_addAll K (fun x_1614 G_1614 => sld xL xs (v4 + (1 : Int32)) (fun x_1625 => sld xL xs (v4 + (2 : Int32)) (fun x_1631 => rcv G_1614 v2 5 (w_X3_addAll K (fun x_1632 G_1632 => w_L_law_2055 K xL xs k27 ((nc + 2)) ((ns + 12)) v1 v2 v3 v4 G_1632) v2 x_1625 x_1631 G_1614)))) v1 x_1606 x_1612 v3 G)))) ∧ (((x_40 &&& (63 : Int32)) = (32 : Int32) → sld xL xs (v4 + (1 : Int32)) (fun x_1646 => sld xL xs (v4 + (2 : Int32)) (fun x_1652 => ((nc + 2 ≤ 618168 ∧ ns + 12 ≤ 7241600) ∧ w_L_remove K (fun x_1654 G_1654 => sld xL xs (v4 + (1 : Int32)) (fun x_1665 => sld xL xs (v4 + (2 : Int32)) (fun x_1671 => rcv G_1654 v2 5 (w_X3_remove K (fun x_1672 G_1672 => w_L_law_2055 K xL xs k27 ((nc + 2)) ((ns + 12)) v1 v2 v3 v4 G_1672) v2 x_1665 x_1671 G_1654)))) v1 x_1646 x_1652 v3 G)))) ∧ (((x_40 &&& (63 : Int32)) = (33 : Int32) → sld xL xs (v4 + (1 : Int32)) (fun x_1686 => sld xL xs (v4 + (2 : Int32)) (fun x_1692 => ((nc + 2 ≤ 618168 ∧ ns + 12 ≤ 7241600) ∧ w_L_removeValue K (fun x_1694 G_1694 => sld xL xs (v4 + (1 : Int32)) (fun x_1705 => sld xL xs (v4 + (2 : Int32)) (fun x_1711 => (((nc + 2) + 1 ≤ 618168 ∧ (ns + 12) + 12 ≤ 7241600) ∧ rcv G_1694 v2 5 (w_X3_removeValue K (fun x_1712 G_1712 => w_L_law_2055 K xL xs k27 (((nc + 2) + 1)) (((ns + 12) + 12)) v1 v2 v3 v4 G_1712) v2 x_1705 x_1711 G_1694))))) v1 x_1686 x_1692 v3 G)))) ∧ (((x_40 &&& (63 : Int32)) = (34 : Int32) → sld xL xs (v4 + (1 : Int32)) (fun x_1726 => sld xL xs (v4 + (2 : Int32)) (fun x_1732 => ((nc + 2 ≤ 618168 ∧ ns + 12 ≤ 7241600) ∧ w_L_removeAll K (fun x_1734 G_1734 => sld xL xs (v4 + (1 : Int32)) (fun x_1745 => sld xL xs (v4 + (2 : Int32)) (fun x_1751 => (((nc + 2) + 13 ≤ 618168 ∧ (ns + 12) + 156 ≤ 7241600) ∧ rcv G_1734 v2 5 (w_X3_removeAll K (fun x_1752 G_1752 => w_L_law_2055 K xL xs k27 (((nc + 2) + 13)) (((ns + 12) + 156)) v1 v2 v3 v4 G_1752) v2 x_1745 x_1751 G_1734))))) v1 x_1726 x_1732 v3 G)))) ∧ (((x_40 &&& (63 : Int32)) = (35 : Int32) → sld xL xs (v4 + (1 : Int32)) (fun x_1766 => sld xL xs (v4 + (2 : Int32)) (fun x_1772 => ((nc + 2 ≤ 618168 ∧ ns + 12 ≤ 7241600) ∧ w_L_retainAll K (fun x_1774 G_1774 => sld xL xs (v4 + (1 : Int32)) (fun x_1785 => sld xL xs (v4 + (2 : Int32)) (fun x_1791 => (((nc + 2) + 13 ≤ 618168 ∧ (ns + 12) + 156 ≤ 7241600) ∧ rcv G_1774 v2 5 (w_X3_retainAll K (fun x_1792 G_1792 => w_L_law_2055 K xL xs k27 (((nc + 2) + 13)) (((ns + 12) + 156)) v1 v2 v3 v4 G_1792) v2 x_1785 x_1791 G_1774))))) v1 x_1766 x_1772 v3 G)))) ∧ (((x_40 &&& (63 : Int32)) = (36 : Int32) → sld xL xs (v4 + (1 : Int32)) (fun x_1806 => sld xL xs (v4 + (2 : Int32)) (fun x_1812 => sld xL xs (v4 + (3 : Int32)) (fun x_1818 => ((nc + 3 ≤ 618168 ∧ ns + 18 ≤ 7241600) ∧ w_L_removeIf K (fun x_1820 G_1820 => sld xL xs (v4 + (1 : Int32)) (fun x_1831 => sld xL xs (v4 + (2 : Int32)) (fun x_1837 => sld xL xs (v4 + (3 : Int32)) (fun x_1843 => (((nc + 3) + 1 ≤ 618168 ∧ (ns + 18) + 12 ≤ 7241600) ∧ rcv G_1820 v2 5 (w_X3_removeIf K (fun x_1844 G_1844 => w_L_law_2055 K xL xs k27 (((nc + 3) + 1)) (((ns + 18) + 12)) v1 v2 v3 v4 G_1844) v2 x_1831 x_1837 x_1843 G_1820)))))) v1 x_1806 x_1812 x_1818 v3 G))))) ∧ (((x_40 &&& (63 : Int32)) = (37 : Int32) → sld xL xs (v4 + (1 : Int32)) (fun x_1858 => ((nc + 1 ≤ 618168 ∧ ns + 6 ≤ 7241600) ∧ w_L_clear K (fun x_1860 G_1860 => sld xL xs (v4 + (1 : Int32)) (fun x_1871 => rcv G_1860 v2 5 (w_X3_clear K (fun x_1872 G_1872 => w_L_law_2055 K xL xs k27 ((nc + 1)) ((ns + 6)) v1 v2 v3 v4 G_1872) v2 x_1871 G_1860))) v1 x_1858 v3 G))) ∧ (((x_40 &&& (63 : Int32)) = (38 : Int32) → sld xL xs (v4 + (1 : Int32)) (fun x_1886 => sld xL xs (v4 + (2 : Int32)) (fun x_1892 => sld xL xs (v4 + (3 : Int32)) (fun x_1898 => ((nc + 3 ≤ 618168 ∧ ns + 18 ≤ 7241600) ∧ w_L_walkChange K (fun x_1900 G_1900 => sld xL xs (v4 + (1 : Int32)) (fun x_1911 => sld xL xs (v4 + (2 : Int32)) (fun x_1917 => sld xL xs (v4 + (3 : Int32)) (fun x_1923 => rcv G_1900 v2 5 (w_X3_walkChange K (fun x_1924 G_1924 => w_L_law_2055 K xL xs k27 ((nc + 3)) ((ns + 18)) v1 v2 v3 v4 G_1924) v2 x_1911 x_1917 x_1923 G_1900))))) v1 x_1886 x_1892 x_1898 v3 G))))) ∧ (((x_40 &&& (63 : Int32)) = (39 : Int32) → rcv G v1 3 (w_X1_knock K (fun x_1933 G_1933 => rcv G_1933 v2 5 (w_X3_knock K (fun x_1937 G_1937 => ((x_1933 = x_1937 → w_L_law_2055 K xL xs k27 nc ns v1 v2 v3 v4 G_1937) ∧ (¬ x_1933 = x_1937 → (0 : Int32) = 1))) v2 G_1933)) v1 G)) ∧ (((x_40 &&& (63 : Int32)) = (40 : Int32) → sld xL xs (v4 + (1 : Int32)) (fun x_1951 => ((nc + 4 ≤ 618168 ∧ ns + 24 ≤ 7241600) ∧ w_L_house K (fun x_1953 G_1953 => sld xL xs (v4 + (1 : Int32)) (fun x_1964 => (((nc + 4) + 1 ≤ 618168 ∧ (ns + 24) + 4 ≤ 7241600) ∧ rcv G_1953 v2 5 (w_X3_house K (fun x_1965 G_1965 => w_L_law_2055 K xL xs k27 (((nc + 4) + 1)) (((ns + 24) + 4)) v1 v2 v3 v4 G_1965) v2 x_1964 G_1953)))) v1 x_1951 v3 G))) ∧ (((x_40 &&& (63 : Int32)) = (41 : Int32) → sld xL xs (v4 + (1 : Int32)) (fun x_1979 => ((nc + 1 ≤ 618168 ∧ ns + 6 ≤ 7241600) ∧ w_L_rowOf K (fun x_1981 G_1981 => sld xL xs (v4 + (1 : Int32)) (fun x_1992 => rcv G_1981 v2 5 (w_X3_rowOf K (fun x_1993 G_1993 => w_L_law_2055 K xL xs k27 ((nc + 1)) ((ns + 6)) v1 v2 v3 v4 G_1993) v2 x_1992 G_1981))) v1 x_1979 v3 G))) ∧ (((x_40 &&& (63 : Int32)) = (42 : Int32) → sld xL xs (v4 + (1 : Int32)) (fun x_2007 => ((nc + 1 ≤ 618168 ∧ ns + 6 ≤ 7241600) ∧ w_L_begin K (fun x_2009 G_2009 => sld xL xs (v4 + (1 : Int32)) (fun x_2020 => rcv G_2009 v2 5 (w_X3_begin K (fun x_2021 G_2021 => w_L_law_2055 K xL xs k27 ((nc + 1)) ((ns + 6)) v1 v2 v3 v4 G_2021) v2 x_2020 G_2009))) v1 x_2007 v3 G))) ∧ (((x_40 &&& (63 : Int32)) = (43 : Int32) → ((nc + 7 ≤ 618168 ∧ ns + 28 ≤ 7241600) ∧ rcv G v1 3 (w_X1_isSound K (fun x_2030 G_2030 => rcv G_2030 v2 5 (w_X3_isSound K (fun x_2035 G_2035 => w_L_law_2055 K xL xs k27 ((nc + 7)) ((ns + 28)) v1 v2 v3 v4 G_2035) v2 G_2030)) v1 G))) ∧ (((x_40 &&& (63 : Int32)) = (44 : Int32) → ((nc + 61 ≤ 618168 ∧ ns + 352 ≤ 7241600) ∧ rcv G v1 3 (w_X1_digest K (fun x_2043 G_2043 => (((nc + 61) + 20 ≤ 618168 ∧ (ns + 352) + 200 ≤ 7241600) ∧ rcv G_2043 v2 5 (w_X3_digest K (fun x_2048 G_2048 => w_L_law_2055 K xL xs k27 (((nc + 61) + 20)) (((ns + 352) + 200)) v1 v2 v3 v4 G_2048) v2 G_2043))) (fun _ _ => False) v1 G))) ∧ ((((x_40 &&& (63 : Int32))).toInt < 0 ∨ 44 < ((x_40 &&& (63 : Int32))).toInt) → w_L_law_2055 K xL xs k27 nc ns v1 v2 v3 v4 G)))))))))))))))))))))))))))))))))))))))))))))))))
def w_L_law_27 (K : tK) (xL : Nat) (xs : Nat → Int32) : Nat → Nat → Nat → Option Nat → Option Nat → Option Nat → Int32 → tG → Prop
  | 0 => fun _ _ _ _ _ _ _ => False
  | n + 1 => w_L_law_27_b K xL xs (w_L_law_27 K xL xs n)
def w_L_law (K : tK) (xL : Nat) (xs : Nat → Int32) (G : tG) : Prop := ((0 + 1 ≤ 618168 ∧ 0 + 4 ≤ 7241600) ∧ nwO G 3 [.null, .null, .int 0, .int 0] (fun r_0 G_0 => (((0 + 1) + 8 ≤ 618168 ∧ (0 + 4) + 67 ≤ 7241600) ∧ ((∃ q : Nat, r_0 = some q) ∧ w_X1_init K (fun G_4 => ((((0 + 1) + 8) + 1 ≤ 618168 ∧ ((0 + 4) + 67) + 8 ≤ 7241600) ∧ nwO G_4 5 [.null, .null, .null, .null, .int 0, .int 0, .int 0, .long 0] (fun r_8 G_8 => (((((0 + 1) + 8) + 1) + 7 ≤ 618168 ∧ (((0 + 4) + 67) + 8) + 36 ≤ 7241600) ∧ ((∃ q : Nat, r_8 = some q) ∧ w_X3_init K (fun G_12 => ((((((0 + 1) + 8) + 1) + 7) + 1 ≤ 618168 ∧ ((((0 + 4) + 67) + 8) + 36) + 2 ≤ 7241600) ∧ nwO G_12 4 [.long 0, .null] (fun r_16 G_16 => ((∃ q : Nat, r_16 = some q) ∧ w_X2_init K (fun G_20 => ∃ n : Nat, w_L_law_27 K xL xs n ((((((0 + 1) + 8) + 1) + 7) + 1)) ((((((0 + 4) + 67) + 8) + 36) + 2)) r_0 r_8 r_16 ((0 : Int32)) G_20) r_16 G_16)))) r_8 G_8))))) r_0 G_0))))
end
section
/-! PURE ROWS: how the transformers' questions are answered -/
theorem gfI_i {G : tG} {a ci k : Nat} {fs : List Value} {x : Int32} {P : Int32 → Prop} (hG : G a = some (.inr (ci, fs))) (hx : fs[k]? = some (.int x)) (h : P x) : gfI G (some a) ci k P := ⟨a, fs, x, rfl, hG, hx, h⟩
theorem gfL_i {G : tG} {a ci k : Nat} {fs : List Value} {x : Int64} {P : Int64 → Prop} (hG : G a = some (.inr (ci, fs))) (hx : fs[k]? = some (.long x)) (h : P x) : gfL G (some a) ci k P := ⟨a, fs, x, rfl, hG, hx, h⟩
theorem gfR_i {G : tG} {a ci k : Nat} {fs : List Value} (v : Nat) {P : Option Nat → Prop} (hG : G a = some (.inr (ci, fs))) (hx : fs[k]? = some (.ref v)) (h : P (some v)) : gfR G (some a) ci k P := ⟨a, fs, some v, rfl, hG, hx, h⟩
theorem pfV_i {G : tG} {a ci k : Nat} {fs : List Value} {v : Value} {P : tG → Prop} (hG : G a = some (.inr (ci, fs))) (hk : k < fs.length) (h : P (tg_up G a (.inr (ci, fs.set k v)))) : pfV G (some a) ci k v P := ⟨a, fs, rfl, hG, hk, h⟩
theorem alI_i {G : tG} {a n j : Nat} {f : Nat → Int32} {ty : FieldType} {i : Int32} {P : Int32 → Prop} (hG : G a = some (.inl (ty, n, .inl f))) (hi : i = nI j) (hj : j < n) (hn : n < 2 ^ 31) (h : P (f j)) : alI G (some a) i ty P := ⟨a, n, f, j, rfl, hG, by rw [hi]; exact nI_toInt (by omega), hj, h⟩
theorem alR_i {G : tG} {a n j : Nat} {f : Nat → Option Nat} {ty : FieldType} {i : Int32} {P : Option Nat → Prop} (hG : G a = some (.inl (ty, n, .inr (.inr (.inr (.inr f)))))) (hi : i = nI j) (hj : j < n) (hn : n < 2 ^ 31) (h : P (f j)) : alR G (some a) i ty P := ⟨a, n, f, j, rfl, hG, by rw [hi]; exact nI_toInt (by omega), hj, h⟩
theorem asI_i {G : tG} {a n j : Nat} {f : Nat → Int32} {ty : FieldType} {i x : Int32} {P : tG → Prop} (hG : G a = some (.inl (ty, n, .inl f))) (hi : i = nI j) (hj : j < n) (hn : n < 2 ^ 31) (h : P (tg_up G a (.inl (ty, n, .inl (upd f j x))))) : asI G (some a) i ty x P := ⟨a, n, f, j, rfl, hG, by rw [hi]; exact nI_toInt (by omega), hj, h⟩
theorem lenA_i {G : tG} {a : Nat} {ty : FieldType} {x : vp_A} {P : Int32 → Prop} (hG : G a = some (.inl (ty, x))) (h : P (nI x.1)) : lenA G (some a) P := ⟨a, ty, x, rfl, hG, h⟩
theorem rcv_i {G : tG} {a ci : Nat} {fs : List Value} {P : Prop} (hG : G a = some (.inr (ci, fs))) (h : P) : rcv G (some a) ci P := ⟨a, fs, rfl, hG, h⟩
theorem ifT {c : Prop} {A B : Prop} (hc : c) (h : A) : (c → A) ∧ (¬ c → B) := ⟨fun _ => h, fun q => absurd hc q⟩
theorem ifF {c : Prop} {A B : Prop} (hc : ¬ c) (h : B) : (c → A) ∧ (¬ c → B) := ⟨fun q => absurd q hc, fun _ => h⟩
theorem ifT2 {c : Prop} {A B : Prop} (hc : c) (h : B) : (¬ c → A) ∧ (c → B) := ⟨fun q => absurd hc q, fun _ => h⟩
theorem ifF2 {c : Prop} {A B : Prop} (hc : ¬ c) (h : A) : (¬ c → A) ∧ (c → B) := ⟨fun _ => h, fun q => absurd q hc⟩
/-- a list of the class: an object, its row's places -/
abbrev oRL (r : Int32) (v : Nat) (b n : Nat) : tE := .inr (2, [.int r, .ref v, .int (nI b), .int (nI n)])
abbrev eI (n : Nat) (f : Nat → Int32) : tE := .inl (.int, n, .inl f)
theorem tg_keep {G : tG} {a b : Nat} {e e2 : tE} (h : G b = some e2) (hne : b ≠ a) : tg_up G a e b = some e2 := by rw [tg_n _ _ hne]; exact h
theorem ne_of_G {G : tG} {a b : Nat} {e1 e2 : tE} (h1 : G a = some e1) (h2 : G b = some e2) (h : e1 ≠ e2) : a ≠ b := fun q => h (Option.some.inj (h1.symm.trans (q ▸ h2)))
theorem ne_OI {G : tG} {a b : Nat} {o : Nat × List Value} {x : FieldType × vp_A} (h1 : G a = some (.inr o)) (h2 : G b = some (.inl x)) : a ≠ b := ne_of_G h1 h2 (fun h => by cases h)
/-! RowList -/
section RLL
variable {K : tK} {G : tG} {o v : Nat} {r : Int32} {b n N : Nat} {f : Nat → Int32}
theorem l_read {post : Int32 → tG → Prop} (ho : G o = some (oRL r v b n)) (hv : G v = some (eI N f)) {place : Int32} {j : Nat} (hp : place = nI j) (hj : b + j < N) (hN : N < 2 ^ 31) (h : post (f (b + j)) G) : w_X0_read K post (some o) place G := by
  subst hp
  refine gfI_i ho rfl ?_
  rw [nI_add]
  refine ifF (nI_pos (by omega)) ?_
  refine gfR_i v ho rfl (lenA_i hv ?_)
  refine ifF (nI_ge hj hN) ?_
  exact gfR_i v ho rfl (alI_i hv rfl hj hN h)
theorem l_write {post : Int32 → tG → Prop} (ho : G o = some (oRL r v b n)) (hv : G v = some (eI N f)) {place x : Int32} {j : Nat} (hp : place = nI j) (hj : b + j < N) (hN : N < 2 ^ 31) (h : post (f (b + j)) (tg_up G v (eI N (upd f (b + j) x)))) : w_X0_write K post (some o) place x G := by
  refine rcv_i ho (l_read ho hv hp hj hN ?_)
  subst hp
  refine gfI_i ho rfl ?_
  rw [nI_add]
  refine ifF (nI_pos (by omega)) ?_
  refine gfR_i v ho rfl (lenA_i hv ?_)
  refine ifF (nI_ge hj hN) ?_
  exact gfR_i v ho rfl (asI_i hv rfl hj hN h)
theorem l_isPlace {post : Int32 → tG → Prop} (ho : G o = some (oRL r v b n)) {j : Nat} (hj : j < 2 ^ 31) (hn : n < 2 ^ 31) (h : post (if j < n then 1 else 0) G) : w_X0_isPlace K post (some o) (nI j) G := by
  refine ifF (nI_pos hj) ?_
  refine gfI_i ho rfl ?_
  by_cases c : j < n
  · rw [if_pos c] at h
    refine ifF (nI_ge c hn) ⟨by decide, h⟩
  · rw [if_neg c] at h
    exact ifT ((nI_leI hn hj).mpr (by omega)) ⟨by decide, h⟩
theorem l_isPlaceN {post : Int32 → tG → Prop} {place : Int32} (hp : place < 0) (h : post 0 G) : w_X0_isPlace K post (some o) place G := by
  exact ifT hp ⟨by decide, h⟩
theorem l_exchange {post : tG → Prop} (ho : G o = some (oRL r v b n)) (hv : G v = some (eI N f)) {p q : Int32} {i j : Nat} (hp : p = nI i) (hq : q = nI j) (hi : b + i < N) (hj : b + j < N) (hN : N < 2 ^ 31) (h : post (tg_up (tg_up G v (eI N (upd f (b + i) (f (b + j))))) v (eI N (upd (upd f (b + i) (f (b + j))) (b + j) (f (b + i)))))) : w_X0_exchange K post (some o) p q G := by
  have hne : o ≠ v := ne_OI ho hv
  refine rcv_i ho (l_read ho hv hq hj hN ?_)
  refine rcv_i ho (l_write ho hv hp hi hN ?_)
  exact rcv_i (tg_keep ho hne) (l_write (tg_keep ho hne) (tg_s _ _ _) hq hj hN h)
end RLL
/-- what a step leaves alone: all that was there, but the cells of P -/
def fr (P : Nat → Prop) (G G' : tG) : Prop := ∀ (q : Nat) (e : tE), G q = some e → ¬ P q → G' q = some e
theorem fr_rf (P : Nat → Prop) (G : tG) : fr P G G := fun _ _ h _ => h
theorem fr_tr {P : Nat → Prop} {G1 G2 G3 : tG} (h : fr P G1 G2) (h2 : fr P G2 G3) : fr P G1 G3 := fun q e hq hp => h2 q e (h q e hq hp) hp
theorem fr_up {P : Nat → Prop} {G : tG} {a : Nat} (e : tE) (h : P a) : fr P G (tg_up G a e) := fun q e' hq hp => by
  rw [tg_n]
  · exact hq
  · intro he; exact hp (he ▸ h)
theorem fr_new {P : Nat → Prop} {G : tG} {a : Nat} (e : tE) (h : G a = none) : fr P G (tg_up G a e) := fun q e' hq _ => by
  rw [tg_n]
  · exact hq
  · intro he; rw [he, h] at hq; cases hq
/-! the rows as the document has them: the lists (row, begin, length), the values by row and place, knocks, refusals -/
abbrev tS : Type := (Nat → Option (Nat × Nat × Nat)) × (Nat → Nat → Int32) × Int32 × Int32
abbrev okV (x : Int32) : Prop := x = -1000 ∨ (¬ x < -99 ∧ x ≤ 99)
def S_ok (S : tS) : Prop := (∀ r, r < 3 → ∃ n, S.1 r = some (r, 0, n) ∧ n ≤ 12) ∧ (∀ j r b n, j < 7 → S.1 j = some (r, b, n) → r < 3 ∧ ∃ n0, S.1 r = some (r, 0, n0) ∧ b + n ≤ n0) ∧ (∀ r i, r < 3 → i < 12 → okV (S.2.1 r i))
theorem S_12 {S : tS} (h : S_ok S) {j r b n : Nat} (hj : j < 7) (hs : S.1 j = some (r, b, n)) : r < 3 ∧ b + n ≤ 12 := by
  obtain ⟨hr, n0, h1, h2⟩ := h.2.1 j r b n hj hs
  obtain ⟨n1, h3, h4⟩ := h.1 r hr
  rw [h1] at h3
  cases h3
  exact ⟨hr, by omega⟩
/-- one value written -/
def S_put (S : tS) (r k : Nat) (x : Int32) : tS := (S.1, (fun r' => if r' = r then upd (S.2.1 r) k x else S.2.1 r'), S.2.2)
theorem S_put_ok {S : tS} (h : S_ok S) (r k : Nat) {x : Int32} (hx : okV x) : S_ok (S_put S r k x) := by
  refine ⟨h.1, h.2.1, fun r' i hr hi => ?_⟩
  show okV ((if r' = r then upd (S.2.1 r) k x else S.2.1 r') i)
  by_cases c : r' = r
  · rw [if_pos c]
    unfold upd
    by_cases c2 : i = k
    · simp [c2, hx]
    · simp [c2]; exact h.2.2 r i (c ▸ hr) hi
  · rw [if_neg c]; exact h.2.2 r' i hr hi
/-! the class's cells: the object, its lists' array, its spare array, the rows' arrays -/
abbrev tL : Type := Nat × Nat × Nat × (Nat → Nat)
abbrev oTw (la sp : Nat) (k rf : Int32) : tE := .inr (3, [.ref la, .ref sp, .int k, .int rf])
abbrev eL (lf : Nat → Option Nat) : tE := .inl (.object "Twinrow$RowList", 7, .inr (.inr (.inr (.inr lf))))
def lfR (G : tG) (va : Nat → Nat) (lf : Nat → Option Nat) (S : tS) : Prop := ∀ j, j < 7 → (lf j = none ∧ S.1 j = none) ∨ ∃ o r b n, lf j = some o ∧ S.1 j = some (r, b, n) ∧ G o = some (oRL (nI r) (va r) b n)
def TwR (G : tG) (L : tL) (S : tS) : Prop := S_ok S ∧ (∃ lf, G L.1 = some (oTw L.2.1 L.2.2.1 S.2.2.1 S.2.2.2) ∧ G L.2.1 = some (eL lf) ∧ lfR G L.2.2.2 lf S) ∧ (∃ g, G L.2.2.1 = some (eI 12 g)) ∧ (∀ r, r < 3 → G (L.2.2.2 r) = some (eI 12 (S.2.1 r))) ∧ (∀ r, r < 3 → L.2.2.2 r ≠ L.2.2.1) ∧ (∀ r r', r < 3 → r' < 3 → L.2.2.2 r = L.2.2.2 r' → r = r')
def clsW (L : tL) (q : Nat) : Prop := q = L.1 ∨ q = L.2.1 ∨ q = L.2.2.1 ∨ q = L.2.2.2 0 ∨ q = L.2.2.2 1 ∨ q = L.2.2.2 2
theorem clsW_va {L : tL} {r : Nat} (h : r < 3) : clsW L (L.2.2.2 r) := by
  rcases (show r = 0 ∨ r = 1 ∨ r = 2 by omega) with rfl | rfl | rfl
  · exact Or.inr (Or.inr (Or.inr (Or.inl rfl)))
  · exact Or.inr (Or.inr (Or.inr (Or.inr (Or.inl rfl))))
  · exact Or.inr (Or.inr (Or.inr (Or.inr (Or.inr rfl))))
/-- a cell of another kind is no cell of the class that changes -/
theorem TwR_obj {G : tG} {L : tL} {S : tS} (h : TwR G L S) {q ci : Nat} {fs : List Value} (hq : G q = some (.inr (ci, fs))) (hci : ci ≠ 3) : ¬ clsW L q := by
  obtain ⟨h1, ⟨lf, h2, h3, h4⟩, ⟨g, h5⟩, h6, -, -⟩ := h
  rintro (e | e | e | e | e | e) <;> subst e
  · rw [h2] at hq; cases hq; exact hci rfl
  · rw [h3] at hq; cases hq
  · rw [h5] at hq; cases hq
  · rw [h6 0 (by omega)] at hq; cases hq
  · rw [h6 1 (by omega)] at hq; cases hq
  · rw [h6 2 (by omega)] at hq; cases hq
/-- a cell that isn't the class's is written or made -/
theorem TwR_fr {G G' : tG} {L : tL} {S : tS} {P : Nat → Prop} (h : TwR G L S) (hf : fr P G G') (hp : ∀ q, clsW L q → ¬ P q) (ho : ∀ q fs, P q → G q ≠ some (.inr (2, fs))) : TwR G' L S := by
  obtain ⟨h1, ⟨lf, h2, h3, h4⟩, ⟨g, h5⟩, h6, h7, h8⟩ := h
  refine ⟨h1, ⟨lf, hf _ _ h2 (hp _ (Or.inl rfl)), hf _ _ h3 (hp _ (Or.inr (Or.inl rfl))), fun j hj => ?_⟩, ⟨g, hf _ _ h5 (hp _ (Or.inr (Or.inr (Or.inl rfl))))⟩, fun r hr => hf _ _ (h6 r hr) (hp _ (clsW_va hr)), h7, h8⟩
  rcases h4 j hj with c | ⟨o, r, b, n, c1, c2, c3⟩
  · exact Or.inl c
  · exact Or.inr ⟨o, r, b, n, c1, c2, hf _ _ c3 (fun hP => ho o _ hP c3)⟩
/-- a row's value is written -/
theorem TwR_put {G : tG} {L : tL} {S : tS} (h : TwR G L S) {r : Nat} (hr : r < 3) (k : Nat) {x : Int32} (hx : okV x) : TwR (tg_up G (L.2.2.2 r) (eI 12 (upd (S.2.1 r) k x))) L (S_put S r k x) := by
  obtain ⟨h1, ⟨lf, h2, h3, h4⟩, ⟨g, h5⟩, h6, h7, h8⟩ := h
  have hv := h6 r hr
  refine ⟨S_put_ok h1 r k hx, ⟨lf, tg_keep h2 (ne_OI h2 hv), tg_keep h3 (ne_of_G h3 hv (fun e => by cases e)), fun j hj => ?_⟩, ⟨g, tg_keep h5 (fun e => h7 r hr e.symm)⟩, fun r' hr' => ?_, h7, h8⟩
  · rcases h4 j hj with c | ⟨o, r', b, n, c1, c2, c3⟩
    · exact Or.inl c
    · exact Or.inr ⟨o, r', b, n, c1, c2, tg_keep c3 (ne_OI c3 hv)⟩
  · by_cases c : r' = r
    · subst c
      rw [tg_s]
      show some _ = some (eI 12 (if r' = r' then upd (S.2.1 r') k x else S.2.1 r'))
      rw [if_pos rfl]
    · rw [tg_n _ _ (fun e => c (h8 r' r hr' hr e)), h6 r' hr']
      show some _ = some (eI 12 (if r' = r then upd (S.2.1 r) k x else S.2.1 r'))
      rw [if_neg c]
/-- the class's own fields: knocks, refusals -/
def S_kn (S : tS) (k : Int32) : tS := (S.1, S.2.1, k, S.2.2.2)
def S_rf (S : tS) (k : Int32) : tS := (S.1, S.2.1, S.2.2.1, k)
theorem TwR_own {G : tG} {L : tL} {S : tS} (h : TwR G L S) (k rf : Int32) : TwR (tg_up G L.1 (oTw L.2.1 L.2.2.1 k rf)) L (S.1, S.2.1, k, rf) := by
  obtain ⟨h1, ⟨lf, h2, h3, h4⟩, ⟨g, h5⟩, h6, h7, h8⟩ := h
  refine ⟨h1, ⟨lf, tg_s _ _ _, tg_keep h3 (fun e => ne_OI h2 h3 e.symm), fun j hj => ?_⟩, ⟨g, tg_keep h5 (fun e => ne_OI h2 h5 e.symm)⟩, fun r hr => tg_keep (h6 r hr) (fun e => ne_OI h2 (h6 r hr) e.symm), h7, h8⟩
  rcases h4 j hj with c | ⟨o, r, b, n, c1, c2, c3⟩
  · exact Or.inl c
  · exact Or.inr ⟨o, r, b, n, c1, c2, tg_keep c3 (ne_of_G c3 h2 (fun e => by cases e))⟩
/-! a list by its number -/
def S_at (S : tS) (v : Int32) : Option (Nat × Nat × Nat) := if 0 ≤ v.toInt ∧ v.toInt < 7 then S.1 v.toInt.toNat else none
theorem i32_lt {x y : Int32} : x < y ↔ x.toInt < y.toInt := Int32.lt_iff_toInt_lt
theorem i32_le {x y : Int32} : x ≤ y ↔ x.toInt ≤ y.toInt := Int32.le_iff_toInt_le
theorem S_at_nI (S : tS) {j : Nat} (h : j < 7) : S_at S (nI j) = S.1 j := by
  unfold S_at
  rw [nI_toInt (by omega), if_pos ⟨by omega, by omega⟩]
  rfl
section TWA
variable {K : tK} {G : tG} {L : tL} {S : tS} {v : Int32}
/-- what the number finds: nothing, or a list's object -/
theorem c_listOrNull {post : Option Nat → tG → Prop} (h : TwR G L S) (h0 : S_at S v = none → post none G) (h1 : ∀ o r b n, S_at S v = some (r, b, n) → G o = some (oRL (nI r) (L.2.2.2 r) b n) → r < 3 → b + n ≤ 12 → post (some o) G) : w_X1_listOrNull K post (some L.1) v G := by
  obtain ⟨k1, ⟨lf, k2, k3, k4⟩, -⟩ := h
  unfold w_X1_listOrNull
  refine ⟨fun c => h0 ?_, fun c => ?_⟩
  · unfold S_at
    rw [i32_lt] at c
    rw [if_neg]
    intro q
    have : (0 : Int32).toInt = 0 := rfl
    omega
  · obtain ⟨j, hj, rfl⟩ := nI_of c
    refine gfR_i _ k2 rfl (lenA_i k3 ?_)
    refine ⟨fun c2 => h0 ?_, fun c2 => ?_⟩
    · have c2 : nI 7 ≤ nI j := c2
      rw [nI_leI (by omega) hj] at c2
      unfold S_at
      rw [nI_toInt hj, if_neg (by omega)]
    · have c2 : ¬ nI 7 ≤ nI j := c2
      rw [nI_leI (by omega) hj] at c2
      have hj7 : j < 7 := by omega
      refine gfR_i _ k2 rfl (alR_i k3 rfl hj7 (by omega) ?_)
      rw [S_at_nI S hj7] at h0 h1
      rcases k4 j hj7 with ⟨c3, c4⟩ | ⟨o, r, b, n, c3, c4, c5⟩
      · rw [c3]; exact h0 c4
      · rw [c3]
        have := S_12 k1 hj7 c4
        exact h1 o r b n c4 c5 this.1 this.2
theorem c_rcv {P : Prop} (h : TwR G L S) (hp : P) : rcv G (some L.1) 3 P := by
  obtain ⟨k1, ⟨lf, k2, k3, k4⟩, -⟩ := h
  exact rcv_i k2 hp
theorem c_listAt {post : Option Nat → tG → Prop} {postX : String → tG → Prop} (h : TwR G L S) (h0 : S_at S v = none → postX "java/lang/IndexOutOfBoundsException" G) (h1 : ∀ o r b n, S_at S v = some (r, b, n) → G o = some (oRL (nI r) (L.2.2.2 r) b n) → r < 3 → b + n ≤ 12 → post (some o) G) : w_X1_listAt K post postX (some L.1) v G := by
  refine c_rcv h (c_listOrNull h (fun c => ?_) (fun o r b n c1 c2 c3 c4 => ?_))
  · exact ⟨fun q => absurd rfl q, fun _ => h0 c⟩
  · exact ⟨fun _ => h1 o r b n c1 c2 c3 c4, fun q => by cases q⟩
/-- a twin by its row's number -/
def S_tw (S : tS) (v : Int32) : Option (Nat × Nat × Nat) := if 0 ≤ v.toInt ∧ v.toInt < 3 then S.1 v.toInt.toNat else none
theorem c_twinAt {post : Option Nat → tG → Prop} {postX : String → tG → Prop} (h : TwR G L S) (h0 : S_tw S v = none → postX "java/lang/IndexOutOfBoundsException" G) (h1 : ∀ o r n, v = nI r → S.1 r = some (r, 0, n) → G o = some (oRL (nI r) (L.2.2.2 r) 0 n) → r < 3 → n ≤ 12 → post (some o) G) : w_X1_twinAt K post postX (some L.1) v G := by
  have k1 := h.1
  refine ⟨fun c => ?_, fun c => c_rcv h (c_listOrNull h (fun c2 => ?_) (fun o r b n c1 c2 c3 c4 => ?_))⟩
  · refine ⟨fun q => absurd rfl q, fun _ => h0 ?_⟩
    rw [i32_le] at c
    unfold S_tw
    rw [if_neg]
    intro q
    have : (3 : Int32).toInt = 3 := rfl
    omega
  · refine ⟨fun q => absurd rfl q, fun _ => h0 ?_⟩
    unfold S_tw
    unfold S_at at c2
    by_cases q : 0 ≤ v.toInt ∧ v.toInt < 3
    · rw [if_pos ⟨q.1, by omega⟩] at c2
      rw [if_pos q]; exact c2
    · rw [if_neg q]
  · refine ⟨fun _ => ?_, fun q => by cases q⟩
    unfold S_at at c1
    by_cases q : 0 ≤ v.toInt ∧ v.toInt < 7
    · rw [if_pos q] at c1
      rw [i32_le] at c
      have h3 : (3 : Int32).toInt = 3 := rfl
      have hr : v.toInt.toNat < 3 := by omega
      obtain ⟨n0, e1, e2⟩ := k1.1 _ hr
      rw [c1] at e1
      cases e1
      have hv : v = nI v.toInt.toNat := by
        obtain ⟨j, hj, e⟩ := nI_of (x := v) (by rw [i32_lt]; have : (0 : Int32).toInt = 0 := rfl; omega)
        rw [e, nI_toInt hj]; rfl
      exact h1 o _ n hv c1 c2 hr (by omega)
    · rw [if_neg q] at c1; cases c1
end TWA
/-! the checks -/
section CHK
variable {K : tK} {G : tG} {post : tG → Prop} {postX : String → tG → Prop}
abbrev inR (x a b : Int32) : Prop := ¬ x < a ∧ x ≤ b
theorem c_checkNumber {x a b : Int32} (h1 : inR x a b → post G) (h2 : ¬ inR x a b → postX "java/lang/IllegalArgumentException" G) : w_X1_checkNumber K post postX x a b G :=
  ⟨fun c => h2 (fun q => q.1 c), fun c => ⟨fun c2 => h1 ⟨c, c2⟩, fun c2 => h2 (fun q => c2 q.2)⟩⟩
theorem c_checkValue {x : Int32} (h1 : okV x → post G) (h2 : ¬ okV x → postX "java/lang/IllegalArgumentException" G) : w_X1_checkValue K post postX x G :=
  ⟨fun c => h1 (Or.inl c), fun c => c_checkNumber (fun q => h1 (Or.inr q)) (fun q => h2 (fun z => z.elim c q))⟩
theorem c_checkRule {x y : Int32} (h1 : inR x 0 3 → inR y (-99) 99 → post G) (h2 : ¬ (inR x 0 3 ∧ inR y (-99) 99) → postX "java/lang/IllegalArgumentException" G) : w_X1_checkRule K post postX x y G :=
  c_checkNumber (fun q => c_checkNumber (fun q2 => h1 q q2) (fun q2 => h2 (fun z => q2 z.2))) (fun q => h2 (fun z => q z.1))
theorem c_checkPart {x : Int32} (h1 : ∀ j, 3 ≤ j → j < 7 → x = nI j → post G) (h2 : ¬ (3 ≤ x.toInt ∧ x.toInt < 7) → postX "java/lang/IndexOutOfBoundsException" G) : w_X1_checkPart K post postX x G := by
  have e3 : (3 : Int32).toInt = 3 := rfl
  have e7 : (7 : Int32).toInt = 7 := rfl
  have e0 : (0 : Int32).toInt = 0 := rfl
  refine ⟨fun c => h2 ?_, fun c => ⟨fun c2 => ?_, fun c2 => h2 ?_⟩⟩
  · rw [i32_lt] at c; omega
  · rw [i32_lt] at c c2
    obtain ⟨j, hj, rfl⟩ := nI_of (x := x) (by rw [i32_lt]; omega)
    rw [nI_toInt hj] at c c2
    exact h1 j (by omega) (by omega) rfl
  · rw [i32_lt] at c2; omega
/-- a place of a list of n -/
theorem c_checkPlace {r v : Int32} {o a b n : Nat} (ho : G o = some (oRL r a b n)) (hn : n ≤ 12) (h1 : ∀ i, i < n → v = nI i → post G) (h2 : ¬ (0 ≤ v.toInt ∧ v.toInt < n) → postX "java/lang/IndexOutOfBoundsException" G) : w_X1_checkPlace K post postX (some o) v G := by
  have e0 : (0 : Int32).toInt = 0 := rfl
  refine rcv_i ho ?_
  by_cases c : v < 0
  · refine l_isPlaceN c ⟨fun q => absurd rfl q, fun _ => h2 ?_⟩
    rw [i32_lt] at c; omega
  · obtain ⟨i, hi, rfl⟩ := nI_of c
    refine l_isPlace ho hi (by omega) ?_
    by_cases c2 : i < n
    · rw [if_pos c2]
      exact ⟨fun _ => h1 i c2 rfl, fun q => absurd q (by decide)⟩
    · rw [if_neg c2]
      refine ⟨fun q => absurd rfl q, fun _ => h2 ?_⟩
      rw [nI_toInt hi]; omega
end CHK
end
section
/-! what a call does: 0 and its answer, or 1 / 2 for the two refusals; the rows behind it -/
abbrev tA : Type := Nat × Int32 × tS
def tRes (L : tL) (G : tG) (post : Int32 → tG → Prop) (postX : String → tG → Prop) (a : tA) : Prop := ∀ G' : tG, fr (clsW L) G G' → TwR G' L a.2.2 → (a.1 = 0 → post a.2.1 G') ∧ (a.1 = 1 → postX "java/lang/IndexOutOfBoundsException" G') ∧ (a.1 = 2 → postX "java/lang/IllegalArgumentException" G')
theorem nI_nat {i : Nat} (h : i < 2 ^ 31) : (nI i).toInt.toNat = i := by rw [nI_toInt h]; rfl
theorem nI_inn {i n : Nat} (h : i < n) (hn : n < 2 ^ 31) : 0 ≤ (nI i).toInt ∧ (nI i).toInt < n := by rw [nI_toInt (by omega)]; omega
def sp_at (S : tS) (q : Option (Nat × Nat × Nat)) (w : Int32) (f : Nat → Nat → Nat → Nat → tA) : tA := match q with
  | none => (1, 0, S)
  | some (r, b, n) => if 0 ≤ w.toInt ∧ w.toInt < n then f r b n w.toInt.toNat else (1, 0, S)
def sp_li (S : tS) (q : Option (Nat × Nat × Nat)) (f : Nat → Nat → Nat → tA) : tA := match q with
  | none => (1, 0, S)
  | some (r, b, n) => f r b n
def S_ref (S : tS) : tS := (S.1, S.2.1, S.2.2.1, S.2.2.2 + 1)
section CLA
variable {K : tK} {G : tG} {L : tL} {S : tS} {post : Int32 → tG → Prop} {postX : String → tG → Prop}
theorem c_refuseIf {b : Int32} (h : TwR G L S) (h1 : b ≠ 0 → ∀ G', fr (clsW L) G G' → TwR G' L (S_ref S) → post (-9) G') (h0 : b = 0 → post 0 G) : w_X1_refuseIf K post (some L.1) b G := by
  refine ⟨fun c => ?_, fun c => h0 c⟩
  obtain ⟨lf, k2, k3, k4⟩ := h.2.1
  refine gfI_i k2 rfl (pfV_i k2 (Nat.le_of_ble_eq_true rfl) ?_)
  exact h1 c _ (fr_up _ (Or.inl rfl)) (TwR_own h _ _)
theorem c_knock {pk : Int32 → tG → Prop} (h : TwR G L S) (h1 : ∀ G', fr (clsW L) G G' → TwR G' L (S.1, S.2.1, S.2.2.1 + 1, S.2.2.2) → pk (S.2.2.1 + 1) G') : w_X1_knock K pk (some L.1) G := by
  obtain ⟨lf, k2, k3, k4⟩ := h.2.1
  refine gfI_i k2 rfl (pfV_i k2 (Nat.le_of_ble_eq_true rfl) (gfI_i (tg_s _ _ _) rfl ?_))
  exact h1 _ (fr_up _ (Or.inl rfl)) (TwR_own h _ _)
/-- a place of a list, and what stands there -/
theorem c_get {v w : Int32} (h : TwR G L S) (hp : tRes L G post postX (sp_at S (S_at S v) w fun r b n i => (0, S.2.1 r (b + i), S))) : w_X1_get K post postX (some L.1) v w G := by
  refine c_rcv h (c_listAt h (fun c => ?_) (fun o r b n c1 c2 c3 c4 => ?_))
  · rw [c] at hp; exact (hp G (fr_rf _ _) h).2.1 rfl
  · rw [c1] at hp
    refine c_checkPlace c2 (by omega) (fun i hi e => ?_) (fun c => ?_)
    · subst e
      simp only [sp_at, if_pos (nI_inn hi (show n < 2 ^ 31 by omega)), nI_nat (show i < 2 ^ 31 by omega)] at hp
      exact rcv_i c2 (l_read c2 (h.2.2.2.1 r c3) rfl (by omega) (by omega) ((hp G (fr_rf _ _) h).1 rfl))
    · simp only [sp_at, if_neg c] at hp
      exact (hp G (fr_rf _ _) h).2.1 rfl
theorem c_at {v w : Int32} (h : TwR G L S) (hp : tRes L G post postX (sp_at S (S_tw S v) w fun r b n i => (0, S.2.1 r (b + i), S))) : w_X1_at K post postX (some L.1) v w G := by
  refine c_rcv h (c_twinAt h (fun c => ?_) (fun o r n e1 c1 c2 c3 c4 => ?_))
  · rw [c] at hp; exact (hp G (fr_rf _ _) h).2.1 rfl
  · have e2 : S_tw S v = some (r, 0, n) := by
      rw [e1]; unfold S_tw
      rw [nI_toInt (by omega), if_pos (by omega)]; exact c1
    rw [e2] at hp
    refine c_checkPlace c2 (by omega) (fun i hi e => ?_) (fun c => ?_)
    · subst e
      simp only [sp_at, if_pos (nI_inn hi (show n < 2 ^ 31 by omega)), nI_nat (show i < 2 ^ 31 by omega)] at hp
      exact rcv_i c2 (l_read c2 (h.2.2.2.1 r c3) rfl (by omega) (by omega) ((hp G (fr_rf _ _) h).1 rfl))
    · simp only [sp_at, if_neg c] at hp
      exact (hp G (fr_rf _ _) h).2.1 rfl
/-- one value is written through a list -/
theorem t_write {pw : Int32 → tG → Prop} {o r b n i : Nat} {x : Int32} {v : Int32} (h : TwR G L S) (ho : G o = some (oRL (nI r) (L.2.2.2 r) b n)) (hr : r < 3) (hn : b + n ≤ 12) (hv : v = nI i) (hi : i < n) (hx : okV x) (hp : ∀ G', fr (clsW L) G G' → TwR G' L (S_put S r (b + i) x) → G' o = some (oRL (nI r) (L.2.2.2 r) b n) → pw (S.2.1 r (b + i)) G') : w_X0_write K pw (some o) v x G := by
  have hv9 := h.2.2.2.1 r hr
  exact l_write ho hv9 hv (by omega) (by omega) (hp _ (fr_up _ (clsW_va hr)) (TwR_put h hr _ hx) (tg_keep ho (ne_OI ho hv9)))

theorem c_set {v w x : Int32} (h : TwR G L S) (hp : tRes L G post postX (sp_at S (S_at S v) w fun r b n i => if okV x then (0, S.2.1 r (b + i), S_put S r (b + i) x) else (2, 0, S))) : w_X1_set K post postX (some L.1) v w x G := by
  refine c_rcv h (c_listAt h (fun c => ?_) (fun o r b n c1 c2 c3 c4 => ?_))
  · rw [c] at hp; exact (hp G (fr_rf _ _) h).2.1 rfl
  · rw [c1] at hp
    refine c_checkPlace c2 (by omega) (fun i hi e => ?_) (fun c => ?_)
    · subst e
      simp only [sp_at, if_pos (nI_inn hi (show n < 2 ^ 31 by omega)), nI_nat (show i < 2 ^ 31 by omega)] at hp
      refine c_checkValue (fun hx => ?_) (fun hx => ?_)
      · rw [if_pos hx] at hp
        exact rcv_i c2 (t_write h c2 c3 c4 rfl hi hx (fun G' q1 q2 _ => (hp G' q1 q2).1 rfl))
      · rw [if_neg hx] at hp
        exact (hp G (fr_rf _ _) h).2.2 rfl
    · simp only [sp_at, if_neg c] at hp
      exact (hp G (fr_rf _ _) h).2.1 rfl
end CLA
end
section
/-! searching -/
def fpF (f : Nat → Int32) (x : Int32) : Nat → Nat → Int32
  | 0, _ => -1
  | k + 1, i => if f i = x then nI i else fpF f x k (i + 1)
def lpF (f : Nat → Int32) (x : Int32) : Nat → Int32
  | 0 => -1
  | k + 1 => if f k = x then nI k else lpF f x k
def ofF (f : Nat → Int32) (x : Int32) : Nat → Int32
  | 0 => 0
  | k + 1 => ofF f x k + (if f k = x then 1 else 0)
/-- is it anywhere among the first n? -/
def hasF (f : Nat → Int32) (x : Int32) (n : Nat) : Bool := (List.range n).any fun i => decide (f i = x)
theorem fpF_ne (f : Nat → Int32) (x : Int32) : ∀ k i, i + k < 2 ^ 31 → (fpF f x k i = -1 ↔ ∀ j, i ≤ j → j < i + k → f j ≠ x)
  | 0, i, _ => ⟨fun _ j h1 h2 => absurd h2 (by omega), fun _ => rfl⟩
  | k + 1, i, h => by
    show (if f i = x then nI i else fpF f x k (i + 1)) = -1 ↔ _
    by_cases c : f i = x
    · rw [if_pos c]
      refine ⟨fun q => ?_, fun q => absurd c (q i (by omega) (by omega))⟩
      exact absurd (show nI i < 0 by rw [q]; decide) (nI_pos (by omega))
    · rw [if_neg c, fpF_ne f x k (i + 1) (by omega)]
      refine ⟨fun q j h1 h2 => ?_, fun q j h1 h2 => q j (by omega) (by omega)⟩
      by_cases e : j = i
      · rw [e]; exact c
      · exact q j (by omega) (by omega)
section SRC
variable {K : tK} {G : tG} {o v b n N : Nat} {r : Int32} {f : Nat → Int32} {x : Int32}
theorem c_firstPlace {pk : Int32 → tG → Prop} (ho : G o = some (oRL r v b n)) (hv : G v = some (eI N f)) (hN : N < 2 ^ 31) (hb : b + n ≤ N) (h : pk (fpF (fun i => f (b + i)) x n 0) G) : w_X1_firstPlace K pk (some o) x G := by
  have main : ∀ k i, i + k = n → pk (fpF (fun i => f (b + i)) x k i) G → w_X1_firstPlace_2 K pk (k + 1) (some o) x (nI i) G := by
    intro k
    induction k with
    | zero =>
      intro i hi hp
      show w_X1_firstPlace_2_b K pk (w_X1_firstPlace_2 K pk 0) (some o) x (nI i) G
      exact gfI_i ho rfl ⟨fun _ => hp, fun c => absurd (nI_le (by omega) (by omega)) c⟩
    | succ k ih =>
      intro i hi hp
      show w_X1_firstPlace_2_b K pk (w_X1_firstPlace_2 K pk (k + 1)) (some o) x (nI i) G
      refine gfI_i ho rfl ⟨fun c => absurd c (nI_ge (by omega) (by omega)), fun _ => rcv_i ho (l_read ho hv rfl (by omega) hN ⟨fun c => ?_, fun c => ?_⟩)⟩
      · simp only [fpF, if_neg c] at hp
        rw [nI_1]
        exact ih (i + 1) (by omega) hp
      · simp only [fpF, if_pos c] at hp
        exact hp
  exact ⟨n + 1, main n 0 (by omega) h⟩
theorem c_lastPlace {pk : Int32 → tG → Prop} (ho : G o = some (oRL r v b n)) (hv : G v = some (eI N f)) (hN : N < 2 ^ 31) (hb : b + n ≤ N) (h : pk (lpF (fun i => f (b + i)) x n) G) : w_X1_lastPlace K pk (some o) x G := by
  have main : ∀ k, k ≤ n → pk (lpF (fun i => f (b + i)) x k) G → w_X1_lastPlace_7 K pk (k + 1) (some o) x (nI k - 1) G := by
    intro k
    induction k with
    | zero =>
      intro hi hp
      show w_X1_lastPlace_7_b K pk (w_X1_lastPlace_7 K pk 0) (some o) x (nI 0 - 1) G
      exact ⟨fun _ => hp, fun c => absurd (by decide) c⟩
    | succ k ih =>
      intro hi hp
      show w_X1_lastPlace_7_b K pk (w_X1_lastPlace_7 K pk (k + 1)) (some o) x (nI (k + 1) - 1) G
      rw [nI_pred]
      refine ⟨fun c => absurd c (nI_pos (by omega)), fun _ => rcv_i ho (l_read ho hv rfl (by omega) hN ⟨fun c => ?_, fun c => ?_⟩)⟩
      · simp only [lpF, if_neg c] at hp
        have e : nI k + (-1 : Int32) = nI k - 1 := by rw [Int32.sub_eq_add_neg]
        rw [e]
        exact ih (by omega) hp
      · simp only [lpF, if_pos c] at hp
        exact hp
  exact gfI_i ho rfl ⟨n + 1, main n (by omega) h⟩
theorem c_stands {pk : Int32 → tG → Prop} (ho : G o = some (oRL r v b n)) (hv : G v = some (eI N f)) (hN : N < 2 ^ 31) (hb : b + n ≤ N) (h : pk (if fpF (fun i => f (b + i)) x n 0 = -1 then 0 else 1) G) : w_X1_stands K pk (some o) x G := by
  refine c_firstPlace ho hv hN hb ⟨fun c => ⟨by decide, ?_⟩, fun c => ⟨by decide, ?_⟩⟩
  · rw [if_pos c] at h; exact h
  · rw [if_neg c] at h; exact h
end SRC
section CLB
variable {K : tK} {G : tG} {L : tL} {S : tS} {post : Int32 → tG → Prop} {postX : String → tG → Prop}
abbrev S_v (S : tS) (r b : Nat) : Nat → Int32 := fun i => S.2.1 r (b + i)
theorem c_length {v : Int32} (h : TwR G L S) (hp : tRes L G post postX (sp_li S (S_at S v) fun r b n => (0, nI n, S))) : w_X1_length K post postX (some L.1) v G := by
  refine c_rcv h (c_listAt h (fun c => ?_) (fun o r b n c1 c2 c3 c4 => ?_))
  · rw [c] at hp; exact (hp G (fr_rf _ _) h).2.1 rfl
  · rw [c1] at hp; exact gfI_i c2 rfl ((hp G (fr_rf _ _) h).1 rfl)
theorem c_isEmpty {v : Int32} (h : TwR G L S) (hp : tRes L G post postX (sp_li S (S_at S v) fun r b n => (0, if n = 0 then 1 else 0, S))) : w_X1_isEmpty K post postX (some L.1) v G := by
  refine c_rcv h (c_listAt h (fun c => ?_) (fun o r b n c1 c2 c3 c4 => ?_))
  · rw [c] at hp; exact (hp G (fr_rf _ _) h).2.1 rfl
  · rw [c1] at hp
    refine gfI_i c2 rfl ⟨fun c => ⟨by decide, ?_⟩, fun c => ⟨by decide, ?_⟩⟩
    · have hn : ¬ n = 0 := fun e => c (by rw [e]; rfl)
      simp only [sp_li, if_neg hn] at hp
      exact (hp G (fr_rf _ _) h).1 rfl
    · have hn : n = 0 := Decidable.byContradiction fun e => nI_ne0 (by omega) (by omega) c
      simp only [sp_li, if_pos hn] at hp
      exact (hp G (fr_rf _ _) h).1 rfl
theorem c_indexOf {v x : Int32} (h : TwR G L S) (hp : tRes L G post postX (sp_li S (S_at S v) fun r b n => if okV x then (0, fpF (S_v S r b) x n 0, S) else (2, 0, S))) : w_X1_indexOf K post postX (some L.1) v x G := by
  refine c_rcv h (c_listAt h (fun c => ?_) (fun o r b n c1 c2 c3 c4 => ?_))
  · rw [c] at hp; exact (hp G (fr_rf _ _) h).2.1 rfl
  · rw [c1] at hp
    refine c_checkValue (fun hx => ?_) (fun hx => ?_)
    · simp only [sp_li, if_pos hx] at hp
      exact c_firstPlace c2 (h.2.2.2.1 r c3) (by decide) c4 ((hp G (fr_rf _ _) h).1 rfl)
    · simp only [sp_li, if_neg hx] at hp
      exact (hp G (fr_rf _ _) h).2.2 rfl
theorem c_lastIndexOf {v x : Int32} (h : TwR G L S) (hp : tRes L G post postX (sp_li S (S_at S v) fun r b n => if okV x then (0, lpF (S_v S r b) x n, S) else (2, 0, S))) : w_X1_lastIndexOf K post postX (some L.1) v x G := by
  refine c_rcv h (c_listAt h (fun c => ?_) (fun o r b n c1 c2 c3 c4 => ?_))
  · rw [c] at hp; exact (hp G (fr_rf _ _) h).2.1 rfl
  · rw [c1] at hp
    refine c_checkValue (fun hx => ?_) (fun hx => ?_)
    · simp only [sp_li, if_pos hx] at hp
      exact c_lastPlace c2 (h.2.2.2.1 r c3) (by decide) c4 ((hp G (fr_rf _ _) h).1 rfl)
    · simp only [sp_li, if_neg hx] at hp
      exact (hp G (fr_rf _ _) h).2.2 rfl
theorem c_has {v x : Int32} (h : TwR G L S) (hp : tRes L G post postX (sp_li S (S_at S v) fun r b n => if okV x then (0, if fpF (S_v S r b) x n 0 = -1 then 0 else 1, S) else (2, 0, S))) : w_X1_has K post postX (some L.1) v x G := by
  refine c_rcv h (c_listAt h (fun c => ?_) (fun o r b n c1 c2 c3 c4 => ?_))
  · rw [c] at hp; exact (hp G (fr_rf _ _) h).2.1 rfl
  · rw [c1] at hp
    refine c_checkValue (fun hx => ?_) (fun hx => ?_)
    · simp only [sp_li, if_pos hx] at hp
      refine c_stands c2 (h.2.2.2.1 r c3) (by decide) c4 ⟨?_, (hp G (fr_rf _ _) h).1 rfl⟩
      split <;> decide
    · simp only [sp_li, if_neg hx] at hp
      exact (hp G (fr_rf _ _) h).2.2 rfl
/-! what is refused -/
theorem c_add {v x : Int32} (h : TwR G L S) (hp : tRes L G post postX (sp_li S (S_at S v) fun _ _ _ => if okV x then (0, -9, S_ref S) else (2, 0, S))) : w_X1_add K post postX (some L.1) v x G := by
  refine c_rcv h (c_listAt h (fun c => ?_) (fun o r b n c1 c2 c3 c4 => ?_))
  · rw [c] at hp; exact (hp G (fr_rf _ _) h).2.1 rfl
  · rw [c1] at hp
    refine c_checkValue (fun hx => ?_) (fun hx => ?_)
    · simp only [sp_li, if_pos hx] at hp
      exact c_rcv h (c_refuseIf h (fun _ G' q1 q2 => (hp G' q1 q2).1 rfl) (fun q => absurd q (by decide)))
    · simp only [sp_li, if_neg hx] at hp
      exact (hp G (fr_rf _ _) h).2.2 rfl
theorem c_addAt {v w x : Int32} (h : TwR G L S) (hp : tRes L G post postX (sp_li S (S_at S v) fun _ _ n => if inR w 0 (nI n) ∧ okV x then (0, -9, S_ref S) else (2, 0, S))) : w_X1_addAt K post postX (some L.1) v w x G := by
  refine c_rcv h (c_listAt h (fun c => ?_) (fun o r b n c1 c2 c3 c4 => ?_))
  · rw [c] at hp; exact (hp G (fr_rf _ _) h).2.1 rfl
  · rw [c1] at hp
    refine gfI_i c2 rfl (c_checkNumber (fun hw => c_checkValue (fun hx => ?_) (fun hx => ?_)) (fun hw => ?_))
    · simp only [sp_li, if_pos (And.intro hw hx)] at hp
      exact c_rcv h (c_refuseIf h (fun _ G' q1 q2 => (hp G' q1 q2).1 rfl) (fun q => absurd q (by decide)))
    · simp only [sp_li, if_neg (fun q : inR w 0 (nI n) ∧ okV x => hx q.2)] at hp
      exact (hp G (fr_rf _ _) h).2.2 rfl
    · simp only [sp_li, if_neg (fun q : inR w 0 (nI n) ∧ okV x => hw q.1)] at hp
      exact (hp G (fr_rf _ _) h).2.2 rfl
theorem c_remove {v w : Int32} (h : TwR G L S) (hp : tRes L G post postX (sp_at S (S_at S v) w fun _ _ _ _ => (0, -9, S_ref S))) : w_X1_remove K post postX (some L.1) v w G := by
  refine c_rcv h (c_listAt h (fun c => ?_) (fun o r b n c1 c2 c3 c4 => ?_))
  · rw [c] at hp; exact (hp G (fr_rf _ _) h).2.1 rfl
  · rw [c1] at hp
    refine c_checkPlace c2 (by omega) (fun i hi e => ?_) (fun c => ?_)
    · subst e
      simp only [sp_at, if_pos (nI_inn hi (show n < 2 ^ 31 by omega))] at hp
      exact c_rcv h (c_refuseIf h (fun _ G' q1 q2 => (hp G' q1 q2).1 rfl) (fun q => absurd q (by decide)))
    · simp only [sp_at, if_neg c] at hp
      exact (hp G (fr_rf _ _) h).2.1 rfl
theorem c_walkChange {v w x : Int32} (h : TwR G L S) (hp : tRes L G post postX (sp_at S (S_at S v) w fun _ _ _ _ => if inR x 0 2 then (0, -9, S_ref S) else (2, 0, S))) : w_X1_walkChange K post postX (some L.1) v w x G := by
  refine c_rcv h (c_listAt h (fun c => ?_) (fun o r b n c1 c2 c3 c4 => ?_))
  · rw [c] at hp; exact (hp G (fr_rf _ _) h).2.1 rfl
  · rw [c1] at hp
    refine c_checkPlace c2 (by omega) (fun i hi e => ?_) (fun c => ?_)
    · subst e
      simp only [sp_at, if_pos (nI_inn hi (show n < 2 ^ 31 by omega))] at hp
      refine c_checkNumber (fun hx => ?_) (fun hx => ?_)
      · rw [if_pos hx] at hp
        exact c_rcv h (c_refuseIf h (fun _ G' q1 q2 => (hp G' q1 q2).1 rfl) (fun q => absurd q (by decide)))
      · rw [if_neg hx] at hp
        exact (hp G (fr_rf _ _) h).2.2 rfl
    · simp only [sp_at, if_neg c] at hp
      exact (hp G (fr_rf _ _) h).2.1 rfl
theorem c_clear {v : Int32} (h : TwR G L S) (hp : tRes L G post postX (sp_li S (S_at S v) fun _ _ n => if n = 0 then (0, 0, S) else (0, -9, S_ref S))) : w_X1_clear K post postX (some L.1) v G := by
  refine c_rcv h (c_listAt h (fun c => ?_) (fun o r b n c1 c2 c3 c4 => ?_))
  · rw [c] at hp; exact (hp G (fr_rf _ _) h).2.1 rfl
  · rw [c1] at hp
    refine gfI_i c2 rfl ⟨fun c => c_rcv h (c_refuseIf h (fun q => absurd rfl q) (fun _ => ?_)), fun c => c_rcv h (c_refuseIf h (fun _ G' q1 q2 => ?_) (fun q => absurd q (by decide)))⟩
    · have hn : n = 0 := Decidable.byContradiction fun e => nI_nle (by omega) (by omega) c
      simp only [sp_li, if_pos hn] at hp
      exact (hp G (fr_rf _ _) h).1 rfl
    · have hn : ¬ n = 0 := fun e => c (by rw [e]; decide)
      simp only [sp_li, if_neg hn] at hp
      exact (hp G' q1 q2).1 rfl
theorem c_removeValue {v x : Int32} (h : TwR G L S) (hp : tRes L G post postX (sp_li S (S_at S v) fun r b n => if okV x then (if fpF (S_v S r b) x n 0 = -1 then (0, 0, S) else (0, -9, S_ref S)) else (2, 0, S))) : w_X1_removeValue K post postX (some L.1) v x G := by
  refine c_rcv h (c_listAt h (fun c => ?_) (fun o r b n c1 c2 c3 c4 => ?_))
  · rw [c] at hp; exact (hp G (fr_rf _ _) h).2.1 rfl
  · rw [c1] at hp
    refine c_checkValue (fun hx => ?_) (fun hx => ?_)
    · simp only [sp_li, if_pos hx] at hp
      refine c_stands c2 (h.2.2.2.1 r c3) (by decide) c4 ?_
      by_cases c : fpF (S_v S r b) x n 0 = -1
      · rw [if_pos c] at hp
        rw [if_pos c]
        exact c_rcv h (c_refuseIf h (fun q => absurd rfl q) (fun _ => (hp G (fr_rf _ _) h).1 rfl))
      · rw [if_neg c] at hp
        rw [if_neg c]
        exact c_rcv h (c_refuseIf h (fun _ G' q1 q2 => (hp G' q1 q2).1 rfl) (fun q => absurd q (by decide)))
    · simp only [sp_li, if_neg hx] at hp
      exact (hp G (fr_rf _ _) h).2.2 rfl
end CLB
end
section
/-! values written one behind another -/
def S_map (S : tS) (r b : Nat) (f : Nat → Int32 → Int32) : Nat → tS
  | 0 => S
  | k + 1 => S_put (S_map S r b f k) r (b + k) (f k ((S_map S r b f k).2.1 r (b + k)))
def S_exch (S : tS) (r i j : Nat) : tS := S_put (S_put S r i (S.2.1 r j)) r j (S.2.1 r i)
section CLD
variable {K : tK} {G : tG} {L : tL} {S : tS} {post : Int32 → tG → Prop} {postX : String → tG → Prop}
theorem c_put {v w x : Int32} (h : TwR G L S) (hp : tRes L G post postX (sp_at S (S_tw S v) w fun r b n i => if okV x then (0, S.2.1 r (b + i), S_put S r (b + i) x) else (2, 0, S))) : w_X1_put K post postX (some L.1) v w x G := by
  refine c_rcv h (c_twinAt h (fun c => ?_) (fun o r n e1 c1 c2 c3 c4 => ?_))
  · rw [c] at hp; exact (hp G (fr_rf _ _) h).2.1 rfl
  · have e2 : S_tw S v = some (r, 0, n) := by
      rw [e1]; unfold S_tw
      rw [nI_toInt (by omega), if_pos (by omega)]; exact c1
    rw [e2] at hp
    refine c_checkPlace c2 (by omega) (fun i hi e => ?_) (fun c => ?_)
    · subst e
      simp only [sp_at, if_pos (nI_inn hi (show n < 2 ^ 31 by omega)), nI_nat (show i < 2 ^ 31 by omega)] at hp
      refine c_checkValue (fun hx => ?_) (fun hx => ?_)
      · rw [if_pos hx] at hp
        exact rcv_i c2 (t_write h c2 c3 (by omega) rfl hi hx (fun G' q1 q2 _ => (hp G' q1 q2).1 rfl))
      · rw [if_neg hx] at hp
        exact (hp G (fr_rf _ _) h).2.2 rfl
    · simp only [sp_at, if_neg c] at hp
      exact (hp G (fr_rf _ _) h).2.1 rfl
theorem c_writeAll {pv : tG → Prop} {o r b n : Nat} {x : Int32} (h : TwR G L S) (ho : G o = some (oRL (nI r) (L.2.2.2 r) b n)) (hr : r < 3) (hn : b + n ≤ 12) (hx : okV x) (hp : ∀ G', fr (clsW L) G G' → TwR G' L (S_map S r b (fun _ _ => x) n) → G' o = some (oRL (nI r) (L.2.2.2 r) b n) → pv G') : w_X1_writeAll K pv (some o) x G := by
  have main : ∀ k i G1, i + k = n → fr (clsW L) G G1 → TwR G1 L (S_map S r b (fun _ _ => x) i) → G1 o = some (oRL (nI r) (L.2.2.2 r) b n) → w_X1_writeAll_2 K pv (k + 1) (some o) x (nI i) G1 := by
    intro k
    induction k with
    | zero =>
      intro i G1 hi hf h1 ho1
      show w_X1_writeAll_2_b K pv (w_X1_writeAll_2 K pv 0) (some o) x (nI i) G1
      have e : i = n := by omega
      subst e
      exact gfI_i ho1 rfl ⟨fun _ => hp G1 hf h1 ho1, fun c => absurd (nI_le (by omega) (by omega)) c⟩
    | succ k ih =>
      intro i G1 hi hf h1 ho1
      show w_X1_writeAll_2_b K pv (w_X1_writeAll_2 K pv (k + 1)) (some o) x (nI i) G1
      refine gfI_i ho1 rfl ⟨fun c => absurd c (nI_ge (by omega) (by omega)), fun _ => rcv_i ho1 (t_write h1 ho1 hr hn rfl (by omega) hx (fun G' q1 q2 q3 => ?_))⟩
      rw [nI_1]
      exact ih (i + 1) G' (by omega) (fr_tr hf q1) q2 q3
  exact ⟨n + 1, main n 0 G (by omega) (fr_rf _ _) h ho⟩
theorem c_fill {v x : Int32} (h : TwR G L S) (hp : tRes L G post postX (sp_li S (S_at S v) fun r b n => if okV x then (0, nI n, S_map S r b (fun _ _ => x) n) else (2, 0, S))) : w_X1_fill K post postX (some L.1) v x G := by
  refine c_rcv h (c_listAt h (fun c => ?_) (fun o r b n c1 c2 c3 c4 => ?_))
  · rw [c] at hp; exact (hp G (fr_rf _ _) h).2.1 rfl
  · rw [c1] at hp
    refine c_checkValue (fun hx => ?_) (fun hx => ?_)
    · simp only [sp_li, if_pos hx] at hp
      exact c_writeAll h c2 c3 c4 hx (fun G' q1 q2 q3 => gfI_i q3 rfl ((hp G' q1 q2).1 rfl))
    · simp only [sp_li, if_neg hx] at hp
      exact (hp G (fr_rf _ _) h).2.2 rfl
/-- every old value becomes x; 1 if there was one -/
def roF (S : tS) (r b : Nat) (old x : Int32) : Nat → tS × Int32
  | 0 => (S, 0)
  | k + 1 => if (roF S r b old x k).1.2.1 r (b + k) = old then (S_put (roF S r b old x k).1 r (b + k) x, 1) else roF S r b old x k
theorem c_replaceOld {v y x : Int32} (h : TwR G L S) (hp : tRes L G post postX (sp_li S (S_at S v) fun r b n => if okV y ∧ okV x then (0, (roF S r b y x n).2, (roF S r b y x n).1) else (2, 0, S))) : w_X1_replaceOld K post postX (some L.1) v y x G := by
  refine c_rcv h (c_listAt h (fun c => ?_) (fun o r b n c1 c2 c3 c4 => ?_))
  · rw [c] at hp; exact (hp G (fr_rf _ _) h).2.1 rfl
  · rw [c1] at hp
    refine c_checkValue (fun hy => c_checkValue (fun hx => ?_) (fun hx => ?_)) (fun hy => ?_)
    · simp only [sp_li, if_pos (And.intro hy hx)] at hp
      have main : ∀ k i G1, i + k = n → fr (clsW L) G G1 → TwR G1 L (roF S r b y x i).1 → G1 o = some (oRL (nI r) (L.2.2.2 r) b n) → w_X1_replaceOld_21 K post postX (k + 1) y x (some o) (roF S r b y x i).2 (nI i) G1 := by
        intro k
        induction k with
        | zero =>
          intro i G1 hi hf h1 ho1
          show w_X1_replaceOld_21_b K post postX (w_X1_replaceOld_21 K post postX 0) y x (some o) (roF S r b y x i).2 (nI i) G1
          have e : i = n := by omega
          subst e
          exact gfI_i ho1 rfl ⟨fun _ => (hp G1 hf h1).1 rfl, fun c => absurd (nI_le (by omega) (by omega)) c⟩
        | succ k ih =>
          intro i G1 hi hf h1 ho1
          show w_X1_replaceOld_21_b K post postX (w_X1_replaceOld_21 K post postX (k + 1)) y x (some o) (roF S r b y x i).2 (nI i) G1
          refine gfI_i ho1 rfl ⟨fun c => absurd c (nI_ge (by omega) (by omega)), fun _ => rcv_i ho1 (l_read ho1 (h1.2.2.2.1 r c3) rfl (by omega) (by omega) ⟨fun c => ?_, fun c => ?_⟩)⟩
          · show w_X1_replaceOld_21 K post postX (k + 1) y x (some o) (roF S r b y x i).2 (nI i + 1) G1
            rw [nI_1]
            have e : roF S r b y x (i + 1) = roF S r b y x i := by show (if _ then _ else _) = _; rw [if_neg c]
            have := ih (i + 1) G1 (by omega) hf (by rw [e]; exact h1) ho1
            rw [e] at this
            exact this
          · refine rcv_i ho1 (t_write h1 ho1 c3 c4 rfl (by omega) hx (fun G' q1 q2 q3 => ?_))
            show w_X1_replaceOld_21 K post postX (k + 1) y x (some o) 1 (nI i + 1) G'
            rw [nI_1]
            have e : roF S r b y x (i + 1) = (S_put (roF S r b y x i).1 r (b + i) x, 1) := by show (if _ then _ else _) = _; rw [if_pos c]
            have := ih (i + 1) G' (by omega) (fr_tr hf q1) (by rw [e]; exact q2) q3
            rw [e] at this
            exact this
      exact ⟨n + 1, main n 0 G (by omega) (fr_rf _ _) h c2⟩
    · simp only [sp_li, if_neg (fun q : okV y ∧ okV x => hx q.2)] at hp
      exact (hp G (fr_rf _ _) h).2.2 rfl
    · simp only [sp_li, if_neg (fun q : okV y ∧ okV x => hy q.1)] at hp
      exact (hp G (fr_rf _ _) h).2.2 rfl
theorem t_okV (h : TwR G L S) {r i : Nat} (hr : r < 3) (hi : i < 12) : okV (S.2.1 r i) := h.1.2.2 r i hr hi
/-- two places of a list change their values -/
theorem c_exchange {pv : tG → Prop} {o r b n i j : Nat} {v w : Int32} (h : TwR G L S) (ho : G o = some (oRL (nI r) (L.2.2.2 r) b n)) (hr : r < 3) (hn : b + n ≤ 12) (hv : v = nI i) (hw : w = nI j) (hi : i < n) (hj : j < n) (hp : ∀ G', fr (clsW L) G G' → TwR G' L (S_exch S r (b + i) (b + j)) → G' o = some (oRL (nI r) (L.2.2.2 r) b n) → pv G') : w_X0_exchange K pv (some o) v w G := by
  refine rcv_i ho (l_read ho (h.2.2.2.1 r hr) hw (by omega) (by omega) ?_)
  refine rcv_i ho (t_write h ho hr hn hv hi (t_okV h hr (by omega)) (fun G1 q1 q2 q3 => ?_))
  refine rcv_i q3 (t_write q2 q3 hr hn hw hj (t_okV h hr (by omega)) (fun G2 p1 p2 p3 => ?_))
  exact hp G2 (fr_tr q1 p1) p2 p3
theorem c_swap {v w x : Int32} (h : TwR G L S) (hp : tRes L G post postX (sp_at S (S_at S v) w fun r b n i => if 0 ≤ x.toInt ∧ x.toInt < n then (0, if S.2.1 r (b + i) = S.2.1 r (b + x.toInt.toNat) then 0 else 1, S_exch S r (b + i) (b + x.toInt.toNat)) else (1, 0, S))) : w_X1_swap K post postX (some L.1) v w x G := by
  refine c_rcv h (c_listAt h (fun c => ?_) (fun o r b n c1 c2 c3 c4 => ?_))
  · rw [c] at hp; exact (hp G (fr_rf _ _) h).2.1 rfl
  · rw [c1] at hp
    refine c_checkPlace c2 (by omega) (fun i hi e => ?_) (fun c => ?_)
    · subst e
      simp only [sp_at, if_pos (nI_inn hi (show n < 2 ^ 31 by omega)), nI_nat (show i < 2 ^ 31 by omega)] at hp
      refine c_checkPlace c2 (by omega) (fun j hj e => ?_) (fun c => ?_)
      · subst e
        simp only [if_pos (nI_inn hj (show n < 2 ^ 31 by omega)), nI_nat (show j < 2 ^ 31 by omega)] at hp
        have hv := h.2.2.2.1 r c3
        refine rcv_i c2 (l_read c2 hv rfl (by omega) (by omega) (rcv_i c2 (l_read c2 hv rfl (by omega) (by omega) ⟨fun c => ?_, fun c => ?_⟩)))
        · rw [if_neg c] at hp
          exact rcv_i c2 (c_exchange h c2 c3 c4 rfl rfl hi hj (fun G' q1 q2 _ => (hp G' q1 q2).1 rfl))
        · rw [if_pos c] at hp
          exact rcv_i c2 (c_exchange h c2 c3 c4 rfl rfl hi hj (fun G' q1 q2 _ => (hp G' q1 q2).1 rfl))
      · rw [if_neg c] at hp
        exact (hp G (fr_rf _ _) h).2.1 rfl
    · simp only [sp_at, if_neg c] at hp
      exact (hp G (fr_rf _ _) h).2.1 rfl
end CLD
end
section
/-! turning a piece round, sorting -/
def tuF (r b : Nat) : Nat → Nat → Nat → tS → tS
  | 0, _, _, S => S
  | k + 1, i, e, S => if i + 1 < e then tuF r b k (i + 1) (e - 1) (S_exch S r (b + i) (b + (e - 1))) else S
def goF (fall x y : Int32) : Bool := if fall = 0 then decide (x < y) else decide (y < x)
def skF (r b : Nat) (fall : Int32) : Nat → tS → tS
  | 0, S => S
  | p + 1, S => if goF fall (S.2.1 r (b + (p + 1))) (S.2.1 r (b + p)) then skF r b fall p (S_exch S r (b + (p + 1)) (b + p)) else S
def soF (r b : Nat) (fall : Int32) (S : tS) : Nat → tS
  | 0 => S
  | k + 1 => skF r b fall (k + 1) (soF r b fall S k)
theorem nI_m1 (k : Nat) : nI k + (-1 : Int32) = nI k - 1 := by rw [Int32.sub_eq_add_neg]
theorem c_compare {K : tK} {G : tG} {x y : Int32} {pk : Int32 → tG → Prop} (h : ∀ z : Int32, (z < 0 ↔ x < y) → (0 < z ↔ y < x) → pk z G) : w_J6_compare_7cf53 K pk x y G := by
  refine ⟨fun c => ⟨fun c2 => h 1 ⟨fun q => absurd q (by decide), fun q => ?_⟩ ⟨fun _ => ?_, fun _ => by decide⟩, fun c2 => h 0 ⟨fun q => absurd q (by decide), fun q => ?_⟩ ⟨fun q => absurd q (by decide), fun q => ?_⟩⟩, fun c => h (-1) ⟨fun _ => ?_, fun _ => by decide⟩ ⟨fun q => absurd q (by decide), fun q => ?_⟩⟩
  · rw [i32_lt] at q; rw [i32_le] at c; omega
  · rw [i32_lt]; rw [i32_le] at c
    have : x.toInt ≠ y.toInt := fun e => c2 (Int32.toInt_inj.mp e)
    omega
  · subst c2; rw [i32_lt] at q; omega
  · subst c2; rw [i32_lt] at q; omega
  · rw [i32_lt]; rw [i32_le] at c; omega
  · rw [i32_lt] at q; rw [i32_le] at c; omega
section CLE
variable {K : tK} {G : tG} {L : tL} {S : tS} {post : Int32 → tG → Prop} {postX : String → tG → Prop}
theorem c_turn {pv : tG → Prop} {o r b n : Nat} (hr : r < 3) (hn : b + n ≤ 12) : ∀ (k i e : Nat) (S : tS) (G : tG), e ≤ n → i ≤ 12 → e ≤ i + k → TwR G L S → G o = some (oRL (nI r) (L.2.2.2 r) b n) → (∀ G', fr (clsW L) G G' → TwR G' L (tuF r b k i e S) → G' o = some (oRL (nI r) (L.2.2.2 r) b n) → pv G') → w_X1_turn_7 K pv (k + 1) (some o) (nI e - 1) (nI i) G := by
  intro k
  induction k with
  | zero =>
    intro i e S G he hi hk h ho hp
    show w_X1_turn_7_b K pv (w_X1_turn_7 K pv 0) (some o) (nI e - 1) (nI i) G
    refine ⟨fun _ => hp G (fr_rf _ _) h ho, fun c => absurd ?_ c⟩
    cases e with
    | zero =>
      rw [i32_le, nI_toInt (by omega)]
      have : (nI 0 - 1 : Int32).toInt = -1 := by decide
      omega
    | succ e =>
      rw [nI_pred]
      exact nI_le (by omega) (by omega)
  | succ k ih =>
    intro i e S G he hi hk h ho hp
    show w_X1_turn_7_b K pv (w_X1_turn_7 K pv (k + 1)) (some o) (nI e - 1) (nI i) G
    cases e with
    | zero =>
      refine ⟨fun _ => hp G (fr_rf _ _) (by simp only [tuF]; exact h) ho, fun c => absurd ?_ c⟩
      rw [i32_le, nI_toInt (by omega)]
      have : (nI 0 - 1 : Int32).toInt = -1 := by decide
      omega
    | succ e =>
      rw [nI_pred]
      refine ⟨fun c => ?_, fun c => ?_⟩
      · rw [nI_leI (by omega) (by omega)] at c
        have hq : ¬ i + 1 < e + 1 := by omega
        simp only [tuF, if_neg hq] at hp
        exact hp G (fr_rf _ _) h ho
      · rw [nI_leI (by omega) (by omega)] at c
        have hq : i + 1 < e + 1 := by omega
        simp only [tuF, if_pos hq] at hp
        refine rcv_i ho (c_exchange h ho hr hn rfl rfl (by omega) (by omega) (fun G' q1 q2 q3 => ?_))
        rw [nI_m1, nI_1]
        exact ih (i + 1) e _ G' (by omega) (by omega) (by omega) q2 q3 (fun G2 p1 p2 p3 => hp G2 (fr_tr q1 p1) p2 p3)
theorem c_reverse {v : Int32} (h : TwR G L S) (hp : tRes L G post postX (sp_li S (S_at S v) fun r b n => (0, nI n, tuF r b n 0 n S))) : w_X1_reverse K post postX (some L.1) v G := by
  refine c_rcv h (c_listAt h (fun c => ?_) (fun o r b n c1 c2 c3 c4 => ?_))
  · rw [c] at hp; exact (hp G (fr_rf _ _) h).2.1 rfl
  · rw [c1] at hp
    exact gfI_i c2 rfl ⟨n + 1, c_turn c3 c4 n 0 n S G (by omega) (by omega) (by omega) h c2 (fun G' q1 q2 q3 => gfI_i q3 rfl ((hp G' q1 q2).1 rfl))⟩
theorem c_sink {pv : tG → Prop} {o r b n : Nat} {fall : Int32} (hr : r < 3) (hn : b + n ≤ 12) : ∀ (p : Nat) (S : tS) (G : tG), p < n → TwR G L S → G o = some (oRL (nI r) (L.2.2.2 r) b n) → (∀ G', fr (clsW L) G G' → TwR G' L (skF r b fall p S) → G' o = some (oRL (nI r) (L.2.2.2 r) b n) → pv G') → w_X1_sink_2 K pv (p + 1) (some o) fall (nI p) G := by
  intro p
  induction p with
  | zero =>
    intro S G he h ho hp
    show w_X1_sink_2_b K pv (w_X1_sink_2 K pv 0) (some o) fall (nI 0) G
    exact ⟨fun _ => hp G (fr_rf _ _) h ho, fun c => absurd (by decide) c⟩
  | succ p ih =>
    intro S G he h ho hp
    show w_X1_sink_2_b K pv (w_X1_sink_2 K pv (p + 1)) (some o) fall (nI (p + 1)) G
    have hv := h.2.2.2.1 r hr
    refine ⟨fun c => absurd c (nI_nle (by omega) (by omega)), fun _ => rcv_i ho (l_read ho hv rfl (by omega) (by omega) (rcv_i ho (l_read ho hv (nI_pred p) (by omega) (by omega) (c_compare (fun z z1 z2 => ?_)))))⟩
    have go : goF fall (S.2.1 r (b + (p + 1))) (S.2.1 r (b + p)) = true → w_X1_sink_41 K pv (w_X1_sink_2 K pv (p + 1)) (some o) fall (nI (p + 1)) G := by
      intro hg
      simp only [skF, if_pos hg] at hp
      refine rcv_i ho (c_exchange h ho hr hn rfl (nI_pred p) (by omega) (by omega) (fun G' q1 q2 q3 => ?_))
      rw [nI_m1, nI_pred]
      exact ih _ G' (by omega) q2 q3 (fun G2 p1 p2 p3 => hp G2 (fr_tr q1 p1) p2 p3)
    have stop : ¬ goF fall (S.2.1 r (b + (p + 1))) (S.2.1 r (b + p)) = true → w_X1_sink_40 K pv G := by
      intro hg
      simp only [skF, if_neg hg] at hp
      exact hp G (fr_rf _ _) h ho
    refine ⟨fun cf => ⟨fun c => go ?_, fun c => stop ?_⟩, fun cf => ⟨fun c => go ?_, fun c => stop ?_⟩⟩
    · unfold goF; rw [if_pos cf]; exact decide_eq_true (z1.mp c)
    · unfold goF; rw [if_pos cf]; intro q; exact c (z1.mpr (of_decide_eq_true q))
    · unfold goF; rw [if_neg cf]; exact decide_eq_true (z2.mp c)
    · unfold goF; rw [if_neg cf]; intro q; exact c (z2.mpr (of_decide_eq_true q))
theorem c_sort {v fall : Int32} (h : TwR G L S) (hp : tRes L G post postX (sp_li S (S_tw S v) fun r b n => (0, nI n, soF r b fall S (n - 1)))) : w_X1_sort K post postX (some L.1) v fall G := by
  refine c_rcv h (c_twinAt h (fun c => ?_) (fun o r n e1 c1 c2 c3 c4 => ?_))
  · rw [c] at hp; exact (hp G (fr_rf _ _) h).2.1 rfl
  · have e2 : S_tw S v = some (r, 0, n) := by
      rw [e1]; unfold S_tw
      rw [nI_toInt (by omega), if_pos (by omega)]; exact c1
    rw [e2] at hp
    have main : ∀ k i G1, i + k = n - 1 → fr (clsW L) G G1 → TwR G1 L (soF r 0 fall S i) → G1 o = some (oRL (nI r) (L.2.2.2 r) 0 n) → w_X1_sort_9 K post postX (k + 1) fall (some o) (nI (i + 1)) G1 := by
      intro k
      induction k with
      | zero =>
        intro i G1 hi hf h1 ho1
        show w_X1_sort_9_b K post postX (w_X1_sort_9 K post postX 0) fall (some o) (nI (i + 1)) G1
        have e : i = n - 1 := by omega
        subst e
        exact gfI_i ho1 rfl ⟨fun _ => gfI_i ho1 rfl ((hp G1 hf h1).1 rfl), fun c => absurd (nI_le (by omega) (by omega)) c⟩
      | succ k ih =>
        intro i G1 hi hf h1 ho1
        show w_X1_sort_9_b K post postX (w_X1_sort_9 K post postX (k + 1)) fall (some o) (nI (i + 1)) G1
        refine gfI_i ho1 rfl ⟨fun c => absurd c (nI_ge (by omega) (by omega)), fun _ => ⟨i + 1 + 1, c_sink c3 (by omega) (i + 1) _ G1 (by omega) h1 ho1 (fun G' q1 q2 q3 => ?_)⟩⟩
        rw [nI_1]
        exact ih (i + 1) G' (by omega) (fr_tr hf q1) q2 q3
    exact ⟨n - 1 + 1, main (n - 1) 0 G (by omega) (fr_rf _ _) h c2⟩
end CLE
end
section
/-! comparing two lists, sums -/
def haF (f g : Nat → Int32) : Nat → Nat → Int32
  | 0, _ => 1
  | k + 1, i => if f i = g i then haF f g k (i + 1) else 0
def stF (f : Nat → Int32) (n : Nat) (x : Int32) : Int32 := if fpF f x n 0 = -1 then 0 else 1
/-- is there a value of f that stands in g (is = 1), or doesn't (is = 0)? -/
def onF (f g : Nat → Int32) (n : Nat) (is : Int32) : Nat → Nat → Int32
  | 0, _ => 0
  | k + 1, i => if stF g n (f i) = is then 1 else onF f g n is k (i + 1)
def nuF (x : Int32) : Int32 := if x = -1000 then 0 else x
def coF (f : Nat → Int32) : Nat → Int32
  | 0 => 1
  | k + 1 => 31 * coF f k + nuF (f k)
def suF (f : Nat → Int32) : Nat → Int32
  | 0 => 0
  | k + 1 => suF f k + nuF (f k)
theorem haF_01 (f g : Nat → Int32) : ∀ k i, haF f g k i = 0 ∨ haF f g k i = 1
  | 0, _ => Or.inr rfl
  | k + 1, i => by
    show (if f i = g i then haF f g k (i + 1) else 0) = 0 ∨ (if f i = g i then haF f g k (i + 1) else 0) = 1
    by_cases c : f i = g i
    · rw [if_pos c]; exact haF_01 f g k (i + 1)
    · rw [if_neg c]; exact Or.inl rfl
theorem nar_01 {x : Int32} (h : x = 0 ∨ x = 1) : narrow .boolean (.int x) = .int x := by rcases h with rfl | rfl <;> decide
section SRD
variable {K : tK} {G : tG} {o v b n N o2 v2 b2 n2 N2 : Nat} {r r2 : Int32} {f f2 : Nat → Int32}
theorem c_numberOf {pk : Int32 → tG → Prop} {x : Int32} (h : pk (nuF x) G) : w_X1_numberOf K pk x G := by
  refine ⟨fun c => ?_, fun c => ?_⟩
  · unfold nuF at h; rw [if_neg c] at h; exact h
  · unfold nuF at h; rw [if_pos c] at h; exact h
theorem c_hasAllFrom {pk : Int32 → tG → Prop} {a : Nat} (ho : G o = some (oRL r v b n)) (hv : G v = some (eI N f)) (hN : N < 2 ^ 31) (ho2 : G o2 = some (oRL r2 v2 b2 n2)) (hv2 : G v2 = some (eI N2 f2)) (hN2 : N2 < 2 ^ 31) (hb : b + a + n2 ≤ N) (hb2 : b2 + n2 ≤ N2) (h : pk (haF (fun i => f (b + (a + i))) (fun i => f2 (b2 + i)) n2 0) G) : w_X1_hasAllFrom K pk (some o) (nI a) (some o2) G := by
  have main : ∀ k i, i + k = n2 → pk (haF (fun i => f (b + (a + i))) (fun i => f2 (b2 + i)) k i) G → w_X1_hasAllFrom_2 K pk (k + 1) (some o) (nI a) (some o2) (nI i) G := by
    intro k
    induction k with
    | zero =>
      intro i hi hp
      show w_X1_hasAllFrom_2_b K pk (w_X1_hasAllFrom_2 K pk 0) (some o) (nI a) (some o2) (nI i) G
      exact gfI_i ho2 rfl ⟨fun _ => ⟨by decide, hp⟩, fun c => absurd (nI_le (by omega) (by omega)) c⟩
    | succ k ih =>
      intro i hi hp
      show w_X1_hasAllFrom_2_b K pk (w_X1_hasAllFrom_2 K pk (k + 1)) (some o) (nI a) (some o2) (nI i) G
      refine gfI_i ho2 rfl ⟨fun c => absurd c (nI_ge (by omega) (by omega)), fun _ => rcv_i ho (l_read ho hv (nI_add a i) (by omega) hN (rcv_i ho2 (l_read ho2 hv2 rfl (by omega) hN2 ⟨fun c => ?_, fun c => ⟨by decide, ?_⟩⟩)))⟩
      · rw [nI_1]
        have c : (fun i => f (b + (a + i))) i = (fun i => f2 (b2 + i)) i := c
        simp only [haF, if_pos c] at hp
        exact ih (i + 1) (by omega) hp
      · have c : ¬ (fun i => f (b + (a + i))) i = (fun i => f2 (b2 + i)) i := c
        simp only [haF, if_neg c] at hp
        exact hp
  exact ⟨n2 + 1, main n2 0 (by omega) h⟩
theorem c_areSame {pk : Int32 → tG → Prop} (ho : G o = some (oRL r v b n)) (hv : G v = some (eI N f)) (hN : N < 2 ^ 31) (ho2 : G o2 = some (oRL r2 v2 b2 n2)) (hv2 : G v2 = some (eI N2 f2)) (hN2 : N2 < 2 ^ 31) (hb : b + n ≤ N) (hb2 : b2 + n2 ≤ N2) (h : pk (if n = n2 then haF (fun i => f (b + i)) (fun i => f2 (b2 + i)) n2 0 else 0) G) : w_X1_areSame K pk (some o) (some o2) G := by
  refine gfI_i ho rfl (gfI_i ho2 rfl ⟨fun c => ⟨by decide, ?_⟩, fun c => ?_⟩)
  · have : ¬ n = n2 := fun e => c (by rw [e])
    rw [if_neg this] at h; exact h
  · have e : n = n2 := (nI_eq (by omega) (by omega)).mp c
    rw [if_pos e] at h
    refine c_hasAllFrom (a := 0) ho hv hN ho2 hv2 hN2 (by omega) hb2 ?_
    simp only [Nat.zero_add]
    rcases haF_01 (fun i => f (b + i)) (fun i => f2 (b2 + i)) n2 0 with q | q
    · rw [q] at h ⊢
      exact ⟨fun _ => ⟨by decide, h⟩, fun z => absurd rfl z⟩
    · rw [q] at h ⊢
      exact ⟨fun z => absurd z (by decide), fun _ => ⟨by decide, h⟩⟩
theorem c_hasOne {pk : Int32 → tG → Prop} {is : Int32} (ho : G o = some (oRL r v b n)) (hv : G v = some (eI N f)) (hN : N < 2 ^ 31) (ho2 : G o2 = some (oRL r2 v2 b2 n2)) (hv2 : G v2 = some (eI N2 f2)) (hN2 : N2 < 2 ^ 31) (hb : b + n ≤ N) (hb2 : b2 + n2 ≤ N2) (h : pk (onF (fun i => f (b + i)) (fun i => f2 (b2 + i)) n2 is n 0) G) : w_X1_hasOneThatStands K pk (some o) (some o2) is G := by
  have main : ∀ k i, i + k = n → pk (onF (fun i => f (b + i)) (fun i => f2 (b2 + i)) n2 is k i) G → w_X1_hasOneThatStands_2 K pk (k + 1) (some o) (some o2) is (nI i) G := by
    intro k
    induction k with
    | zero =>
      intro i hi hp
      show w_X1_hasOneThatStands_2_b K pk (w_X1_hasOneThatStands_2 K pk 0) (some o) (some o2) is (nI i) G
      exact gfI_i ho rfl ⟨fun _ => ⟨by decide, hp⟩, fun c => absurd (nI_le (by omega) (by omega)) c⟩
    | succ k ih =>
      intro i hi hp
      show w_X1_hasOneThatStands_2_b K pk (w_X1_hasOneThatStands_2 K pk (k + 1)) (some o) (some o2) is (nI i) G
      refine gfI_i ho rfl ⟨fun c => absurd c (nI_ge (by omega) (by omega)), fun _ => rcv_i ho (l_read ho hv rfl (by omega) hN (c_stands ho2 hv2 hN2 hb2 ?_))⟩
      by_cases c : stF (fun i => f2 (b2 + i)) n2 ((fun i => f (b + i)) i) = is
      · simp only [onF, if_pos c] at hp
        exact ⟨fun z => absurd c z, fun _ => ⟨by decide, hp⟩⟩
      · simp only [onF, if_neg c] at hp
        refine ⟨fun _ => ?_, fun z => absurd z c⟩
        rw [nI_1]
        exact ih (i + 1) (by omega) hp
  exact ⟨n + 1, main n 0 (by omega) h⟩
theorem onF_01 (f g : Nat → Int32) (n : Nat) (is : Int32) : ∀ k i, onF f g n is k i = 0 ∨ onF f g n is k i = 1
  | 0, _ => Or.inl rfl
  | k + 1, i => by
    show (if stF g n (f i) = is then 1 else onF f g n is k (i + 1)) = 0 ∨ (if stF g n (f i) = is then 1 else onF f g n is k (i + 1)) = 1
    by_cases c : stF g n (f i) = is
    · rw [if_pos c]; exact Or.inr rfl
    · rw [if_neg c]; exact onF_01 f g n is k (i + 1)
theorem c_codeOf {pk : Int32 → tG → Prop} (ho : G o = some (oRL r v b n)) (hv : G v = some (eI N f)) (hN : N < 2 ^ 31) (hb : b + n ≤ N) (h : pk (coF (fun i => f (b + i)) n) G) : w_X1_codeOf K pk (some o) 0 (nI n) G := by
  have main : ∀ k i, i + k = n → w_X1_codeOf_5 K pk (k + 1) (some o) (nI n) (coF (fun i => f (b + i)) i) (nI i) G := by
    intro k
    induction k with
    | zero =>
      intro i hi
      show w_X1_codeOf_5_b K pk (w_X1_codeOf_5 K pk 0) (some o) (nI n) (coF (fun i => f (b + i)) i) (nI i) G
      have e : i = n := by omega
      subst e
      exact ⟨fun _ => h, fun c => absurd (nI_le (by omega) (by omega)) c⟩
    | succ k ih =>
      intro i hi
      show w_X1_codeOf_5_b K pk (w_X1_codeOf_5 K pk (k + 1)) (some o) (nI n) (coF (fun i => f (b + i)) i) (nI i) G
      refine ⟨fun c => absurd c (nI_ge (by omega) (by omega)), fun _ => rcv_i ho (l_read ho hv rfl (by omega) hN (c_numberOf ?_))⟩
      rw [nI_1]
      exact ih (i + 1) (by omega)
  exact ⟨n + 1, main n 0 (by omega)⟩
end SRD
section CLF
variable {K : tK} {G : tG} {L : tL} {S : tS} {post : Int32 → tG → Prop} {postX : String → tG → Prop}
def sp_2 (S : tS) (p q : Option (Nat × Nat × Nat)) (f : Nat → Nat → Nat → Nat → Nat → Nat → tA) : tA := match p, q with
  | some (r, b, n), some (r2, b2, n2) => f r b n r2 b2 n2
  | _, _ => (1, 0, S)
/-- two lists -/
theorem c_two {v w : Int32} {F : Nat → Nat → Nat → Nat → Nat → Nat → tA} {PW : Option Nat → Option Nat → tG → Prop} (h : TwR G L S) (hp : tRes L G post postX (sp_2 S (S_at S v) (S_at S w) F)) (hk : ∀ o r b n o2 r2 b2 n2, G o = some (oRL (nI r) (L.2.2.2 r) b n) → r < 3 → b + n ≤ 12 → G o2 = some (oRL (nI r2) (L.2.2.2 r2) b2 n2) → r2 < 3 → b2 + n2 ≤ 12 → tRes L G post postX (F r b n r2 b2 n2) → PW (some o) (some o2) G) : rcv G (some L.1) 3 (w_X1_listAt K (fun x G_2 => rcv G_2 (some L.1) 3 (w_X1_listAt K (fun y G_3 => PW x y G_3) postX (some L.1) w G_2)) postX (some L.1) v G) := by
  refine c_rcv h (c_listAt h (fun c => ?_) (fun o r b n c1 c2 c3 c4 => c_rcv h (c_listAt h (fun c => ?_) (fun o2 r2 b2 n2 d1 d2 d3 d4 => ?_))))
  · rw [c] at hp; exact (hp G (fr_rf _ _) h).2.1 rfl
  · rw [c, c1] at hp; exact (hp G (fr_rf _ _) h).2.1 rfl
  · rw [c1, d1] at hp
    exact hk o r b n o2 r2 b2 n2 c2 c3 c4 d2 d3 d4 hp
theorem c_areEqual {v w : Int32} (h : TwR G L S) (hp : tRes L G post postX (sp_2 S (S_at S v) (S_at S w) fun r b n r2 b2 n2 => (0, if n = n2 then haF (S_v S r b) (S_v S r2 b2) n2 0 else 0, S))) : w_X1_areEqual K post postX (some L.1) v w G := by
  refine c_two (PW := fun x y G => w_X1_areSame K (fun x_12 G_12 => (narrow .boolean (.int x_12) = .int x_12 ∧ post x_12 G_12)) x y G) h hp (fun o r b n o2 r2 b2 n2 c2 c3 c4 d2 d3 d4 hq => ?_)
  refine c_areSame c2 (h.2.2.2.1 r c3) (by decide) d2 (h.2.2.2.1 r2 d3) (by decide) c4 d4 ⟨nar_01 ?_, (hq G (fr_rf _ _) h).1 rfl⟩
  split
  · exact haF_01 _ _ _ _
  · exact Or.inl rfl
theorem c_areApart {v w : Int32} (h : TwR G L S) (hp : tRes L G post postX (sp_2 S (S_at S v) (S_at S w) fun r b n r2 b2 n2 => (0, if onF (S_v S r b) (S_v S r2 b2) n2 1 n 0 = 0 then 1 else 0, S))) : w_X1_areApart K post postX (some L.1) v w G := by
  refine c_two (PW := fun x y G => w_X1_hasOneThatStands K (fun x_13 G_13 => ((¬ x_13 = 0 → w_X1_areApart_24 K post postX ((0 : Int32)) G_13) ∧ (x_13 = 0 → w_X1_areApart_24 K post postX ((1 : Int32)) G_13))) x y 1 G) h hp (fun o r b n o2 r2 b2 n2 c2 c3 c4 d2 d3 d4 hq => ?_)
  refine c_hasOne c2 (h.2.2.2.1 r c3) (by decide) d2 (h.2.2.2.1 r2 d3) (by decide) c4 d4 ⟨fun c => ⟨by decide, ?_⟩, fun c => ⟨by decide, ?_⟩⟩
  · have hq := (hq G (fr_rf _ _) h).1 rfl
    simp only [if_neg c] at hq; exact hq
  · have hq := (hq G (fr_rf _ _) h).1 rfl
    simp only [if_pos c] at hq; exact hq
theorem c_hasAll {v w : Int32} (h : TwR G L S) (hp : tRes L G post postX (sp_2 S (S_at S v) (S_at S w) fun r b n r2 b2 n2 => (0, if onF (S_v S r2 b2) (S_v S r b) n 0 n2 0 = 0 then 1 else 0, S))) : w_X1_hasAll K post postX (some L.1) v w G := by
  refine c_two (PW := fun x y G => w_X1_hasOneThatStands K (fun x_13 G_13 => ((¬ x_13 = 0 → w_X1_hasAll_24 K post postX ((0 : Int32)) G_13) ∧ (x_13 = 0 → w_X1_hasAll_24 K post postX ((1 : Int32)) G_13))) y x 0 G) h hp (fun o r b n o2 r2 b2 n2 c2 c3 c4 d2 d3 d4 hq => ?_)
  refine c_hasOne d2 (h.2.2.2.1 r2 d3) (by decide) c2 (h.2.2.2.1 r c3) (by decide) d4 c4 ⟨fun c => ⟨by decide, ?_⟩, fun c => ⟨by decide, ?_⟩⟩
  · have hq := (hq G (fr_rf _ _) h).1 rfl
    simp only [if_neg c] at hq; exact hq
  · have hq := (hq G (fr_rf _ _) h).1 rfl
    simp only [if_pos c] at hq; exact hq
theorem c_removeAll {v w : Int32} (h : TwR G L S) (hp : tRes L G post postX (sp_2 S (S_at S v) (S_at S w) fun r b n r2 b2 n2 => if onF (S_v S r b) (S_v S r2 b2) n2 1 n 0 = 0 then (0, 0, S) else (0, -9, S_ref S))) : w_X1_removeAll K post postX (some L.1) v w G := by
  refine c_two (PW := fun x y G => w_X1_hasOneThatStands K (fun x_14 G_14 => rcv G_14 (some L.1) 3 (w_X1_refuseIf K (fun x_17 G_17 => post x_17 G_17) (some L.1) x_14 G_14)) x y 1 G) h hp (fun o r b n o2 r2 b2 n2 c2 c3 c4 d2 d3 d4 hq => ?_)
  refine c_hasOne c2 (h.2.2.2.1 r c3) (by decide) d2 (h.2.2.2.1 r2 d3) (by decide) c4 d4 (c_rcv h (c_refuseIf h (fun c G' q1 q2 => ?_) (fun c => ?_)))
  · rw [if_neg c] at hq; exact (hq G' q1 q2).1 rfl
  · rw [if_pos c] at hq; exact (hq G (fr_rf _ _) h).1 rfl
theorem c_retainAll {v w : Int32} (h : TwR G L S) (hp : tRes L G post postX (sp_2 S (S_at S v) (S_at S w) fun r b n r2 b2 n2 => if onF (S_v S r b) (S_v S r2 b2) n2 0 n 0 = 0 then (0, 0, S) else (0, -9, S_ref S))) : w_X1_retainAll K post postX (some L.1) v w G := by
  refine c_two (PW := fun x y G => w_X1_hasOneThatStands K (fun x_14 G_14 => rcv G_14 (some L.1) 3 (w_X1_refuseIf K (fun x_17 G_17 => post x_17 G_17) (some L.1) x_14 G_14)) x y 0 G) h hp (fun o r b n o2 r2 b2 n2 c2 c3 c4 d2 d3 d4 hq => ?_)
  refine c_hasOne c2 (h.2.2.2.1 r c3) (by decide) d2 (h.2.2.2.1 r2 d3) (by decide) c4 d4 (c_rcv h (c_refuseIf h (fun c G' q1 q2 => ?_) (fun c => ?_)))
  · rw [if_neg c] at hq; exact (hq G' q1 q2).1 rfl
  · rw [if_pos c] at hq; exact (hq G (fr_rf _ _) h).1 rfl
theorem c_addAll {v w : Int32} (h : TwR G L S) (hp : tRes L G post postX (sp_2 S (S_at S v) (S_at S w) fun _ _ _ _ _ n2 => if n2 = 0 then (0, 0, S) else (0, -9, S_ref S))) : w_X1_addAll K post postX (some L.1) v w G := by
  refine c_two (PW := fun x y G => gfI G y 2 3 (fun x_12 => ((x_12 ≤ 0 → w_X1_addAll_23 K post postX (some L.1) ((0 : Int32)) G) ∧ (¬ x_12 ≤ 0 → w_X1_addAll_23 K post postX (some L.1) ((1 : Int32)) G)))) h hp (fun o r b n o2 r2 b2 n2 c2 c3 c4 d2 d3 d4 hq => ?_)
  refine gfI_i d2 rfl ⟨fun c => c_rcv h (c_refuseIf h (fun q => absurd rfl q) (fun _ => ?_)), fun c => c_rcv h (c_refuseIf h (fun _ G' q1 q2 => ?_) (fun q => absurd q (by decide)))⟩
  · have hn : n2 = 0 := Decidable.byContradiction fun e => nI_nle (by omega) (by omega) c
    rw [if_pos hn] at hq; exact (hq G (fr_rf _ _) h).1 rfl
  · have hn : ¬ n2 = 0 := fun e => c (by rw [e]; decide)
    rw [if_neg hn] at hq; exact (hq G' q1 q2).1 rfl
theorem c_code {v : Int32} (h : TwR G L S) (hp : tRes L G post postX (sp_li S (S_at S v) fun r b n => (0, coF (S_v S r b) n, S))) : w_X1_code K post postX (some L.1) v G := by
  refine c_rcv h (c_listAt h (fun c => ?_) (fun o r b n c1 c2 c3 c4 => ?_))
  · rw [c] at hp; exact (hp G (fr_rf _ _) h).2.1 rfl
  · rw [c1] at hp
    exact gfI_i c2 rfl (c_codeOf c2 (h.2.2.2.1 r c3) (by decide) c4 ((hp G (fr_rf _ _) h).1 rfl))
end CLF
end
section
/-! counting, sums, tests, rules -/
def tsF (test number x : Int32) : Int32 := if test = 0 then (if x = -1000 then 1 else 0) else if test = 1 then (if x = number then 1 else 0) else (if x = -1000 then 0 else if number ≤ x then 0 else 1)
def otF (f : Nat → Int32) (test number : Int32) : Nat → Nat → Int32
  | 0, _ => 0
  | k + 1, i => if tsF test number (f i) = 0 then otF f test number k (i + 1) else 1
def wiF (x : Int32) : Int32 := if (-99 : Int32) < (if x < (99 : Int32) then x else (99 : Int32)) then (if x < (99 : Int32) then x else (99 : Int32)) else (-99 : Int32)
def ruF (rule number x : Int32) : Int32 := if rule = 0 then wiF (nuF x + number) else if rule = 1 then (if nuF x < number then number else nuF x) else if rule = 2 then wiF (nuF x * number) else (if nuF x = number then -1000 else nuF x)
theorem wiF_ok (x : Int32) : okV (wiF x) := by
  refine Or.inr ?_
  unfold wiF
  have e1 : (99 : Int32).toInt = 99 := rfl
  have e2 : (-99 : Int32).toInt = -99 := rfl
  by_cases d : x < 99
  · simp only [if_pos d]
    by_cases c : -99 < x
    · rw [if_pos c]
      rw [i32_lt] at c d; exact ⟨fun q => by rw [i32_lt] at q; omega, by rw [i32_le]; omega⟩
    · rw [if_neg c]; exact ⟨by decide, by decide⟩
  · simp only [if_neg d]
    exact ⟨by decide, by decide⟩
theorem nuF_in {x : Int32} (h : okV x) : inR (nuF x) (-99) 99 := by
  unfold nuF
  by_cases c : x = -1000
  · rw [if_pos c]; exact ⟨by decide, by decide⟩
  · rw [if_neg c]; exact h.resolve_left c
theorem ruF_ok {rule number x : Int32} (hx : okV x) (hn : inR number (-99) 99) : okV (ruF rule number x) := by
  unfold ruF
  split
  · exact wiF_ok _
  · split
    · split
      · exact Or.inr hn
      · exact Or.inr (nuF_in hx)
    · split
      · exact wiF_ok _
      · split
        · exact Or.inl rfl
        · exact Or.inr (nuF_in hx)
section SRG
variable {K : tK} {G : tG} {o v b n N : Nat} {r : Int32} {f : Nat → Int32}
theorem c_isOfTest {pk : Int32 → tG → Prop} {x t w : Int32} (h : pk (tsF t w x) G) : w_X1_isOfTest K pk x t w G := by
  unfold tsF at h
  refine ⟨fun c => ?_, fun c => ?_, fun c => ?_⟩
  · rw [if_pos c] at h
    refine ⟨fun d => ⟨by decide, ?_⟩, fun d => ⟨by decide, ?_⟩⟩
    · rw [if_neg d] at h; exact h
    · rw [if_pos d] at h; exact h
  · have c0 : ¬ t = 0 := by rw [c]; decide
    rw [if_neg c0, if_pos c] at h
    refine ⟨fun d => ⟨by decide, ?_⟩, fun d => ⟨by decide, ?_⟩⟩
    · rw [if_neg d] at h; exact h
    · rw [if_pos d] at h; exact h
  · rw [if_neg c.1, if_neg c.2] at h
    refine ⟨fun d => ⟨by decide, ?_⟩, fun d => ⟨fun d2 => ⟨by decide, ?_⟩, fun d2 => ⟨by decide, ?_⟩⟩⟩
    · rw [if_pos d] at h; exact h
    · rw [if_neg d, if_pos d2] at h; exact h
    · rw [if_neg d, if_neg d2] at h; exact h
theorem c_hasOneOfTest {pk : Int32 → tG → Prop} {t w : Int32} (ho : G o = some (oRL r v b n)) (hv : G v = some (eI N f)) (hN : N < 2 ^ 31) (hb : b + n ≤ N) (h : pk (otF (fun i => f (b + i)) t w n 0) G) : w_X1_hasOneOfTest K pk (some o) t w G := by
  have main : ∀ k i, i + k = n → pk (otF (fun i => f (b + i)) t w k i) G → w_X1_hasOneOfTest_2 K pk (k + 1) (some o) t w (nI i) G := by
    intro k
    induction k with
    | zero =>
      intro i hi hp
      show w_X1_hasOneOfTest_2_b K pk (w_X1_hasOneOfTest_2 K pk 0) (some o) t w (nI i) G
      exact gfI_i ho rfl ⟨fun _ => ⟨by decide, hp⟩, fun c => absurd (nI_le (by omega) (by omega)) c⟩
    | succ k ih =>
      intro i hi hp
      show w_X1_hasOneOfTest_2_b K pk (w_X1_hasOneOfTest_2 K pk (k + 1)) (some o) t w (nI i) G
      refine gfI_i ho rfl ⟨fun c => absurd c (nI_ge (by omega) (by omega)), fun _ => rcv_i ho (l_read ho hv rfl (by omega) hN (c_isOfTest ⟨fun c => ?_, fun c => ⟨by decide, ?_⟩⟩))⟩
      · have c : tsF t w ((fun i => f (b + i)) i) = 0 := c
        simp only [otF, if_pos c] at hp
        rw [nI_1]
        exact ih (i + 1) (by omega) hp
      · have c : ¬ tsF t w ((fun i => f (b + i)) i) = 0 := c
        simp only [otF, if_neg c] at hp
        exact hp
  exact ⟨n + 1, main n 0 (by omega) h⟩
theorem c_within {pk : Int32 → tG → Prop} {x : Int32} (h : pk (wiF x) G) : w_X1_withinNumbers K pk x G := h
theorem c_ruled {pk : Int32 → tG → Prop} {x rule w : Int32} (hr : inR rule 0 3) (h : pk (ruF rule w x) G) : w_X1_ruled K pk x rule w G := by
  refine c_numberOf ?_
  unfold ruF at h
  refine ⟨fun c => ?_, fun c => ?_, fun c => ?_, fun c => ?_⟩
  · rw [if_pos c] at h; exact h
  · have c0 : ¬ rule = 0 := by rw [c]; decide
    rw [if_neg c0, if_pos c] at h; exact h
  · have c0 : ¬ rule = 0 := by rw [c]; decide
    have c1 : ¬ rule = 1 := by rw [c]; decide
    rw [if_neg c0, if_neg c1, if_pos c] at h; exact h
  · have c0 : ¬ rule = 0 := fun e => by rw [e] at c; revert c; decide
    have c1 : ¬ rule = 1 := fun e => by rw [e] at c; revert c; decide
    have c2 : ¬ rule = 2 := fun e => by rw [e] at c; revert c; decide
    rw [if_neg c0, if_neg c1, if_neg c2] at h
    refine ⟨fun d => ?_, fun d => ?_⟩
    · rw [if_neg d] at h; exact h
    · rw [if_pos d] at h; exact h
end SRG
section CLG
variable {K : tK} {G : tG} {L : tL} {S : tS} {post : Int32 → tG → Prop} {postX : String → tG → Prop}
theorem c_sum {v : Int32} (h : TwR G L S) (hp : tRes L G post postX (sp_li S (S_at S v) fun r b n => (0, suF (S_v S r b) n, S))) : w_X1_sum K post postX (some L.1) v G := by
  refine c_rcv h (c_listAt h (fun c => ?_) (fun o r b n c1 c2 c3 c4 => ?_))
  · rw [c] at hp; exact (hp G (fr_rf _ _) h).2.1 rfl
  · rw [c1] at hp
    have hp := (hp G (fr_rf _ _) h).1 rfl
    have main : ∀ k i, i + k = n → w_X1_sum_11 K post postX (k + 1) (some o) (suF (S_v S r b) i) (nI i) G := by
      intro k
      induction k with
      | zero =>
        intro i hi
        show w_X1_sum_11_b K post postX (w_X1_sum_11 K post postX 0) (some o) (suF (S_v S r b) i) (nI i) G
        have e : i = n := by omega
        subst e
        exact gfI_i c2 rfl ⟨fun _ => hp, fun c => absurd (nI_le (by omega) (by omega)) c⟩
      | succ k ih =>
        intro i hi
        show w_X1_sum_11_b K post postX (w_X1_sum_11 K post postX (k + 1)) (some o) (suF (S_v S r b) i) (nI i) G
        refine gfI_i c2 rfl ⟨fun c => absurd c (nI_ge (by omega) (by omega)), fun _ => rcv_i c2 (l_read c2 (h.2.2.2.1 r c3) rfl (by omega) (by omega) (c_numberOf ?_))⟩
        rw [nI_1]
        exact ih (i + 1) (by omega)
    exact ⟨n + 1, main n 0 (by omega)⟩
theorem c_often {v x : Int32} (h : TwR G L S) (hp : tRes L G post postX (sp_li S (S_at S v) fun r b n => if okV x then (0, ofF (S_v S r b) x n, S) else (2, 0, S))) : w_X1_often K post postX (some L.1) v x G := by
  refine c_rcv h (c_listAt h (fun c => ?_) (fun o r b n c1 c2 c3 c4 => ?_))
  · rw [c] at hp; exact (hp G (fr_rf _ _) h).2.1 rfl
  · rw [c1] at hp
    refine c_checkValue (fun hx => ?_) (fun hx => ?_)
    · simp only [sp_li, if_pos hx] at hp
      have hp := (hp G (fr_rf _ _) h).1 rfl
      have main : ∀ k i, i + k = n → w_X1_often_16 K post postX (k + 1) x (some o) (ofF (S_v S r b) x i) (nI i) G := by
        intro k
        induction k with
        | zero =>
          intro i hi
          show w_X1_often_16_b K post postX (w_X1_often_16 K post postX 0) x (some o) (ofF (S_v S r b) x i) (nI i) G
          have e : i = n := by omega
          subst e
          exact gfI_i c2 rfl ⟨fun _ => hp, fun c => absurd (nI_le (by omega) (by omega)) c⟩
        | succ k ih =>
          intro i hi
          show w_X1_often_16_b K post postX (w_X1_often_16 K post postX (k + 1)) x (some o) (ofF (S_v S r b) x i) (nI i) G
          have hi2 := ih (i + 1) (by omega)
          refine gfI_i c2 rfl ⟨fun c => absurd c (nI_ge (by omega) (by omega)), fun _ => rcv_i c2 (l_read c2 (h.2.2.2.1 r c3) rfl (by omega) (by omega) ⟨fun c => ?_, fun c => ?_⟩)⟩
          · show w_X1_often_16 K post postX (k + 1) x (some o) (ofF (S_v S r b) x i + 0) (nI i + 1) G
            rw [nI_1]
            have e : ofF (S_v S r b) x (i + 1) = ofF (S_v S r b) x i + 0 := by show _ + (if _ then _ else _) = _; rw [if_neg c]
            rw [e] at hi2; exact hi2
          · show w_X1_often_16 K post postX (k + 1) x (some o) (ofF (S_v S r b) x i + 1) (nI i + 1) G
            rw [nI_1]
            have e : ofF (S_v S r b) x (i + 1) = ofF (S_v S r b) x i + 1 := by show _ + (if _ then _ else _) = _; rw [if_pos c]
            rw [e] at hi2; exact hi2
      exact ⟨n + 1, main n 0 (by omega)⟩
    · simp only [sp_li, if_neg hx] at hp
      exact (hp G (fr_rf _ _) h).2.2 rfl
theorem c_removeIf {v t w : Int32} (h : TwR G L S) (hp : tRes L G post postX (sp_li S (S_at S v) fun r b n => if inR t 0 2 ∧ inR w (-99) 99 then (if otF (S_v S r b) t w n 0 = 0 then (0, 0, S) else (0, -9, S_ref S)) else (2, 0, S))) : w_X1_removeIf K post postX (some L.1) v t w G := by
  refine c_rcv h (c_listAt h (fun c => ?_) (fun o r b n c1 c2 c3 c4 => ?_))
  · rw [c] at hp; exact (hp G (fr_rf _ _) h).2.1 rfl
  · rw [c1] at hp
    refine c_checkNumber (fun ht => c_checkNumber (fun hw => ?_) (fun hw => ?_)) (fun ht => ?_)
    · simp only [sp_li, if_pos (And.intro ht hw)] at hp
      refine c_hasOneOfTest c2 (h.2.2.2.1 r c3) (by decide) c4 (c_rcv h (c_refuseIf h (fun c G' q1 q2 => ?_) (fun c => ?_)))
      · rw [if_neg c] at hp; exact (hp G' q1 q2).1 rfl
      · rw [if_pos c] at hp; exact (hp G (fr_rf _ _) h).1 rfl
    · simp only [sp_li, if_neg (fun q : inR t 0 2 ∧ inR w (-99) 99 => hw q.2)] at hp
      exact (hp G (fr_rf _ _) h).2.2 rfl
    · simp only [sp_li, if_neg (fun q : inR t 0 2 ∧ inR w (-99) 99 => ht q.1)] at hp
      exact (hp G (fr_rf _ _) h).2.2 rfl
/-- the places that a walker writes: from a on, or down from a -/
def plF (a : Nat) (back : Int32) (i : Nat) : Nat := if back = 0 then a + i else a - 1 - i
def wrF (S : tS) (r b a : Nat) (back rule w : Int32) : Nat → tS
  | 0 => S
  | k + 1 => S_put (wrF S r b a back rule w k) r (b + plF a back k) (ruF rule w ((wrF S r b a back rule w k).2.1 r (b + plF a back k)))
def slF (a n : Nat) (back : Int32) : Nat := if back = 0 then n - a else a
theorem c_placeAfter {pk : Int32 → tG → Prop} {a i : Nat} {back : Int32} (hi : back ≠ 0 → i < a) (h : pk (nI (plF a back i)) G) : w_X1_placeAfter K pk (nI a) (nI i) back G := by
  unfold plF at h
  refine ⟨fun c => ?_, fun c => ?_⟩
  · rw [if_pos c] at h
    show pk (nI a + nI i) G
    rw [nI_add]; exact h
  · rw [if_neg c] at h
    show pk (nI a - 1 - nI i) G
    have e : nI a - 1 - nI i = nI (a - 1 - i) := by
      have hi := hi c
      have e1 : nI a = nI (a - 1 - i) + nI i + 1 := by rw [nI_add, nI_1]; congr 1; omega
      rw [e1, Int32.add_sub_cancel, Int32.add_sub_cancel]
    rw [e]; exact h
theorem c_writeRuled {o r b n a : Nat} {back rule w : Int32} {pv : Int32 → tG → Prop} (h : TwR G L S) (c2 : G o = some (oRL (nI r) (L.2.2.2 r) b n)) (c3 : r < 3) (c4 : b + n ≤ 12) (ha : a ≤ n) (hr : inR rule 0 3) (hw : inR w (-99) 99) (hp : ∀ G', fr (clsW L) G G' → TwR G' L (wrF S r b a back rule w (slF a n back)) → pv (nI (slF a n back)) G') : w_X1_writeRuled K pv (some o) (nI a) rule w back G := by
  have hs : slF a n back ≤ n := by unfold slF; split <;> omega
  have hpl : ∀ i, i < slF a n back → plF a back i < n ∧ (back ≠ 0 → i < a) := by
    intro i hi
    unfold slF at hi; unfold plF
    by_cases c : back = 0
    · rw [if_pos c] at hi ⊢; exact ⟨by omega, fun q => absurd c q⟩
    · rw [if_neg c] at hi ⊢; exact ⟨by omega, fun _ => hi⟩
  have main : ∀ k i G1, i + k = slF a n back → fr (clsW L) G G1 → TwR G1 L (wrF S r b a back rule w i) → G1 o = some (oRL (nI r) (L.2.2.2 r) b n) → w_X1_writeRuled_12 K pv (k + 1) (some o) (nI a) rule w back (nI (slF a n back)) (nI i) G1 := by
    intro k
    induction k with
    | zero =>
      intro i G1 hi hf h1 ho1
      show w_X1_writeRuled_12_b K pv (w_X1_writeRuled_12 K pv 0) (some o) (nI a) rule w back (nI (slF a n back)) (nI i) G1
      have e : i = slF a n back := by omega
      subst e
      exact ⟨fun _ => hp G1 hf h1, fun c => absurd (nI_le (by omega) (by omega)) c⟩
    | succ k ih =>
      intro i G1 hi hf h1 ho1
      show w_X1_writeRuled_12_b K pv (w_X1_writeRuled_12 K pv (k + 1)) (some o) (nI a) rule w back (nI (slF a n back)) (nI i) G1
      have hq := hpl i (by omega)
      refine ⟨fun c => absurd c (nI_ge (by omega) (by omega)), fun _ => c_placeAfter hq.2 (rcv_i ho1 (l_read ho1 (h1.2.2.2.1 r c3) rfl (by omega) (by omega) (c_ruled hr (rcv_i ho1 (t_write h1 ho1 c3 c4 rfl hq.1 (ruF_ok (t_okV h1 c3 (by omega)) hw) (fun G' q1 q2 q3 => ?_))))))⟩
      rw [nI_1]
      exact ih (i + 1) G' (by omega) (fr_tr hf q1) q2 q3
  have fin : ∃ n1 : Nat, w_X1_writeRuled_12 K pv n1 (some o) (nI a) rule w back (nI (slF a n back)) 0 G := ⟨slF a n back + 1, main _ 0 G (by omega) (fr_rf _ _) h c2⟩
  refine ⟨fun c => gfI_i c2 rfl ?_, fun c => ?_⟩
  · have e : nI n - nI a = nI (slF a n back) := by
      unfold slF; rw [if_pos c]
      have e1 : nI n = nI (n - a) + nI a := by rw [nI_add]; congr 1; omega
      rw [e1, Int32.add_sub_cancel]
    show ∃ n1 : Nat, w_X1_writeRuled_12 K pv n1 (some o) (nI a) rule w back (nI n - nI a) 0 G
    rw [e]; exact fin
  · have e : nI a = nI (slF a n back) := by unfold slF; rw [if_neg c]
    show ∃ n1 : Nat, w_X1_writeRuled_12 K pv n1 (some o) (nI a) rule w back (nI a) 0 G
    have fin2 := fin
    rw [← e] at fin2
    exact fin2
end CLG
end
section
/-! rules over a list, the first place of a list in another one, what the house tells -/
theorem nI_sub {a b : Nat} (ha : a < 2 ^ 30) (hb : b < 2 ^ 30) : (nI a - nI b).toInt = (a : Int) - b := by
  rw [Int32.toInt_sub, nI_toInt (by omega), nI_toInt (by omega)]
  exact Int.bmod_eq_of_le (by omega) (by omega)
def iaF (f g : Nat → Int32) (n2 : Nat) : Nat → Nat → Int32
  | 0, _ => -1
  | k + 1, i => if haF (fun j => f (i + j)) g n2 0 = 0 then iaF f g n2 k (i + 1) else nI i
def paF (S : tS) : Nat → Int32
  | 0 => 0
  | k + 1 => paF S k + (if S.1 (3 + k) = none then 0 else 1)
def lnF (q : Option (Nat × Nat × Nat)) : Nat := match q with
  | none => 0
  | some (_, _, n) => n
def prF (S : tS) : Nat → Int32
  | 0 => 0
  | k + 1 => prF S k + nI (lnF (S.1 k))
section CLH
variable {K : tK} {G : tG} {L : tL} {S : tS} {post : Int32 → tG → Prop} {postX : String → tG → Prop}
theorem c_replaceAll {v rule w : Int32} (h : TwR G L S) (hp : tRes L G post postX (sp_li S (S_at S v) fun r b n => if inR rule 0 3 ∧ inR w (-99) 99 then (0, nI (slF 0 n 0), wrF S r b 0 0 rule w (slF 0 n 0)) else (2, 0, S))) : w_X1_replaceAll K post postX (some L.1) v rule w G := by
  refine c_rcv h (c_listAt h (fun c => ?_) (fun o r b n c1 c2 c3 c4 => ?_))
  · rw [c] at hp; exact (hp G (fr_rf _ _) h).2.1 rfl
  · rw [c1] at hp
    refine c_checkRule (fun q1 q2 => ?_) (fun q => ?_)
    · simp only [sp_li, if_pos (And.intro q1 q2)] at hp
      exact c_writeRuled (a := 0) h c2 c3 c4 (by omega) q1 q2 (fun G' p1 p2 => (hp G' p1 p2).1 rfl)
    · simp only [sp_li, if_neg q] at hp
      exact (hp G (fr_rf _ _) h).2.2 rfl
theorem c_walkSet {v p rule w back : Int32} (h : TwR G L S) (hp : tRes L G post postX (sp_li S (S_at S v) fun r b n => if inR p 0 (nI n) ∧ (inR rule 0 3 ∧ inR w (-99) 99) then (0, nI (slF p.toInt.toNat n back), wrF S r b p.toInt.toNat back rule w (slF p.toInt.toNat n back)) else (2, 0, S))) : w_X1_walkSet K post postX (some L.1) v p rule w back G := by
  refine c_rcv h (c_listAt h (fun c => ?_) (fun o r b n c1 c2 c3 c4 => ?_))
  · rw [c] at hp; exact (hp G (fr_rf _ _) h).2.1 rfl
  · rw [c1] at hp
    refine gfI_i c2 rfl (c_checkNumber (fun hq => c_checkRule (fun q1 q2 => ?_) (fun q => ?_)) (fun hq => ?_))
    · simp only [sp_li, if_pos (And.intro hq (And.intro q1 q2))] at hp
      obtain ⟨a, ha, rfl⟩ := nI_of2 (nI_toInt (n := n) (by omega)) hq.1 hq.2
      rw [nI_nat (by omega)] at hp
      exact c_writeRuled h c2 c3 c4 ha q1 q2 (fun G' p1 p2 => (hp G' p1 p2).1 rfl)
    · simp only [sp_li, if_neg (fun z : inR p 0 (nI n) ∧ (inR rule 0 3 ∧ inR w (-99) 99) => q z.2)] at hp
      exact (hp G (fr_rf _ _) h).2.2 rfl
    · simp only [sp_li, if_neg (fun z : inR p 0 (nI n) ∧ (inR rule 0 3 ∧ inR w (-99) 99) => hq z.1)] at hp
      exact (hp G (fr_rf _ _) h).2.2 rfl
theorem c_indexOfAll {v w : Int32} (h : TwR G L S) (hp : tRes L G post postX (sp_2 S (S_at S v) (S_at S w) fun r b n r2 b2 n2 => (0, iaF (S_v S r b) (S_v S r2 b2) n2 (n + 1 - n2) 0, S))) : w_X1_indexOfAll K post postX (some L.1) v w G := by
  refine c_two (PW := fun x y G => ∃ n : Nat, w_X1_indexOfAll_16 K post postX n x y ((0 : Int32)) G) h hp (fun o r b n o2 r2 b2 n2 c2 c3 c4 d2 d3 d4 hq => ?_)
  have hq := (hq G (fr_rf _ _) h).1 rfl
  have main : ∀ k i, i + k = n + 1 - n2 → post (iaF (S_v S r b) (S_v S r2 b2) n2 k i) G → w_X1_indexOfAll_16 K post postX (k + 1) (some o) (some o2) (nI i) G := by
    intro k
    induction k with
    | zero =>
      intro i hi hp
      show w_X1_indexOfAll_16_b K post postX (w_X1_indexOfAll_16 K post postX 0) (some o) (some o2) (nI i) G
      refine gfI_i c2 rfl (gfI_i d2 rfl ⟨fun _ => hp, fun c => absurd ?_ c⟩)
      rw [i32_lt, nI_sub (by omega) (by omega), nI_toInt (by omega)]
      omega
    | succ k ih =>
      intro i hi hp
      show w_X1_indexOfAll_16_b K post postX (w_X1_indexOfAll_16 K post postX (k + 1)) (some o) (some o2) (nI i) G
      refine gfI_i c2 rfl (gfI_i d2 rfl ⟨fun c => ?_, fun _ => c_hasAllFrom c2 (h.2.2.2.1 r c3) (by decide) d2 (h.2.2.2.1 r2 d3) (by decide) (by omega) d4 ⟨fun c => ?_, fun c => ?_⟩⟩)
      · exfalso
        rw [i32_lt, nI_sub (by omega) (by omega), nI_toInt (by omega)] at c
        omega
      · have c : haF (fun j => S_v S r b (i + j)) (S_v S r2 b2) n2 0 = 0 := c
        simp only [iaF, if_pos c] at hp
        rw [nI_1]
        exact ih (i + 1) (by omega) hp
      · have c : ¬ haF (fun j => S_v S r b (i + j)) (S_v S r2 b2) n2 0 = 0 := c
        simp only [iaF, if_neg c] at hp
        exact hp
  exact ⟨n + 1 - n2 + 1, main _ 0 (by omega) hq⟩
theorem c_rowOf {v : Int32} (h : TwR G L S) (hp : tRes L G post postX (if inR v 0 6 then (0, (match S_at S v with | none => -1 | some (r, _, _) => nI r), S) else (2, 0, S))) : w_X1_rowOf K post postX (some L.1) v G := by
  refine c_checkNumber (fun q => ?_) (fun q => ?_)
  · rw [if_pos q] at hp
    have hp := (hp G (fr_rf _ _) h).1 rfl
    refine c_rcv h (c_listOrNull h (fun c => ?_) (fun o r b n c1 c2 c3 c4 => ?_))
    · rw [c] at hp; exact ⟨fun z => absurd rfl z, fun _ => hp⟩
    · rw [c1] at hp; exact ⟨fun _ => gfI_i c2 rfl hp, fun z => by cases z⟩
  · rw [if_neg q] at hp
    exact (hp G (fr_rf _ _) h).2.2 rfl
theorem c_begin {v : Int32} (h : TwR G L S) (hp : tRes L G post postX (if inR v 0 6 then (0, (match S_at S v with | none => -1 | some (_, b, _) => nI b), S) else (2, 0, S))) : w_X1_begin K post postX (some L.1) v G := by
  refine c_checkNumber (fun q => ?_) (fun q => ?_)
  · rw [if_pos q] at hp
    have hp := (hp G (fr_rf _ _) h).1 rfl
    refine c_rcv h (c_listOrNull h (fun c => ?_) (fun o r b n c1 c2 c3 c4 => ?_))
    · rw [c] at hp; exact ⟨fun z => absurd rfl z, fun _ => hp⟩
    · rw [c1] at hp; exact ⟨fun _ => gfI_i c2 rfl hp, fun z => by cases z⟩
  · rw [if_neg q] at hp
    exact (hp G (fr_rf _ _) h).2.2 rfl
theorem c_partsThere {pk : Int32 → tG → Prop} (h : TwR G L S) (hp : pk (paF S 4) G) : w_X1_partsThere K pk (some L.1) G := by
  have main : ∀ k i, i + k = 4 → w_X1_partsThere_4 K pk (k + 1) (some L.1) (paF S i) (nI (3 + i)) G := by
    intro k
    induction k with
    | zero =>
      intro i hi
      show w_X1_partsThere_4_b K pk (w_X1_partsThere_4 K pk 0) (some L.1) (paF S i) (nI (3 + i)) G
      have e : i = 4 := by omega
      subst e
      exact ⟨fun _ => hp, fun c => absurd (by decide) c⟩
    | succ k ih =>
      intro i hi
      show w_X1_partsThere_4_b K pk (w_X1_partsThere_4 K pk (k + 1)) (some L.1) (paF S i) (nI (3 + i)) G
      have hi2 := ih (i + 1) (by omega)
      refine ⟨fun c => ?_, fun _ => c_rcv h (c_listOrNull h (fun c => ?_) (fun o r b n c1 c2 c3 c4 => ?_))⟩
      · exact absurd (show nI 7 ≤ nI (3 + i) from c) (nI_ge (by omega) (by omega))
      · rw [S_at_nI S (by omega)] at c
        refine ⟨fun z => absurd rfl z, fun _ => ?_⟩
        show w_X1_partsThere_4 K pk (k + 1) (some L.1) (paF S i + 0) (nI (3 + i) + 1) G
        rw [nI_1]
        have e : paF S (i + 1) = paF S i + 0 := by show _ + (if _ then _ else _) = _; rw [if_pos c]
        rw [e] at hi2; exact hi2
      · rw [S_at_nI S (by omega)] at c1
        refine ⟨fun _ => ?_, fun z => by cases z⟩
        show w_X1_partsThere_4 K pk (k + 1) (some L.1) (paF S i + 1) (nI (3 + i) + 1) G
        rw [nI_1]
        have e : paF S (i + 1) = paF S i + 1 := by show _ + (if _ then _ else _) = _; rw [if_neg (by rw [c1]; exact fun z => by cases z)]
        rw [e] at hi2; exact hi2
  exact ⟨5, main 4 0 (by omega)⟩
theorem c_placesOfRows {pk : Int32 → tG → Prop} (h : TwR G L S) (hp : pk (prF S 3) G) : w_X1_placesOfRows K pk postX (some L.1) G := by
  have main : ∀ k i, i + k = 3 → w_X1_placesOfRows_4 K pk postX (k + 1) i (6 * i) (some L.1) (prF S i) (nI i) G := by
    intro k
    induction k with
    | zero =>
      intro i hi
      show w_X1_placesOfRows_4_b K pk postX (w_X1_placesOfRows_4 K pk postX 0) i (6 * i) (some L.1) (prF S i) (nI i) G
      have e : i = 3 := by omega
      subst e
      exact ⟨fun _ => hp, fun c => absurd (by decide) c⟩
    | succ k ih =>
      intro i hi
      show w_X1_placesOfRows_4_b K pk postX (w_X1_placesOfRows_4 K pk postX (k + 1)) i (6 * i) (some L.1) (prF S i) (nI i) G
      refine ⟨fun c => ?_, fun _ => ⟨⟨by omega, by omega⟩, c_rcv h (c_twinAt h (fun c => ?_) (fun o r n e1 c1 c2 c3 c4 => ?_))⟩⟩
      · exact absurd (show nI 3 ≤ nI i from c) (nI_ge (by omega) (by omega))
      · exfalso
        unfold S_tw at c
        rw [nI_toInt (by omega), if_pos (by omega)] at c
        obtain ⟨n, e, -⟩ := h.1.1 i (by omega)
        have c : S.1 i = none := c
        rw [c] at e; cases e
      · have e : i = r := (nI_eq (by omega) (by omega)).mp e1
        subst e
        refine gfI_i c2 rfl ?_
        show w_X1_placesOfRows_4 K pk postX (k + 1) (i + 1) (6 * i + 6) (some L.1) (prF S i + nI n) (nI i + 1) G
        rw [nI_1]
        have hi2 := ih (i + 1) (by omega)
        have e2 : prF S (i + 1) = prF S i + nI n := by show _ + nI (lnF _) = _; rw [c1]; rfl
        rw [e2] at hi2; exact hi2
  exact ⟨4, main 3 0 (by omega)⟩
def hoF (S : tS) (v : Int32) : Int32 := if v = 0 then S.2.2.1 else if v = 1 then S.2.2.2 else if v = 2 then paF S 4 else prF S 3
theorem c_house {v : Int32} (h : TwR G L S) (hp : tRes L G post postX (if inR v 0 3 then (0, hoF S v, S) else (2, 0, S))) : w_X1_house K post postX (some L.1) v G := by
  refine c_checkNumber (fun q => ?_) (fun q => ?_)
  · rw [if_pos q] at hp
    have hp := (hp G (fr_rf _ _) h).1 rfl
    obtain ⟨lf, k2, k3, k4⟩ := h.2.1
    unfold hoF at hp
    refine ⟨fun c => ?_, fun c => ?_, fun c => ?_, fun c => ?_⟩
    · simp only [if_pos c] at hp; exact gfI_i k2 rfl hp
    · have c0 : ¬ v = 0 := by rw [c]; decide
      simp only [if_neg c0, if_pos c] at hp; exact gfI_i k2 rfl hp
    · have c0 : ¬ v = 0 := by rw [c]; decide
      have c1 : ¬ v = 1 := by rw [c]; decide
      simp only [if_neg c0, if_neg c1, if_pos c] at hp; exact c_rcv h (c_partsThere h hp)
    · have c0 : ¬ v = 0 := fun e => by rw [e] at c; revert c; decide
      have c1 : ¬ v = 1 := fun e => by rw [e] at c; revert c; decide
      have c2 : ¬ v = 2 := fun e => by rw [e] at c; revert c; decide
      simp only [if_neg c0, if_neg c1, if_neg c2] at hp; exact c_rcv h (c_placesOfRows h hp)
  · rw [if_neg q] at hp
    exact (hp G (fr_rf _ _) h).2.2 rfl
end CLH
end
section
/-! new lists: part, lay -/
def TwC (G : tG) (L : tL) (S : tS) : Prop := (∃ lf, G L.1 = some (oTw L.2.1 L.2.2.1 S.2.2.1 S.2.2.2) ∧ G L.2.1 = some (eL lf) ∧ lfR G L.2.2.2 lf S) ∧ (∃ g, G L.2.2.1 = some (eI 12 g)) ∧ (∀ r, r < 3 → G (L.2.2.2 r) = some (eI 12 (S.2.1 r))) ∧ (∀ r, r < 3 → L.2.2.2 r ≠ L.2.2.1) ∧ (∀ r r', r < 3 → r' < 3 → L.2.2.2 r = L.2.2.2 r' → r = r')
theorem TwR_C {G : tG} {L : tL} {S : tS} (h : TwR G L S) : TwC G L S := h.2
theorem TwC_R {G : tG} {L : tL} {S : tS} (h : TwC G L S) (hs : S_ok S) : TwR G L S := ⟨hs, h⟩
def S_lst (S : tS) (j : Nat) (q : Option (Nat × Nat × Nat)) : tS := ((fun j' => if j' = j then q else S.1 j'), S.2)
theorem va_up_s (f : Nat → Option Nat) (j : Nat) (v : Option Nat) : va_up f j v j = v := by simp [va_up]
theorem va_up_n (f : Nat → Option Nat) {j k : Nat} (v : Option Nat) (h : k ≠ j) : va_up f j v k = f k := by simp [va_up, h]
theorem TwC_lst {G : tG} {L : tL} {S : tS} {lf : Nat → Option Nat} {j : Nat} {v : Option Nat} {q : Option (Nat × Nat × Nat)} (h : TwC G L S) (hk : G L.2.1 = some (eL lf)) (hv : (v = none ∧ q = none) ∨ ∃ o r b n, v = some o ∧ q = some (r, b, n) ∧ G o = some (oRL (nI r) (L.2.2.2 r) b n)) : TwC (tg_up G L.2.1 (eL (va_up lf j v))) L (S_lst S j q) := by
  obtain ⟨⟨lf', h2, h3, h4⟩, ⟨g, h5⟩, h6, h7, h8⟩ := h
  rw [h3] at hk
  cases hk
  refine ⟨⟨_, tg_keep h2 (ne_OI h2 h3), tg_s _ _ _, fun j' hj' => ?_⟩, ⟨g, tg_keep h5 (ne_of_G h5 h3 (fun e => by cases e))⟩, fun r hr => tg_keep (h6 r hr) (ne_of_G (h6 r hr) h3 (fun e => by cases e)), h7, h8⟩
  by_cases c : j' = j
  · subst c
    rw [va_up_s]
    show (v = none ∧ (if j' = j' then q else S.1 j') = none) ∨ ∃ o r b n, v = some o ∧ (if j' = j' then q else S.1 j') = some (r, b, n) ∧ _
    rw [if_pos rfl]
    rcases hv with e | ⟨o, r, b, n, e1, e2, e3⟩
    · exact Or.inl e
    · exact Or.inr ⟨o, r, b, n, e1, e2, tg_keep e3 (ne_OI e3 h3)⟩
  · rw [va_up_n _ _ c]
    show (lf j' = none ∧ (if j' = j then q else S.1 j') = none) ∨ ∃ o r b n, lf j' = some o ∧ (if j' = j then q else S.1 j') = some (r, b, n) ∧ _
    rw [if_neg c]
    rcases h4 j' hj' with e | ⟨o, r, b, n, e1, e2, e3⟩
    · exact Or.inl e
    · exact Or.inr ⟨o, r, b, n, e1, e2, tg_keep e3 (ne_OI e3 h3)⟩
/-- what is the same but for a cell that wasn't there -/
theorem fr_fresh {G G' : tG} {q : Nat} (hq : G q = none) (h : ∀ a, a ≠ q → G' a = G a) (P : Nat → Prop) : fr P G G' := fun a e ha _ => by
  rw [h a (fun c => by rw [c, hq] at ha; cases ha)]; exact ha
theorem TwR_fresh {G G' : tG} {L : tL} {S : tS} {q : Nat} (h : TwR G L S) (hq : G q = none) (h' : ∀ a, a ≠ q → G' a = G a) : TwR G' L S :=
  TwR_fr (P := fun _ => False) h (fr_fresh hq h' _) (fun _ _ z => z) (fun _ _ z => z.elim)
theorem asR_i {G : tG} {a n j : Nat} {f : Nat → Option Nat} {ty : FieldType} {i : Int32} {v : Option Nat} {ok : tE → Prop} {P : tG → Prop} (hG : G a = some (.inl (ty, n, .inr (.inr (.inr (.inr f)))))) (hi : i = nI j) (hj : j < n) (hn : n < 2 ^ 31) (hv : v = none ∨ ∃ (b : Nat) (e : tE), v = some b ∧ G b = some e ∧ ok e) (h : P (tg_up G a (.inl (ty, n, .inr (.inr (.inr (.inr (va_up f j v)))))))) : asR G (some a) i ty v ok P := ⟨a, n, f, j, rfl, hG, by rw [hi]; exact nI_toInt (by omega), hj, hv, h⟩
section CLI
variable {K : tK} {G : tG} {L : tL} {S : tS} {post : Int32 → tG → Prop} {postX : String → tG → Prop}
/-- a list's object is filled -/
theorem c_initRL {pv : tG → Prop} {q v : Nat} {r b n : Int32} (hq : G q = some (.inr (2, [.int 0, .null, .int 0, .int 0]))) (hp : ∀ G', G' q = some (.inr (2, [.int r, .ref v, .int b, .int n])) → (∀ a, a ≠ q → G' a = G a) → pv G') : w_X0_init K pv (some q) r (some v) b n G := by
  refine ⟨⟨q, rfl⟩, pfV_i hq (Nat.le_of_ble_eq_true rfl) (pfV_i (tg_s _ _ _) (Nat.le_of_ble_eq_true rfl) (pfV_i (tg_s _ _ _) (Nat.le_of_ble_eq_true rfl) (pfV_i (tg_s _ _ _) (Nat.le_of_ble_eq_true rfl) ?_)))⟩
  refine hp _ (tg_s _ _ _) (fun a ha => ?_)
  rw [tg_n _ _ ha, tg_n _ _ ha, tg_n _ _ ha, tg_n _ _ ha]
/-- a list of the places from a on, up to e -/
theorem c_pieceOf {pq : Option Nat → tG → Prop} {o r b n a e : Nat} (ho : G o = some (oRL (nI r) (L.2.2.2 r) b n)) (hae : a ≤ e) (hp : ∀ q G', G q = none → G' q = some (oRL (nI r) (L.2.2.2 r) (b + a) (e - a)) → (∀ x, x ≠ q → G' x = G x) → pq (some q) G') : w_X0_pieceOf K pq (some o) (nI a) (nI e) G := by
  intro q hq
  have ho2 : tg_up G q (.inr (2, [.int 0, .null, .int 0, .int 0])) o = some (oRL (nI r) (L.2.2.2 r) b n) := tg_keep ho (fun c => by rw [c, hq] at ho; cases ho)
  refine gfI_i ho2 rfl (gfR_i _ ho2 rfl (gfI_i ho2 rfl ⟨⟨q, rfl⟩, c_initRL (tg_s _ _ _) (fun G' q1 q2 => hp q G' hq ?_ (fun x hx => ?_))⟩))
  · rw [q1, nI_add]
    have e1 : nI e - nI a = nI (e - a) := by
      have e2 : nI e = nI (e - a) + nI a := by rw [nI_add]; congr 1; omega
      rw [e2, Int32.add_sub_cancel]
    rw [e1]
  · rw [q2 x hx, tg_n _ _ hx]
theorem S_part_ok (h : S_ok S) {p j r b n a e : Nat} (hp3 : 3 ≤ p) (hj : j < 7) (hs : S.1 j = some (r, b, n)) (hae : a ≤ e) (he : e ≤ n) : S_ok (S_lst S p (some (r, b + a, e - a))) := by
  refine ⟨fun r' hr' => ?_, fun j' r' b' n' hj' hs' => ?_, h.2.2⟩
  · show ∃ n, (if r' = p then _ else S.1 r') = _ ∧ _
    rw [if_neg (by omega)]; exact h.1 r' hr'
  · have hr0 : ∀ r'', r'' < 3 → (S_lst S p (some (r, b + a, e - a))).1 r'' = S.1 r'' := fun r'' hr'' => by
      show (if r'' = p then _ else S.1 r'') = _
      rw [if_neg (by omega)]
    have hs' : (if j' = p then some (r, b + a, e - a) else S.1 j') = some (r', b', n') := hs'
    by_cases c : j' = p
    · rw [if_pos c] at hs'
      cases hs'
      obtain ⟨h1, n0, h2, h3⟩ := h.2.1 j r b n hj hs
      exact ⟨h1, n0, by rw [hr0 r h1]; exact h2, by omega⟩
    · rw [if_neg c] at hs'
      obtain ⟨h1, n0, h2, h3⟩ := h.2.1 j' r' b' n' hj' hs'
      exact ⟨h1, n0, by rw [hr0 r' h1]; exact h2, h3⟩
def sp_part (S : tS) (p v x y : Int32) : tA := if 3 ≤ p.toInt ∧ p.toInt < 7 then sp_li S (S_at S v) (fun r b n => if inR y 0 (nI n) ∧ inR x 0 y then (0, nI (y.toInt.toNat - x.toInt.toNat), S_lst S p.toInt.toNat (some (r, b + x.toInt.toNat, y.toInt.toNat - x.toInt.toNat))) else (2, 0, S)) else (1, 0, S)
theorem c_part {p v x y : Int32} (h : TwR G L S) (hp : tRes L G post postX (sp_part S p v x y)) : w_X1_part K post postX (some L.1) p v x y G := by
  unfold sp_part at hp
  refine c_checkPart (fun j hj3 hj7 ej => ?_) (fun c => ?_)
  · subst ej
    rw [nI_toInt (by omega), if_pos (by omega)] at hp
    refine c_rcv h (c_listAt h (fun c => ?_) (fun o r b n c1 c2 c3 c4 => ?_))
    · rw [c] at hp; exact (hp G (fr_rf _ _) h).2.1 rfl
    · rw [c1] at hp
      refine gfI_i c2 rfl (c_checkNumber (fun hy => c_checkNumber (fun hx => ?_) (fun hx => ?_)) (fun hy => ?_))
      · simp only [sp_li, if_pos (And.intro hy hx)] at hp
        obtain ⟨e, he, rfl⟩ := nI_of2 (nI_toInt (n := n) (by omega)) hy.1 hy.2
        obtain ⟨a, ha, rfl⟩ := nI_of2 (nI_toInt (n := e) (by omega)) hx.1 hx.2
        rw [nI_nat (by omega), nI_nat (by omega)] at hp
        refine rcv_i c2 (c_pieceOf c2 ha (fun q G1 q0 q1 q2 => ?_))
        have h1 := TwR_fresh h q0 q2
        obtain ⟨⟨lf, k2, k3, k4⟩, -⟩ := TwR_C h1
        have hne : q ≠ L.2.1 := ne_OI q1 k3
        refine gfR_i _ k2 rfl (asR_i k3 rfl hj7 (by omega) (Or.inr ⟨q, _, rfl, q1, ⟨_, rfl⟩⟩) (gfI_i (tg_keep q1 hne) rfl ?_))
        have hj : ∃ j0, j0 < 7 ∧ S.1 j0 = some (r, b, n) := by
          unfold S_at at c1
          by_cases z : 0 ≤ v.toInt ∧ v.toInt < 7
          · rw [if_pos z] at c1; exact ⟨_, by omega, c1⟩
          · rw [if_neg z] at c1; cases c1
        obtain ⟨j0, hj0, hs0⟩ := hj
        refine (hp _ (fr_tr (fr_fresh q0 q2 _) (fr_up _ (Or.inr (Or.inl rfl)))) (TwC_R (TwC_lst (TwR_C h1) k3 (Or.inr ⟨q, r, b + a, e - a, rfl, rfl, q1⟩)) (S_part_ok h.1 hj3 hj0 hs0 ha he))).1 rfl
      · simp only [sp_li, if_neg (fun z : inR y 0 (nI n) ∧ inR x 0 y => hx z.2)] at hp
        exact (hp G (fr_rf _ _) h).2.2 rfl
      · simp only [sp_li, if_neg (fun z : inR y 0 (nI n) ∧ inR x 0 y => hy z.1)] at hp
        exact (hp G (fr_rf _ _) h).2.2 rfl
  · rw [if_neg c] at hp
    exact (hp G (fr_rf _ _) h).2.1 rfl
end CLI
end
section
/-! lay: a new twin; the row's parts go -/
def dpF (S : tS) (row : Nat) : Nat → tS × Int32
  | 0 => (S, 0)
  | k + 1 => match (dpF S row k).1.1 (3 + k) with
    | some (r, _, _) => if r = row then (S_lst (dpF S row k).1 (3 + k) none, (dpF S row k).2 + 1) else dpF S row k
    | none => dpF S row k
theorem dp_none {S : tS} {row k : Nat} (h : (dpF S row k).1.1 (3 + k) = none) : dpF S row (k + 1) = dpF S row k := by
  show (match (dpF S row k).1.1 (3 + k) with | some (r, _, _) => _ | none => _) = _
  rw [h]
theorem dp_no {S : tS} {row k r b n : Nat} (h : (dpF S row k).1.1 (3 + k) = some (r, b, n)) (hr : ¬ r = row) : dpF S row (k + 1) = dpF S row k := by
  show (match (dpF S row k).1.1 (3 + k) with | some (r, _, _) => _ | none => _) = _
  rw [h]; exact if_neg hr
theorem dp_yes {S : tS} {row k r b n : Nat} (h : (dpF S row k).1.1 (3 + k) = some (r, b, n)) (hr : r = row) : dpF S row (k + 1) = (S_lst (dpF S row k).1 (3 + k) none, (dpF S row k).2 + 1) := by
  show (match (dpF S row k).1.1 (3 + k) with | some (r, _, _) => _ | none => _) = _
  rw [h]; exact if_pos hr
/-- what stands behind k steps: what stood, but the row's parts among the first k -/
theorem dp_sub (S : tS) (row : Nat) : ∀ k, (dpF S row k).1.2 = S.2 ∧ ∀ j, ((dpF S row k).1.1 j = S.1 j ∨ ((dpF S row k).1.1 j = none ∧ 3 ≤ j)) ∧ (3 ≤ j → j < 3 + k → ∀ r b n, (dpF S row k).1.1 j = some (r, b, n) → ¬ r = row)
  | 0 => ⟨rfl, fun j => ⟨Or.inl rfl, fun h1 h2 => absurd h2 (by omega)⟩⟩
  | k + 1 => by
    have ih := dp_sub S row k
    cases hc : (dpF S row k).1.1 (3 + k) with
    | none =>
      rw [dp_none hc]
      refine ⟨ih.1, fun j => ⟨(ih.2 j).1, fun h1 h2 r b n e => ?_⟩⟩
      by_cases c : j = 3 + k
      · rw [c, hc] at e; cases e
      · exact (ih.2 j).2 h1 (by omega) r b n e
    | some q =>
      obtain ⟨r, b, n⟩ := q
      by_cases hr : r = row
      · rw [dp_yes hc hr]
        refine ⟨ih.1, fun j => ?_⟩
        show ((if j = 3 + k then none else (dpF S row k).1.1 j) = S.1 j ∨ ((if j = 3 + k then none else (dpF S row k).1.1 j) = none ∧ 3 ≤ j)) ∧ (3 ≤ j → j < 3 + (k + 1) → ∀ r b n, (if j = 3 + k then none else (dpF S row k).1.1 j) = some (r, b, n) → ¬ r = row)
        by_cases c : j = 3 + k
        · simp only [if_pos c]
          exact ⟨Or.inr ⟨trivial, by omega⟩, fun _ _ _ _ _ e => by cases e⟩
        · simp only [if_neg c]
          exact ⟨(ih.2 j).1, fun h1 h2 r b n e => (ih.2 j).2 h1 (by omega) r b n e⟩
      · rw [dp_no hc hr]
        refine ⟨ih.1, fun j => ⟨(ih.2 j).1, fun h1 h2 r' b' n' e => ?_⟩⟩
        by_cases c : j = 3 + k
        · rw [c, hc] at e; cases e; exact hr
        · exact (ih.2 j).2 h1 (by omega) r' b' n' e
section CLJ
variable {K : tK} {G : tG} {L : tL} {S : tS} {post : Int32 → tG → Prop} {postX : String → tG → Prop}
theorem c_dropPartsOf {pk : Int32 → tG → Prop} {row : Nat} (hrow : row < 3) (hb : ∀ j r b n, j < 7 → S.1 j = some (r, b, n) → r < 3) (h : TwC G L S) (hp : ∀ G', fr (clsW L) G G' → TwC G' L (dpF S row 4).1 → pk (dpF S row 4).2 G') : w_X1_dropPartsOf K pk (some L.1) (nI row) G := by
  have main : ∀ k i G1, i + k = 4 → fr (clsW L) G G1 → TwC G1 L (dpF S row i).1 → w_X1_dropPartsOf_4 K pk (k + 1) (some L.1) (nI row) (dpF S row i).2 (nI (3 + i)) G1 := by
    intro k
    induction k with
    | zero =>
      intro i G1 hi hf h1
      show w_X1_dropPartsOf_4_b K pk (w_X1_dropPartsOf_4 K pk 0) (some L.1) (nI row) (dpF S row i).2 (nI (3 + i)) G1
      have e : i = 4 := by omega
      subst e
      obtain ⟨⟨lf, k2, k3, k4⟩, -⟩ := id h1
      exact gfR_i _ k2 rfl (lenA_i k3 ⟨fun _ => hp G1 hf h1, fun c => absurd (show nI 7 ≤ nI 7 from by decide) c⟩)
    | succ k ih =>
      intro i G1 hi hf h1
      show w_X1_dropPartsOf_4_b K pk (w_X1_dropPartsOf_4 K pk (k + 1)) (some L.1) (nI row) (dpF S row i).2 (nI (3 + i)) G1
      obtain ⟨⟨lf, k2, k3, k4⟩, -⟩ := id h1
      refine gfR_i _ k2 rfl (lenA_i k3 ⟨fun c => ?_, fun _ => gfR_i _ k2 rfl (alR_i k3 rfl (j := 3 + i) (by omega) (by omega) ?_)⟩)
      · exact absurd (show nI 7 ≤ nI (3 + i) from c) (nI_ge (by omega) (by omega))
      · rcases k4 (3 + i) (by omega) with ⟨e1, e2⟩ | ⟨o, r, b, n, e1, e2, e3⟩
        · rw [e1]
          refine ⟨fun _ => ?_, fun z => absurd rfl z⟩
          show w_X1_dropPartsOf_4 K pk (k + 1) (some L.1) (nI row) (dpF S row i).2 (nI (3 + i) + 1) G1
          rw [nI_1]
          have := ih (i + 1) G1 (by omega) hf (by rw [dp_none e2]; exact h1)
          rw [dp_none e2] at this
          exact this
        · rw [e1]
          have hr3 : r < 3 := by
            rcases ((dp_sub S row i).2 (3 + i)).1 with q | q
            · rw [q] at e2; exact hb (3 + i) r b n (by omega) e2
            · rw [q.1] at e2; cases e2
          refine ⟨fun z => (by cases z), fun _ => gfI_i e3 rfl ⟨fun c => ?_, fun c => ?_⟩⟩
          · have hne : ¬ r = row := fun q => c (by rw [q])
            show w_X1_dropPartsOf_4 K pk (k + 1) (some L.1) (nI row) (dpF S row i).2 (nI (3 + i) + 1) G1
            rw [nI_1]
            have := ih (i + 1) G1 (by omega) hf (by rw [dp_no e2 hne]; exact h1)
            rw [dp_no e2 hne] at this
            exact this
          · have heq : r = row := (nI_eq (by omega) (by omega)).mp c
            refine gfR_i _ k2 rfl (asR_i k3 rfl (j := 3 + i) (by omega) (by omega) (Or.inl rfl) ?_)
            show w_X1_dropPartsOf_4 K pk (k + 1) (some L.1) (nI row) ((dpF S row i).2 + 1) (nI (3 + i) + 1) _
            rw [nI_1]
            have := ih (i + 1) _ (by omega) (fr_tr hf (fr_up _ (Or.inr (Or.inl rfl)))) (by rw [dp_yes e2 heq]; exact TwC_lst h1 k3 (Or.inl ⟨rfl, rfl⟩))
            rw [dp_yes e2 heq] at this
            exact this
  exact ⟨5, main 4 0 G (by omega) (fr_rf _ _) h⟩
end CLJ
end
section
section CLK
variable {K : tK} {G : tG} {L : tL} {S : tS} {post : Int32 → tG → Prop} {postX : String → tG → Prop}
theorem S_map_1 (S : tS) (r b : Nat) (f : Nat → Int32 → Int32) : ∀ k, (S_map S r b f k).1 = S.1 ∧ (S_map S r b f k).2.2 = S.2.2
  | 0 => ⟨rfl, rfl⟩
  | k + 1 => S_map_1 S r b f k
def S_lay (S : tS) (r m : Nat) : tS := S_lst (S_map S r 0 (fun _ _ => 0) m) r (some (r, 0, m))
def sp_lay (S : tS) (v w : Int32) : tA := match S_tw S v with
  | none => (1, 0, S)
  | some (r, _, _) => if inR w 0 12 then (0, (dpF (S_lay S r w.toInt.toNat) r 4).2, (dpF (S_lay S r w.toInt.toNat) r 4).1) else (2, 0, S)
theorem S_lay_ok {r m : Nat} (h : S_ok S) (h2 : S_ok (S_map S r 0 (fun _ _ => 0) m)) (hr : r < 3) (hm : m ≤ 12) : S_ok (dpF (S_lay S r m) r 4).1 := by
  have hl : ∀ j, (S_lay S r m).1 j = if j = r then some (r, 0, m) else S.1 j := fun j => by
    show (if j = r then _ else (S_map S r 0 (fun _ _ => 0) m).1 j) = _
    rw [(S_map_1 S r 0 (fun _ _ => 0) m).1]
  have hd := dp_sub (S_lay S r m) r 4
  have hrow : ∀ r', r' < 3 → (dpF (S_lay S r m) r 4).1.1 r' = if r' = r then some (r, 0, m) else S.1 r' := fun r' hr' => by
    rcases (hd.2 r').1 with q | q
    · rw [q, hl]
    · exact absurd q.2 (by omega)
  refine ⟨fun r' hr' => ?_, fun j r' b n hj e => ?_, fun r' i hr' hi => ?_⟩
  · rw [hrow r' hr']
    by_cases c : r' = r
    · rw [if_pos c, c]; exact ⟨m, rfl, hm⟩
    · rw [if_neg c]; exact h.1 r' hr'
  · by_cases c3 : j < 3
    · rw [hrow j c3] at e
      by_cases c : j = r
      · rw [if_pos c] at e; cases e
        exact ⟨hr, m, by rw [hrow r hr, if_pos rfl], by omega⟩
      · rw [if_neg c] at e
        obtain ⟨n0, f1, f2⟩ := h.1 j c3
        rw [f1] at e; cases e
        exact ⟨c3, n, by rw [hrow j c3, if_neg c]; exact f1, by omega⟩
    · have hne := (hd.2 j).2 (by omega) (by omega) r' b n e
      rcases (hd.2 j).1 with q | q
      · rw [q, hl, if_neg (by omega)] at e
        obtain ⟨g1, n0, g2, g3⟩ := h.2.1 j r' b n hj e
        exact ⟨g1, n0, by rw [hrow r' g1, if_neg hne]; exact g2, g3⟩
      · rw [q.1] at e; cases e
  · have e : (dpF (S_lay S r m) r 4).1.2 = (S_map S r 0 (fun _ _ => 0) m).2 := hd.1
    rw [show (dpF (S_lay S r m) r 4).1.2.1 = (S_map S r 0 (fun _ _ => 0) m).2.1 from by rw [e]]
    exact h2.2.2 r' i hr' hi
theorem c_lay {v w : Int32} (h : TwR G L S) (hp : tRes L G post postX (sp_lay S v w)) : w_X1_lay K post postX (some L.1) v w G := by
  unfold sp_lay at hp
  refine c_rcv h (c_twinAt h (fun c => ?_) (fun o r n e1 c1 c2 c3 c4 => ?_))
  · rw [c] at hp; exact (hp G (fr_rf _ _) h).2.1 rfl
  · subst e1
    have e2 : S_tw S (nI r) = some (r, 0, n) := by
      unfold S_tw
      rw [nI_toInt (by omega), if_pos (by omega)]; exact c1
    rw [e2] at hp
    refine c_checkNumber (fun hw => ?_) (fun hw => ?_)
    · simp only [if_pos hw] at hp
      obtain ⟨m, hm, rfl⟩ := nI_of2 (M := 12) (n := 12) rfl hw.1 hw.2
      rw [nI_nat (by omega)] at hp
      intro q hq
      have ho2 : tg_up G q (.inr (2, [.int 0, .null, .int 0, .int 0])) o = some (oRL (nI r) (L.2.2.2 r) 0 n) := tg_keep c2 (fun c => by rw [c, hq] at c2; cases c2)
      refine gfR_i _ ho2 rfl ⟨⟨q, rfl⟩, c_initRL (tg_s _ _ _) (fun G1 q1 q2 => ?_)⟩
      have q3 : ∀ a, a ≠ q → G1 a = G a := fun a ha => by rw [q2 a ha, tg_n _ _ ha]
      have h1 := TwR_fresh h hq q3
      have q1 : G1 q = some (oRL (nI r) (L.2.2.2 r) 0 m) := q1
      refine c_writeAll h1 q1 c3 (by omega) (Or.inr ⟨by decide, by decide⟩) (fun G2 f1 h2 o2 => ?_)
      obtain ⟨⟨lf, k2, k3, k4⟩, -⟩ := TwR_C h2
      refine gfR_i _ k2 rfl (asR_i k3 rfl (j := r) (by omega) (by omega) (Or.inr ⟨q, _, rfl, o2, ⟨_, rfl⟩⟩) ?_)
      have h3 := TwC_lst (j := r) (q := some (r, 0, m)) (v := some q) (TwR_C h2) k3 (Or.inr ⟨q, r, 0, m, rfl, rfl, o2⟩)
      obtain ⟨⟨lf3, k23, k33, k43⟩, -⟩ := id h3
      refine rcv_i k23 (c_dropPartsOf (S := S_lay S r m) c3 (fun j r' b' n' hj e => ?_) h3 (fun G4 f4 h4 => ?_))
      · have e : (if j = r then some (r, 0, m) else (S_map S r 0 (fun _ _ => 0) m).1 j) = some (r', b', n') := e
        by_cases c : j = r
        · rw [if_pos c] at e; cases e; exact c3
        · rw [if_neg c, (S_map_1 S r 0 (fun _ _ => 0) m).1] at e
          exact (h.1.2.1 j r' b' n' hj e).1
      · refine (hp G4 (fr_tr (fr_tr (fr_fresh hq q3 _) f1) (fr_tr (fr_up _ (Or.inr (Or.inl rfl))) f4)) (TwC_R h4 (S_lay_ok h.1 h2.1 c3 hm))).1 rfl
    · simp only [if_neg hw] at hp
      exact (hp G (fr_rf _ _) h).2.2 rfl
end CLK
end
section
/-! rotate -/
def fmF (x y : Int32) : Int32 := if 0 ≤ (x ^^^ y) then x - x / y * y else if x - x / y * y = 0 then x - x / y * y else x - x / y * y + y
set_option maxRecDepth 100000 in
theorem fm_tab : ((List.range 199).all fun i => (List.range 12).all fun n => decide (¬ fmF (nI i - nI 99) (nI (n + 1)) < 0) && decide (fmF (nI i - nI 99) (nI (n + 1)) < nI (n + 1))) = true := by decide +kernel
theorem fm_in {x : Int32} {n : Nat} (hx : inR x (-99) 99) (h0 : 0 < n) (hn : n ≤ 12) : ∃ s, s < n ∧ fmF x (nI n) = nI s := by
  have e1 : (99 : Int32).toInt = 99 := rfl
  have e2 : (-99 : Int32).toInt = -99 := rfl
  have h1 := hx.1
  have h2 := hx.2
  rw [i32_lt] at h1
  rw [i32_le] at h2
  have ex : x = nI (x.toInt + 99).toNat - nI 99 := by
    apply Int32.toInt_inj.mp
    rw [nI_sub (by omega) (by omega)]
    omega
  have t := List.all_eq_true.mp (List.all_eq_true.mp fm_tab (x.toInt + 99).toNat (List.mem_range.mpr (by omega))) (n - 1) (List.mem_range.mpr (by omega))
  rw [← ex, show n - 1 + 1 = n by omega, Bool.and_eq_true] at t
  have t1 := of_decide_eq_true t.1
  have t2 := of_decide_eq_true t.2
  obtain ⟨s, hs, e⟩ := nI_of t1
  rw [e, nI_ltI hs (by omega)] at t2
  exact ⟨s, t2, e⟩
section CLL
variable {K : tK} {G : tG} {L : tL} {S : tS} {post : Int32 → tG → Prop} {postX : String → tG → Prop}
theorem c_floorMod {pk : Int32 → tG → Prop} {x y : Int32} (hy : ¬ y = 0) (h : pk (fmF x y) G) : w_J9_floorMod_7cf53 K pk x y G := by
  unfold fmF at h
  refine ⟨hy, fun c => ?_, fun c => ⟨fun d => ?_, fun d => ?_⟩⟩
  · rw [if_pos c] at h; exact h
  · rw [if_neg c, if_pos d] at h; exact h
  · rw [if_neg c, if_neg d] at h; exact h
def roS (S : tS) (r b n s : Nat) : tS := tuF r b n s n (tuF r b s 0 s (tuF r b n 0 n S))
theorem c_rotate {v x : Int32} (h : TwR G L S) (hp : tRes L G post postX (sp_li S (S_at S v) fun r b n => if inR x (-99) 99 then (0, nI n, if n = 0 then S else roS S r b n (fmF x (nI n)).toInt.toNat) else (2, 0, S))) : w_X1_rotate K post postX (some L.1) v x G := by
  refine c_rcv h (c_listAt h (fun c => ?_) (fun o r b n c1 c2 c3 c4 => ?_))
  · rw [c] at hp; exact (hp G (fr_rf _ _) h).2.1 rfl
  · rw [c1] at hp
    refine c_checkNumber (fun hx => ?_) (fun hx => ?_)
    · simp only [sp_li, if_pos hx] at hp
      refine gfI_i c2 rfl ⟨fun c => ?_, fun c => ?_⟩
      · have hn : n = 0 := Decidable.byContradiction fun e => nI_nle (by omega) (by omega) c
        simp only [if_pos hn] at hp
        exact gfI_i c2 rfl ((hp G (fr_rf _ _) h).1 rfl)
      · have hn : ¬ n = 0 := fun e => c (by rw [e]; decide)
        simp only [if_neg hn] at hp
        obtain ⟨s, hs, es⟩ := fm_in hx (by omega) (show n ≤ 12 by omega)
        rw [es, nI_nat (by omega)] at hp
        refine gfI_i c2 rfl (c_floorMod (nI_ne0 (by omega) (by omega)) ?_)
        rw [es]
        refine gfI_i c2 rfl ⟨n + 1, c_turn c3 c4 n 0 n S G (by omega) (by omega) (by omega) h c2 (fun G1 q1 h1 o1 => ?_)⟩
        refine ⟨s + 1, c_turn c3 c4 s 0 s _ G1 (by omega) (by omega) (by omega) h1 o1 (fun G2 q2 h2 o2 => ?_)⟩
        refine gfI_i o2 rfl ⟨n + 1, c_turn c3 c4 n s n _ G2 (by omega) (by omega) (by omega) h2 o2 (fun G3 q3 h3 o3 => ?_)⟩
        exact gfI_i o3 rfl ((hp G3 (fr_tr q1 (fr_tr q2 q3)) h3).1 rfl)
    · simp only [sp_li, if_neg hx] at hp
      exact (hp G (fr_rf _ _) h).2.2 rfl
end CLL
end
section
/-! the constructor -/
def S_0 : tS := ((fun j => if j < 3 then some (j, 0, 4) else none), (fun _ _ => 0), 0, 0)
theorem S_0_ok : S_ok S_0 := by
  refine ⟨fun r hr => ⟨4, if_pos hr, by omega⟩, fun j r b n hj e => ?_, fun r i _ _ => (show okV 0 from Or.inr ⟨by decide, by decide⟩)⟩
  have e : (if j < 3 then some (j, 0, 4) else none) = some (r, b, n) := e
  by_cases c : j < 3
  · rw [if_pos c] at e; cases e
    exact ⟨c, 4, if_pos c, by omega⟩
  · rw [if_neg c] at e; cases e
def iniI (G0 G : tG) (x la sp i : Nat) (va : Nat → Nat) (lf : Nat → Option Nat) : Prop := fr (fun q => q = x) G0 G ∧ (G0 la = none ∧ G0 sp = none) ∧ G x = some (oTw la sp 0 0) ∧ G la = some (eL lf) ∧ G sp = some (eI 12 fun _ => 0) ∧ (∀ r, r < i → G0 (va r) = none ∧ G (va r) = some (eI 12 fun _ => 0) ∧ va r ≠ sp ∧ ∃ o, lf r = some o ∧ G o = some (oRL (nI r) (va r) 0 4)) ∧ (∀ r r', r < i → r' < i → va r = va r' → r = r') ∧ ∀ j, i ≤ j → lf j = none
theorem fr_none {P : Nat → Prop} {G G1 : tG} (h : fr P G G1) {q : Nat} (hq : G1 q = none) (hp : ¬ P q) : G q = none := by
  cases e : G q with
  | none => rfl
  | some v => rw [h q v e hp] at hq; cases hq
theorem iniI_R {G0 G : tG} {x la sp : Nat} {va : Nat → Nat} {lf : Nat → Option Nat} (h : iniI G0 G x la sp 3 va lf) : TwR G (x, la, sp, va) S_0 := by
  obtain ⟨-, -, h1, h2, h3, h4, h5, h6⟩ := h
  refine ⟨S_0_ok, ⟨lf, h1, h2, fun j hj => ?_⟩, ⟨_, h3⟩, fun r hr => (h4 r hr).2.1, fun r hr => (h4 r hr).2.2.1, h5⟩
  by_cases c : j < 3
  · obtain ⟨o, e1, e2⟩ := (h4 j c).2.2.2
    exact Or.inr ⟨o, j, 0, 4, e1, if_pos c, e2⟩
  · exact Or.inl ⟨h6 j (by omega), if_neg c⟩
theorem c_init1 {K : tK} {G : tG} {x : Nat} {pv : tG → Prop} (hx : G x = some (.inr (3, [.null, .null, .int 0, .int 0]))) (hp : ∀ G' L, L.1 = x → TwR G' L S_0 → fr (fun q => q = x) G G' → (∀ q, clsW L q → q = x ∨ G q = none) → pv G') : w_X1_init K pv (some x) G := by
  have main : ∀ k i G1 la sp va lf, i + k = 3 → iniI G G1 x la sp i va lf → w_X1_init_33 K pv (k + 1) (2 + 2 * i) (19 + 16 * i) (some x) (nI i) G1 := by
    intro k
    induction k with
    | zero =>
      intro i G1 la sp va lf hi h
      show w_X1_init_33_b K pv (w_X1_init_33 K pv 0) (2 + 2 * i) (19 + 16 * i) (some x) (nI i) G1
      have e : i = 3 := by omega
      subst e
      refine ⟨fun _ => hp G1 (x, la, sp, va) rfl (iniI_R h) h.1 ?_, fun c => absurd (by decide) c⟩
      rintro q (c | c | c | c | c | c)
      · exact Or.inl c
      · exact Or.inr (c ▸ h.2.1.1)
      · exact Or.inr (c ▸ h.2.1.2)
      · exact Or.inr (c ▸ (h.2.2.2.2.2.1 0 (by omega)).1)
      · exact Or.inr (c ▸ (h.2.2.2.2.2.1 1 (by omega)).1)
      · exact Or.inr (c ▸ (h.2.2.2.2.2.1 2 (by omega)).1)
    | succ k ih =>
      intro i G1 la sp va lf hi h
      show w_X1_init_33_b K pv (w_X1_init_33 K pv (k + 1)) (2 + 2 * i) (19 + 16 * i) (some x) (nI i) G1
      obtain ⟨f0, ⟨n1, n2⟩, h1, h2, h3, h4, h5, h6⟩ := h
      refine ⟨fun c => absurd (show nI 3 ≤ nI i from c) (nI_ge (by omega) (by omega)), fun _ => gfR_i _ h1 rfl (lenA_i h2 ⟨fun c => absurd (show nI 7 ≤ nI i from c) (nI_ge (by omega) (by omega)), fun _ => gfR_i _ h1 rfl ⟨⟨by omega, by omega⟩, fun q hq => ⟨⟨by omega, by omega⟩, 12, rfl, by omega, fun a ha => ⟨⟨q, rfl⟩, ?_⟩⟩⟩⟩)⟩
      have hqa : a ≠ q := fun c => by rw [c, tg_s] at ha; cases ha
      have ha1 : G1 a = none := by rw [tg_n _ _ hqa] at ha; exact ha
      have hqx : q ≠ x := fun c => by rw [c, h1] at hq; cases hq
      have hax : a ≠ x := fun c => by rw [c, h1] at ha1; cases ha1
      refine c_initRL (tg_keep (tg_s _ _ _) (fun c => hqa c.symm)) (fun G2 q1 q2 => ?_)
      have k2 : ∀ y e, G1 y = some e → G2 y = some e := fun y e hy => by
        have y1 : y ≠ q := fun c => by rw [c, hq] at hy; cases hy
        have y2 : y ≠ a := fun c => by rw [c, ha1] at hy; cases hy
        rw [q2 y y1, tg_n _ _ y2, tg_n _ _ y1]; exact hy
      have ka : G2 a = some (eI 12 fun _ => 0) := by rw [q2 a hqa, tg_s]
      have q1 : G2 q = some (oRL (nI i) a 0 4) := q1
      have h22 := k2 _ _ h2
      refine asR_i h22 rfl (j := i) (by omega) (by omega) (Or.inr ⟨q, _, rfl, q1, ⟨_, rfl⟩⟩) ?_
      have kk : ∀ y e, G2 y = some e → y ≠ la → tg_up G2 la (eL (va_up lf i (some q))) y = some e := fun y e hy hn => tg_keep hy hn
      have goal := ih (i + 1) (tg_up G2 la (eL (va_up lf i (some q)))) la sp (fun r => if r = i then a else va r) (va_up lf i (some q)) (by omega) ?_
      · rw [show 2 + 2 * i + 1 + 1 = 2 + 2 * (i + 1) by omega, show 19 + 16 * i + 4 + 12 = 19 + 16 * (i + 1) by omega, nI_1]
        exact goal
      · have hasp : a ≠ sp := fun c => by rw [c, h3] at ha1; cases ha1
        refine ⟨?_, ⟨n1, n2⟩, kk _ _ (k2 _ _ h1) (ne_OI h1 h2), tg_s _ _ _, kk _ _ (k2 _ _ h3) (ne_of_G h3 h2 (fun e => by cases e)), fun r hr => ?_, fun r r' hr hr' e => ?_, fun j hj => ?_⟩
        · intro y e hy hn
          have hy1 := f0 y e hy hn
          exact kk _ _ (k2 _ _ hy1) (fun c => by rw [c, n1] at hy; cases hy)
        · show G (if r = i then a else va r) = none ∧ tg_up G2 la _ (if r = i then a else va r) = _ ∧ (if r = i then a else va r) ≠ sp ∧ ∃ o, va_up lf i (some q) r = some o ∧ tg_up G2 la _ o = some (oRL (nI r) (if r = i then a else va r) 0 4)
          by_cases c : r = i
          · subst c
            simp only [if_true]
            refine ⟨fr_none f0 ha1 hax, kk _ _ ka (ne_of_G ka h22 (fun e => by cases e)), hasp, q, va_up_s _ _ _, kk _ _ q1 (ne_OI q1 h22)⟩
          · simp only [if_neg c]
            obtain ⟨g1, g2, g3, o, g4, g5⟩ := h4 r (by omega)
            exact ⟨g1, kk _ _ (k2 _ _ g2) (ne_of_G g2 h2 (fun e => by cases e)), g3, o, by rw [va_up_n _ _ c]; exact g4, kk _ _ (k2 _ _ g5) (ne_OI g5 h2)⟩
        · have e : (if r = i then a else va r) = (if r' = i then a else va r') := e
          have hva : ∀ s, s < i → va s ≠ a := fun s hs c => by
            have g2 := (h4 s hs).2.1
            rw [c, ha1] at g2; cases g2
          by_cases c : r = i
          · by_cases c' : r' = i
            · rw [c, c']
            · rw [if_pos c, if_neg c'] at e
              exact absurd e.symm (hva r' (by omega))
          · by_cases c' : r' = i
            · rw [if_neg c, if_pos c'] at e
              exact absurd e (hva r (by omega))
            · rw [if_neg c, if_neg c'] at e
              exact h5 r r' (by omega) (by omega) e
        · rw [va_up_n _ _ (by omega)]; exact h6 j (by omega)
  refine ⟨⟨x, rfl⟩, ⟨by omega, by omega⟩, 7, rfl, by omega, fun la hla => ?_⟩
  have x1 : x ≠ la := fun c => by rw [← c, hx] at hla; cases hla
  refine pfV_i (tg_keep hx x1) (Nat.le_of_ble_eq_true rfl) ⟨⟨by omega, by omega⟩, 12, rfl, by omega, fun sp hsp => ?_⟩
  have x2 : x ≠ sp := fun c => by rw [← c, tg_s] at hsp; cases hsp
  have s1 : sp ≠ la := fun c => by rw [c, tg_n _ _ (fun z => x1 z.symm), tg_s] at hsp; cases hsp
  have sp0 : G sp = none := by rw [tg_n _ _ (fun z => x2 z.symm), tg_n _ _ s1] at hsp; exact hsp
  refine pfV_i (tg_keep (tg_s _ _ _) x2) (Nat.le_of_ble_eq_true rfl) (pfV_i (tg_s _ _ _) (Nat.le_of_ble_eq_true rfl) (pfV_i (tg_s _ _ _) (Nat.le_of_ble_eq_true rfl) ⟨4, ?_⟩))
  refine main 3 0 _ la sp (fun _ => 0) (fun _ => none) (by omega) ⟨?_, ⟨hla, sp0⟩, tg_s _ _ _, ?_, ?_, fun r hr => absurd hr (by omega), fun r r' hr => absurd hr (by omega), fun _ _ => rfl⟩
  · intro y e hy hn
    have hn : y ≠ x := hn
    have y1 : y ≠ la := fun c => by rw [c, hla] at hy; cases hy
    have y2 : y ≠ sp := fun c => by rw [c, sp0] at hy; cases hy
    rw [tg_n _ _ hn, tg_n _ _ hn, tg_n _ _ hn, tg_n _ _ y2, tg_n _ _ hn, tg_n _ _ y1]; exact hy
  · have l1 : la ≠ x := fun c => x1 c.symm
    have l2 : la ≠ sp := fun c => s1 c.symm
    rw [tg_n _ _ l1, tg_n _ _ l1, tg_n _ _ l1, tg_n _ _ l2, tg_n _ _ l1, tg_s]
  · have l1 : sp ≠ x := fun c => x2 c.symm
    rw [tg_n _ _ l1, tg_n _ _ l1, tg_n _ _ l1, tg_s]
end
section
/-! isSound: pieces -/
theorem nI_subN {a b : Nat} (h : b ≤ a) : nI a - nI b = nI (a - b) := by
  have e : nI a = nI (a - b) + nI b := by rw [nI_add]; congr 1; omega
  rw [e, Int32.add_sub_cancel]
section SND
variable {K : tK} {G : tG} {o v b n N : Nat} {r : Int32} {f : Nat → Int32}
theorem c_sameBoth {pk : Int32 → tG → Prop} (ho : G o = some (oRL r v b n)) (hv : G v = some (eI N f)) (hN : N < 2 ^ 31) (hb : b + n ≤ N) (h : pk 1 G) : w_X1_isSameBothWays K pk (some o) G := by
  have main : ∀ k i, i + k = n → w_X1_isSameBothWays_2 K pk (k + 1) (some o) (nI i) G := by
    intro k
    induction k with
    | zero =>
      intro i hi
      show w_X1_isSameBothWays_2_b K pk (w_X1_isSameBothWays_2 K pk 0) (some o) (nI i) G
      exact gfI_i ho rfl ⟨fun _ => ⟨by decide, h⟩, fun c => absurd (nI_le (by omega) (by omega)) c⟩
    | succ k ih =>
      intro i hi
      show w_X1_isSameBothWays_2_b K pk (w_X1_isSameBothWays_2 K pk (k + 1)) (some o) (nI i) G
      have e1 : (0 : Int32) + nI i = nI i := Int32.zero_add _
      have e2 : nI n - 1 - (nI n - 1 - nI i) = nI i := by
        have q : nI n - 1 = nI (n - 1) := by
          have q2 : n = n - 1 + 1 := by omega
          rw [q2, nI_pred]; congr 1
        rw [q, nI_subN (by omega), nI_subN (by omega)]
        congr 1; omega
      refine gfI_i ho rfl ⟨fun c => absurd c (nI_ge (by omega) (by omega)), fun _ => ⟨fun _ => gfI_i ho rfl (gfI_i ho rfl ⟨fun z => absurd z (by decide), fun _ => ?_⟩), fun z => absurd rfl z⟩⟩
      refine rcv_i ho (l_read ho hv e1 (by omega) hN (rcv_i ho (l_read ho hv e2 (by omega) hN ⟨fun _ => ?_, fun c => absurd rfl c⟩)))
      rw [nI_1]
      exact ih (i + 1) (by omega)
  exact ⟨n + 1, main n 0 (by omega)⟩
/-- codeOf between any two places -/
theorem c_codeFrom {pk : Int32 → tG → Prop} {a m : Nat} (ho : G o = some (oRL r v b n)) (hv : G v = some (eI N f)) (hN : N < 2 ^ 31) (hb : b + (a + m) ≤ N) (h : pk (coF (fun i => f (b + (a + i))) m) G) : w_X1_codeOf K pk (some o) (nI a) (nI (a + m)) G := by
  have main : ∀ k i, i + k = m → w_X1_codeOf_5 K pk (k + 1) (some o) (nI (a + m)) (coF (fun i => f (b + (a + i))) i) (nI (a + i)) G := by
    intro k
    induction k with
    | zero =>
      intro i hi
      show w_X1_codeOf_5_b K pk (w_X1_codeOf_5 K pk 0) (some o) (nI (a + m)) (coF (fun i => f (b + (a + i))) i) (nI (a + i)) G
      have e : i = m := by omega
      subst e
      exact ⟨fun _ => h, fun c => absurd (nI_le (by omega) (by omega)) c⟩
    | succ k ih =>
      intro i hi
      show w_X1_codeOf_5_b K pk (w_X1_codeOf_5 K pk (k + 1)) (some o) (nI (a + m)) (coF (fun i => f (b + (a + i))) i) (nI (a + i)) G
      refine ⟨fun c => absurd c (nI_ge (by omega) (by omega)), fun _ => rcv_i ho (l_read ho hv rfl (by omega) hN (c_numberOf ?_))⟩
      rw [nI_1]
      exact ih (i + 1) (by omega)
  exact ⟨m + 1, main m 0 (by omega)⟩
end SND
end
section
section SNO
variable {K : tK} {G : tG} {o o2 v b n n0 N : Nat} {r : Int32} {f : Nat → Int32}
/-- a list lies in its row -/
theorem c_isInRow {pk : Int32 → tG → Prop} (ho : G o = some (oRL r v b n)) (ho2 : G o2 = some (oRL r v 0 n0)) (hv : G v = some (eI N f)) (hN : N < 2 ^ 31) (hb : b + n ≤ n0) (hn0 : n0 ≤ N) (h : pk 1 G) : w_X1_isInRow K pk (some o) (some o2) G := by
  have main : ∀ k i, i + k = n → w_X1_isInRow_20 K pk (k + 1) (some o) (some o2) (nI i) G := by
    intro k
    induction k with
    | zero =>
      intro i hi
      show w_X1_isInRow_20_b K pk (w_X1_isInRow_20 K pk 0) (some o) (some o2) (nI i) G
      refine gfI_i ho rfl ⟨fun _ => gfI_i ho rfl ?_, fun c => absurd (nI_le (by omega) (by omega)) c⟩
      refine c_codeOf ho hv hN (by omega) (gfI_i ho rfl (gfI_i ho rfl (gfI_i ho rfl ?_)))
      rw [nI_add]
      refine c_codeFrom ho2 hv hN (by omega) ⟨fun c => absurd ?_ c, fun _ => ⟨by decide, h⟩⟩
      simp only [Nat.zero_add]
    | succ k ih =>
      intro i hi
      show w_X1_isInRow_20_b K pk (w_X1_isInRow_20 K pk (k + 1)) (some o) (some o2) (nI i) G
      refine gfI_i ho rfl ⟨fun c => absurd c (nI_ge (by omega) (by omega)), fun _ => ?_⟩
      refine rcv_i ho (l_read ho hv rfl (by omega) hN (gfI_i ho rfl (rcv_i ho2 (l_read ho2 hv (nI_add b i) (by omega) hN ⟨fun _ => ?_, fun c => absurd ?_ c⟩))))
      · rw [nI_1]
        exact ih (i + 1) (by omega)
      · simp only [Nat.zero_add]
  refine gfI_i ho rfl (gfI_i ho rfl (gfI_i ho2 rfl ⟨fun _ => ⟨n + 1, main n 0 (by omega)⟩, fun c => absurd ?_ c⟩))
  rw [nI_add]
  exact nI_le hb (by omega)
end SNO
end
section
theorem haF_eq (f g : Nat → Int32) : ∀ k i, (∀ j, i ≤ j → j < i + k → f j = g j) → haF f g k i = 1
  | 0, _, _ => rfl
  | k + 1, i, h => by
    show (if f i = g i then haF f g k (i + 1) else 0) = 1
    rw [if_pos (h i (by omega) (by omega))]
    exact haF_eq f g k (i + 1) (fun j h1 h2 => h j (by omega) (by omega))
theorem TwR_spare {G : tG} {L : tL} {S : tS} (h : TwR G L S) (g' : Nat → Int32) : TwR (tg_up G L.2.2.1 (eI 12 g')) L S := by
  obtain ⟨h1, ⟨lf, h2, h3, h4⟩, ⟨g, h5⟩, h6, h7, h8⟩ := h
  refine ⟨h1, ⟨lf, tg_keep h2 (ne_OI h2 h5), tg_keep h3 (ne_of_G h3 h5 (fun e => by cases e)), fun j hj => ?_⟩, ⟨g', tg_s _ _ _⟩, fun r hr => tg_keep (h6 r hr) (h7 r hr), h7, h8⟩
  rcases h4 j hj with c | ⟨o, r', b, n, c1, c2, c3⟩
  · exact Or.inl c
  · exact Or.inr ⟨o, r', b, n, c1, c2, tg_keep c3 (ne_OI c3 h5)⟩
section SNP
variable {K : tK} {G : tG} {L : tL} {S : tS}
theorem c_isEqualToOwn {pk : Int32 → tG → Prop} {o r b n : Nat} (h : TwR G L S) (ho : G o = some (oRL (nI r) (L.2.2.2 r) b n)) (hr : r < 3) (hn : b + n ≤ 12) (hp : ∀ G', fr (clsW L) G G' → TwR G' L S → G' o = some (oRL (nI r) (L.2.2.2 r) b n) → pk 1 G') : w_X1_isEqualToOwn K pk (some L.1) (some o) G := by
  intro q hq
  have ho2 : tg_up G q (.inr (2, [.int 0, .null, .int 0, .int 0])) o = some (oRL (nI r) (L.2.2.2 r) b n) := tg_keep ho (fun c => by rw [c, hq] at ho; cases ho)
  have h0 : TwR (tg_up G q (.inr (2, [.int 0, .null, .int 0, .int 0]))) L S := TwR_fresh h hq (fun a ha => tg_n _ _ ha)
  obtain ⟨⟨lf, k2, k3, k4⟩, -⟩ := TwR_C h0
  refine gfR_i _ k2 rfl (gfI_i ho2 rfl ⟨⟨q, rfl⟩, c_initRL (tg_s _ _ _) (fun G1 q1 q2 => ?_)⟩)
  have q3 : ∀ a, a ≠ q → G1 a = G a := fun a ha => by rw [q2 a ha, tg_n _ _ ha]
  have h1 := TwR_fresh h hq q3
  have q1 : G1 q = some (oRL (-1) L.2.2.1 0 n) := q1
  have hoq : o ≠ q := fun c => by rw [c, hq] at ho; cases ho
  have o1 : G1 o = some (oRL (nI r) (L.2.2.2 r) b n) := by rw [q3 o hoq]; exact ho
  have main : ∀ k i G2 g, i + k = n → fr (clsW L) G G2 → TwR G2 L S → G2 o = some (oRL (nI r) (L.2.2.2 r) b n) → G2 q = some (oRL (-1) L.2.2.1 0 n) → G2 L.2.2.1 = some (eI 12 g) → (∀ j, j < i → g j = S.2.1 r (b + j)) → w_X1_isEqualToOwn_20 K pk (k + 1) (some o) (some q) (nI i) G2 := by
    intro k
    induction k with
    | zero =>
      intro i G2 g hi hf h2 o2 p2 s2 hg
      show w_X1_isEqualToOwn_20_b K pk (w_X1_isEqualToOwn_20 K pk 0) (some o) (some q) (nI i) G2
      have e : i = n := by omega
      subst e
      refine gfI_i o2 rfl ⟨fun _ => ?_, fun c => absurd (nI_le (by omega) (by omega)) c⟩
      have hv := h2.2.2.2.1 r hr
      refine c_areSame o2 hv (by decide) p2 s2 (by decide) (by omega) (by omega) ?_
      rw [if_pos rfl, haF_eq _ _ _ _ (fun j _ hj => by simp only [Nat.zero_add]; exact (hg j (by omega)).symm)]
      refine ⟨fun c => absurd c (by decide), fun _ => ?_⟩
      refine c_areSame p2 s2 (by decide) o2 hv (by decide) (by omega) (by omega) ?_
      rw [if_pos rfl, haF_eq _ _ _ _ (fun j _ hj => by simp only [Nat.zero_add]; exact hg j (by omega))]
      exact ⟨fun c => absurd c (by decide), fun _ => ⟨by decide, hp G2 hf h2 o2⟩⟩
    | succ k ih =>
      intro i G2 g hi hf h2 o2 p2 s2 hg
      show w_X1_isEqualToOwn_20_b K pk (w_X1_isEqualToOwn_20 K pk (k + 1)) (some o) (some q) (nI i) G2
      refine gfI_i o2 rfl ⟨fun c => absurd c (nI_ge (by omega) (by omega)), fun _ => rcv_i o2 (l_read o2 (h2.2.2.2.1 r hr) rfl (by omega) (by omega) (rcv_i p2 (l_write p2 s2 rfl (by omega) (by omega) ?_)))⟩
      rw [nI_1]
      refine ih (i + 1) _ _ (by omega) (fr_tr hf (fr_up _ (Or.inr (Or.inr (Or.inl rfl))))) (TwR_spare h2 _) (tg_keep o2 (ne_OI o2 s2)) (tg_keep p2 (ne_OI p2 s2)) (tg_s _ _ _) (fun j hj => ?_)
      simp only [upd, Nat.zero_add]
      by_cases c : j = i
      · rw [if_pos c, c]
      · rw [if_neg c]; exact hg j (by omega)
  obtain ⟨g, hg⟩ := h1.2.2.1
  exact ⟨n + 1, main n 0 G1 g (by omega) (fr_fresh hq q3 _) h1 o1 q1 hg (fun j hj => absurd hj (by omega))⟩
end SNP
end
section
theorem fpF_at (f : Nat → Int32) (x : Int32) : ∀ k i j, i ≤ j → j < i + k → f j = x → ∃ p, i ≤ p ∧ p ≤ j ∧ fpF f x k i = nI p ∧ f p = x
  | 0, i, j, h1, h2, _ => absurd h2 (by omega)
  | k + 1, i, j, h1, h2, h => by
    by_cases c : f i = x
    · exact ⟨i, by omega, h1, by show (if f i = x then nI i else _) = _; rw [if_pos c], c⟩
    · have hne : j ≠ i := fun e => c (e ▸ h)
      obtain ⟨p, g1, g2, g3, g4⟩ := fpF_at f x k (i + 1) j (by omega) (by omega) h
      exact ⟨p, by omega, g2, by show (if f i = x then nI i else _) = _; rw [if_neg c]; exact g3, g4⟩
theorem lpF_at (f : Nat → Int32) (x : Int32) : ∀ k j, j < k → f j = x → ∃ p, j ≤ p ∧ p < k ∧ lpF f x k = nI p ∧ f p = x
  | 0, j, h2, _ => absurd h2 (by omega)
  | k + 1, j, h2, h => by
    by_cases c : f k = x
    · exact ⟨k, by omega, by omega, by show (if f k = x then nI k else _) = _; rw [if_pos c], c⟩
    · have hne : j ≠ k := fun e => c (e ▸ h)
      obtain ⟨p, g1, g2, g3, g4⟩ := lpF_at f x k j (by omega) h
      exact ⟨p, g1, by omega, by show (if f k = x then nI k else _) = _; rw [if_neg c]; exact g3, g4⟩
section SNQ
variable {K : tK} {G : tG} {o v b n N : Nat} {r : Int32} {f : Nat → Int32}
theorem c_firstsLasts {pk : Int32 → tG → Prop} (ho : G o = some (oRL r v b n)) (hv : G v = some (eI N f)) (hN : N < 2 ^ 31) (hb : b + n ≤ N) (h : pk 1 G) : w_X1_areFirstsAndLasts K pk (some o) G := by
  have main : ∀ k i, i + k = n → w_X1_areFirstsAndLasts_2 K pk (k + 1) (some o) (nI i) G := by
    intro k
    induction k with
    | zero =>
      intro i hi
      show w_X1_areFirstsAndLasts_2_b K pk (w_X1_areFirstsAndLasts_2 K pk 0) (some o) (nI i) G
      exact gfI_i ho rfl ⟨fun _ => ⟨by decide, h⟩, fun c => absurd (nI_le (by omega) (by omega)) c⟩
    | succ k ih =>
      intro i hi
      show w_X1_areFirstsAndLasts_2_b K pk (w_X1_areFirstsAndLasts_2 K pk (k + 1)) (some o) (nI i) G
      refine gfI_i ho rfl ⟨fun c => absurd c (nI_ge (by omega) (by omega)), fun _ => rcv_i ho (l_read ho hv rfl (by omega) hN (c_firstPlace ho hv hN hb (c_lastPlace ho hv hN hb ?_)))⟩
      obtain ⟨p, p1, p2, p3, p4⟩ := fpF_at (fun i => f (b + i)) (f (b + i)) n 0 i (by omega) (by omega) rfl
      obtain ⟨q, q1, q2, q3, q4⟩ := lpF_at (fun i => f (b + i)) (f (b + i)) n i (by omega) rfl
      rw [p3, q3]
      refine rcv_i ho (l_isPlace ho (by omega) (by omega) ?_)
      rw [if_pos (by omega)]
      refine ⟨fun c => absurd c (by decide), fun _ => ⟨fun c => absurd c (nI_nlt (by omega) (by omega)), fun _ => rcv_i ho (l_read ho hv rfl (by omega) hN ⟨fun c => absurd p4 c, fun _ => ?_⟩)⟩⟩
      refine rcv_i ho (l_isPlace ho (by omega) (by omega) ?_)
      rw [if_pos (by omega)]
      refine ⟨fun c => absurd c (by decide), fun _ => ⟨fun c => absurd c (nI_nlt (by omega) (by omega)), fun _ => rcv_i ho (l_read ho hv rfl (by omega) hN ⟨fun _ => ?_, fun c => absurd q4 c⟩)⟩⟩
      rw [nI_1]
      exact ih (i + 1) (by omega)
  exact ⟨n + 1, main n 0 (by omega)⟩
end SNQ
section CLQ
variable {K : tK} {G : tG} {L : tL} {S : tS}
theorem c_isSoundList {pk : Int32 → tG → Prop} {o r b n j : Nat} (h : TwR G L S) (hj : j < 7) (hs : S.1 j = some (r, b, n)) (ho : G o = some (oRL (nI r) (L.2.2.2 r) b n)) (hr : r < 3) (hn : b + n ≤ 12) (hp : ∀ G', fr (clsW L) G G' → TwR G' L S → pk 1 G') : w_X1_isSoundList K pk (some L.1) (some o) G := by
  obtain ⟨-, n0, e0, le0⟩ := h.1.2.1 j r b n hj hs
  refine gfI_i ho rfl (c_rcv h (c_listOrNull h (fun c => ?_) (fun o2 r2 b2 n2 d1 d2 d3 d4 => ?_)))
  · rw [S_at_nI S (by omega), e0] at c; cases c
  · rw [S_at_nI S (by omega), e0] at d1
    cases d1
    refine ⟨fun c => (by cases c), fun _ => c_isInRow ho d2 (h.2.2.2.1 r hr) (by decide) le0 (by omega) ⟨fun c => absurd c (by decide), fun _ => ?_⟩⟩
    refine c_rcv h (c_isEqualToOwn h ho hr hn (fun G1 f1 h1 o1 => ⟨fun c => absurd c (by decide), fun _ => ?_⟩))
    have hv := h1.2.2.2.1 r hr
    refine c_sameBoth o1 hv (by decide) hn ⟨fun c => absurd c (by decide), fun _ => ?_⟩
    exact c_firstsLasts o1 hv (by decide) hn ⟨fun c => absurd c (by decide), fun _ => ⟨by decide, hp G1 f1 h1⟩⟩
theorem c_isSound {pk : Int32 → tG → Prop} (h : TwR G L S) (hp : ∀ G', fr (clsW L) G G' → TwR G' L S → pk 1 G') : w_X1_isSound K pk (some L.1) G := by
  have main : ∀ k i nc ns G1, i + k = 7 → nc ≤ i → ns ≤ 4 * i → fr (clsW L) G G1 → TwR G1 L S → w_X1_isSound_2 K pk (k + 1) nc ns (some L.1) (nI i) G1 := by
    intro k
    induction k with
    | zero =>
      intro i nc ns G1 hi hc hs hf h1
      show w_X1_isSound_2_b K pk (w_X1_isSound_2 K pk 0) nc ns (some L.1) (nI i) G1
      have e : i = 7 := by omega
      subst e
      exact ⟨fun _ => ⟨by decide, hp G1 hf h1⟩, fun c => absurd (by decide) c⟩
    | succ k ih =>
      intro i nc ns G1 hi hc hs hf h1
      show w_X1_isSound_2_b K pk (w_X1_isSound_2 K pk (k + 1)) nc ns (some L.1) (nI i) G1
      refine ⟨fun c => absurd (show nI 7 ≤ nI i from c) (nI_ge (by omega) (by omega)), fun _ => c_rcv h1 (c_listOrNull h1 (fun c => ⟨fun _ => ?_, fun z => absurd rfl z⟩) (fun o r b n d1 d2 d3 d4 => ⟨fun z => (by cases z), fun _ => ⟨⟨by omega, by omega⟩, c_rcv h1 (c_isSoundList h1 (j := i) (by omega) (by rw [S_at_nI S (by omega)] at d1; exact d1) d2 d3 d4 (fun G2 f2 h2 => ⟨fun _ => ?_, fun z => absurd z (by decide)⟩))⟩⟩))⟩
      · show w_X1_isSound_2 K pk (k + 1) nc ns (some L.1) (nI i + 1) G1
        rw [nI_1]
        exact ih (i + 1) nc ns G1 (by omega) (by omega) (by omega) hf h1
      · show w_X1_isSound_2 K pk (k + 1) (nc + 1) (ns + 4) (some L.1) (nI i + 1) G2
        rw [nI_1]
        exact ih (i + 1) (nc + 1) (ns + 4) G2 (by omega) (by omega) (by omega) (fr_tr hf f2) h2
  exact ⟨8, main 7 0 0 0 G (by omega) (by omega) (by omega) (fr_rf _ _) h⟩
end CLQ
end
section
/-! digest: pieces -/
def mxF (c v : Int64) : Int64 := c * 31 + v
def mrF (f : Nat → Int32) (c : Int64) : Nat → Int64
  | 0 => c
  | k + 1 => mxF (mrF f c k) (f k).toInt64
section CLR
variable {K : tK} {G : tG} {L : tL} {S : tS} {postX : String → tG → Prop}
theorem c_mixedWithRow {pk : Int64 → tG → Prop} {i : Nat} {c : Int64} (h : TwR G L S) (hi : i < 3) (hp : ∀ n, S.1 i = some (i, 0, n) → pk (mrF (S.2.1 i) (mxF c (nI n).toInt64) n) G) : w_X1_mixedWithRow K pk postX (some L.1) c (nI i) G := by
  refine c_rcv h (c_twinAt h (fun z => ?_) (fun o r n e1 c1 c2 c3 c4 => ?_))
  · exfalso
    unfold S_tw at z
    rw [nI_toInt (by omega), if_pos (by omega)] at z
    obtain ⟨n, e, -⟩ := h.1.1 i hi
    have z : S.1 i = none := z
    rw [z] at e; cases e
  · have e : i = r := (nI_eq (by omega) (by omega)).mp e1
    subst e
    have hp := hp n c1
    have main : ∀ k j, j + k = n → w_X1_mixedWithRow_22 K pk postX (k + 1) (some o) (mrF (S.2.1 i) (mxF c (nI n).toInt64) j) (nI j) G := by
      intro k
      induction k with
      | zero =>
        intro j hj
        show w_X1_mixedWithRow_22_b K pk postX (w_X1_mixedWithRow_22 K pk postX 0) (some o) (mrF (S.2.1 i) (mxF c (nI n).toInt64) j) (nI j) G
        have e : j = n := by omega
        subst e
        exact gfI_i c2 rfl ⟨fun _ => hp, fun z => absurd (nI_le (by omega) (by omega)) z⟩
      | succ k ih =>
        intro j hj
        show w_X1_mixedWithRow_22_b K pk postX (w_X1_mixedWithRow_22 K pk postX (k + 1)) (some o) (mrF (S.2.1 i) (mxF c (nI n).toInt64) j) (nI j) G
        refine gfI_i c2 rfl ⟨fun z => absurd z (nI_ge (by omega) (by omega)), fun _ => rcv_i c2 (l_read c2 (h.2.2.2.1 i hi) rfl (by omega) (by omega) ?_)⟩
        show w_X1_mixedWithRow_22 K pk postX (k + 1) (some o) (mxF (mrF (S.2.1 i) (mxF c (nI n).toInt64) j) (S.2.1 i (0 + j)).toInt64) (nI j + 1) G
        rw [nI_1, Nat.zero_add]
        exact ih (j + 1) (by omega)
    exact gfI_i c2 rfl ⟨n + 1, main n 0 (by omega)⟩
end CLR
end
section
def ro1 (q : Option (Nat × Nat × Nat)) : Int32 := match q with | none => -1 | some (r, _, _) => nI r
def be1 (q : Option (Nat × Nat × Nat)) : Int32 := match q with | none => -1 | some (_, b, _) => nI b
def mlF (S : tS) (c : Int64) (j : Nat) : Int64 := match S.1 j with
  | none => mxF (mxF c (-1 : Int32).toInt64) (-1 : Int32).toInt64
  | some (r, b, n) => mxF (mxF (mxF (mxF (mxF c (nI r).toInt64) (nI b).toInt64) (nI n).toInt64) (coF (S_v S r b) n).toInt64) (suF (S_v S r b) n).toInt64
section CLS
variable {K : tK} {G : tG} {L : tL} {S : tS} {postX : String → tG → Prop}
theorem tRes_0 {post : Int32 → tG → Prop} {x : Int32} (h : ∀ G', fr (clsW L) G G' → TwR G' L S → post x G') : tRes L G post postX (0, x, S) := fun G' f h' => ⟨fun _ => h G' f h', fun z => absurd z (by decide : ¬ (0 : Nat) = 1), fun z => absurd z (by decide : ¬ (0 : Nat) = 2)⟩
theorem c_mixedWithList {pk : Int64 → tG → Prop} {j : Nat} {c : Int64} (h : TwR G L S) (hj : j < 7) (hp : ∀ G', fr (clsW L) G G' → TwR G' L S → pk (mlF S c j) G') : w_X1_mixedWithList K pk postX (some L.1) c (nI j) G := by
  have hin : inR (nI j) 0 6 := ⟨nI_pos (by omega), show nI j ≤ nI 6 from nI_le (by omega) (by omega)⟩
  unfold mlF at hp
  cases hq : S.1 j with
  | none =>
    rw [hq] at hp
    have hat : S_at S (nI j) = none := by rw [S_at_nI S hj]; exact hq
    refine c_rcv h (c_rowOf h ?_)
    rw [if_pos hin, hat]
    refine tRes_0 (fun G1 f1 h1 => ?_)
    refine c_rcv h1 (c_begin h1 ?_)
    rw [if_pos hin, hat]
    refine tRes_0 (fun G2 f2 h2 => ?_)
    refine c_rcv h2 (c_listOrNull h2 (fun _ => ⟨fun _ => hp G2 (fr_tr f1 f2) h2, fun z => absurd rfl z⟩) (fun o r b n d1 _ _ _ => ?_))
    rw [hat] at d1; cases d1
  | some q =>
    obtain ⟨r, b, n⟩ := q
    rw [hq] at hp
    have hat : S_at S (nI j) = some (r, b, n) := by rw [S_at_nI S hj]; exact hq
    refine c_rcv h (c_rowOf h ?_)
    rw [if_pos hin, hat]
    refine tRes_0 (fun G1 f1 h1 => ?_)
    refine c_rcv h1 (c_begin h1 ?_)
    rw [if_pos hin, hat]
    refine tRes_0 (fun G2 f2 h2 => ?_)
    refine c_rcv h2 (c_listOrNull h2 (fun z => ?_) (fun o r' b' n' d1 _ _ _ => ⟨fun z => (by cases z), fun _ => ?_⟩))
    · rw [hat] at z; cases z
    · refine c_rcv h2 (c_length h2 ?_)
      rw [hat]
      refine tRes_0 (fun G3 f3 h3 => ?_)
      refine c_rcv h3 (c_code h3 ?_)
      rw [hat]
      refine tRes_0 (fun G4 f4 h4 => ?_)
      refine c_rcv h4 (c_sum h4 ?_)
      rw [hat]
      exact tRes_0 (fun G5 f5 h5 => hp G5 (fr_tr f1 (fr_tr f2 (fr_tr f3 (fr_tr f4 f5)))) h5)
/-- the digest -/
def hd1 (S : tS) (c : Int64) : Nat → Int64
  | 0 => c
  | k + 1 => mxF (hd1 S c k) (hoF S (nI k)).toInt64
def hd2 (S : tS) (c : Int64) : Nat → Int64
  | 0 => c
  | k + 1 => mrF (S.2.1 k) (mxF (hd2 S c k) (nI (lnF (S.1 k))).toInt64) (lnF (S.1 k))
def hd3 (S : tS) (c : Int64) : Nat → Int64
  | 0 => c
  | k + 1 => mlF S (hd3 S c k) k
def diF (S : tS) : Int64 := mxF (hd3 S (hd2 S (hd1 S 7778 4) 3) 7) 1
theorem c_digest {pk : Int64 → tG → Prop} (h : TwR G L S) (hp : ∀ G', fr (clsW L) G G' → TwR G' L S → pk (diF S) G') : w_X1_digest K pk postX (some L.1) G := by
  have m3 : ∀ k i nc ns G1, i + k = 7 → nc ≤ 19 + 5 * i → ns ≤ 114 + 30 * i → fr (clsW L) G G1 → TwR G1 L S → w_X1_digest_50 K pk postX (k + 1) nc ns (some L.1) (hd3 S (hd2 S (hd1 S 7778 4) 3) i) (nI i) G1 := by
    intro k
    induction k with
    | zero =>
      intro i nc ns G1 hi h1 h2 hf h3
      show w_X1_digest_50_b K pk postX (w_X1_digest_50 K pk postX 0) nc ns (some L.1) (hd3 S (hd2 S (hd1 S 7778 4) 3) i) (nI i) G1
      have e : i = 7 := by omega
      subst e
      exact ⟨fun _ => ⟨⟨by omega, by omega⟩, c_rcv h3 (c_isSound h3 (fun G2 f2 h4 => ⟨fun z => absurd z (by decide), fun _ => hp G2 (fr_tr hf f2) h4⟩))⟩, fun c => absurd (by decide) c⟩
    | succ k ih =>
      intro i nc ns G1 hi h1 h2 hf h3
      show w_X1_digest_50_b K pk postX (w_X1_digest_50 K pk postX (k + 1)) nc ns (some L.1) (hd3 S (hd2 S (hd1 S 7778 4) 3) i) (nI i) G1
      refine ⟨fun c => absurd (show nI 7 ≤ nI i from c) (nI_ge (by omega) (by omega)), fun _ => ⟨⟨by omega, by omega⟩, c_rcv h3 (c_mixedWithList h3 (by omega) (fun G2 f2 h4 => ?_))⟩⟩
      rw [nI_1]
      exact ih (i + 1) (nc + 5) (ns + 30) G2 (by omega) (by omega) (by omega) (fr_tr hf f2) h4
  have m2 : ∀ k i nc ns G1, i + k = 3 → nc ≤ 16 + i → ns ≤ 96 + 6 * i → fr (clsW L) G G1 → TwR G1 L S → w_X1_digest_30 K pk postX (k + 1) nc ns (some L.1) (hd2 S (hd1 S 7778 4) i) (nI i) G1 := by
    intro k
    induction k with
    | zero =>
      intro i nc ns G1 hi h1 h2 hf h3
      show w_X1_digest_30_b K pk postX (w_X1_digest_30 K pk postX 0) nc ns (some L.1) (hd2 S (hd1 S 7778 4) i) (nI i) G1
      have e : i = 3 := by omega
      subst e
      exact ⟨fun _ => ⟨8, m3 7 0 nc ns G1 (by omega) (by omega) (by omega) hf h3⟩, fun c => absurd (by decide) c⟩
    | succ k ih =>
      intro i nc ns G1 hi h1 h2 hf h3
      show w_X1_digest_30_b K pk postX (w_X1_digest_30 K pk postX (k + 1)) nc ns (some L.1) (hd2 S (hd1 S 7778 4) i) (nI i) G1
      refine ⟨fun c => absurd (show nI 3 ≤ nI i from c) (nI_ge (by omega) (by omega)), fun _ => ⟨⟨by omega, by omega⟩, c_rcv h3 (c_mixedWithRow h3 (by omega) (fun n en => ?_))⟩⟩
      rw [nI_1]
      have := ih (i + 1) (nc + 1) (ns + 6) G1 (by omega) (by omega) (by omega) hf h3
      simp only [hd2, en, lnF] at this
      exact this
  have m1 : ∀ k i nc ns G1, i + k = 4 → nc ≤ 4 * i → ns ≤ 24 * i → fr (clsW L) G G1 → TwR G1 L S → w_X1_digest_6 K pk postX (k + 1) nc ns (some L.1) (hd1 S 7778 i) (nI i) G1 := by
    intro k
    induction k with
    | zero =>
      intro i nc ns G1 hi h1 h2 hf h3
      show w_X1_digest_6_b K pk postX (w_X1_digest_6 K pk postX 0) nc ns (some L.1) (hd1 S 7778 i) (nI i) G1
      have e : i = 4 := by omega
      subst e
      exact ⟨fun _ => ⟨4, m2 3 0 nc ns G1 (by omega) (by omega) (by omega) hf h3⟩, fun c => absurd (by decide) c⟩
    | succ k ih =>
      intro i nc ns G1 hi h1 h2 hf h3
      show w_X1_digest_6_b K pk postX (w_X1_digest_6 K pk postX (k + 1)) nc ns (some L.1) (hd1 S 7778 i) (nI i) G1
      refine ⟨fun c => absurd (show nI 3 < nI i from c) (nI_nlt (by omega) (by omega)), fun _ => ⟨⟨by omega, by omega⟩, c_rcv h3 (c_house h3 ?_)⟩⟩
      rw [if_pos (show inR (nI i) 0 3 from ⟨nI_pos (by omega), show nI i ≤ nI 3 from nI_le (by omega) (by omega)⟩)]
      refine tRes_0 (fun G2 f2 h4 => ?_)
      show w_X1_digest_6 K pk postX (k + 1) (nc + 4) (ns + 24) (some L.1) (mxF (hd1 S 7778 i) (hoF S (nI i)).toInt64) (nI i + 1) G2
      rw [nI_1]
      exact ih (i + 1) (nc + 4) (ns + 24) G2 (by omega) (by omega) (by omega) (fr_tr hf f2) h4
  exact ⟨5, m1 4 0 0 0 G (by omega) (by omega) (by omega) (fr_rf _ _) h⟩
end CLS
end
section
/-! THE MODEL's cells: the object; rows; rowsOf, begins, lengths; the rows' own arrays -/
abbrev tM : Type := (Nat × Nat × Nat × Nat × Nat) × (Nat → Nat)
abbrev oMo (M : tM) (k rf th : Int32) (sm : Int64) : tE := .inr (5, [.ref M.1.2.1, .ref M.1.2.2.1, .ref M.1.2.2.2.1, .ref M.1.2.2.2.2, .int k, .int rf, .int th, .long sm])
abbrev eR (mf : Nat → Option Nat) : tE := .inl (.array .int, 3, .inr (.inr (.inr (.inr mf))))
def moW (M : tM) (q : Nat) : Prop := q = M.1.1 ∨ q = M.1.2.1 ∨ q = M.1.2.2.1 ∨ q = M.1.2.2.2.1 ∨ q = M.1.2.2.2.2 ∨ q = M.2 0 ∨ q = M.2 1 ∨ q = M.2 2
/-- the three arrays by lists stand for the lists -/
def moL (S : tS) (fo fb fl : Nat → Int32) : Prop := ∀ j, j < 7 → (S.1 j = none ∧ fo j = -1) ∨ ∃ r b n, S.1 j = some (r, b, n) ∧ fo j = nI r ∧ fb j = nI b ∧ fl j = nI n
def MoR (G : tG) (M : tM) (S : tS) (th : Int32) : Prop := S_ok S ∧ (∃ sm, G M.1.1 = some (oMo M S.2.2.1 S.2.2.2 th sm)) ∧ (∃ mf, G M.1.2.1 = some (eR mf) ∧ ∀ r, r < 3 → mf r = some (M.2 r)) ∧
  (∃ fo fb fl, (G M.1.2.2.1 = some (eI 7 fo) ∧ G M.1.2.2.2.1 = some (eI 7 fb) ∧ G M.1.2.2.2.2 = some (eI 7 fl)) ∧ moL S fo fb fl) ∧
  (∀ r, r < 3 → ∃ f, G (M.2 r) = some (eI (lnF (S.1 r)) f) ∧ ∀ i, i < lnF (S.1 r) → f i = S.2.1 r i) ∧
  (M.1.2.2.1 ≠ M.1.2.2.2.1 ∧ M.1.2.2.1 ≠ M.1.2.2.2.2 ∧ M.1.2.2.2.1 ≠ M.1.2.2.2.2) ∧ (∀ r, r < 3 → M.2 r ≠ M.1.2.2.1 ∧ M.2 r ≠ M.1.2.2.2.1 ∧ M.2 r ≠ M.1.2.2.2.2) ∧ (∀ r r', r < 3 → r' < 3 → M.2 r = M.2 r' → r = r')
/-- the model's own fields: knocks, refusals, thrown -/
theorem MoR_own {G : tG} {M : tM} {S : tS} {th : Int32} (h : MoR G M S th) (k rf th2 : Int32) (sm : Int64) : MoR (tg_up G M.1.1 (oMo M k rf th2 sm)) M (S.1, S.2.1, k, rf) th2 := by
  obtain ⟨h1, ⟨sm0, h2⟩, ⟨mf, h3, h4⟩, ⟨fo, fb, fl, ⟨h5, h6, h7⟩, h8⟩, h9, h10, h11, h12⟩ := h
  refine ⟨h1, ⟨sm, tg_s _ _ _⟩, ⟨mf, tg_keep h3 (fun e => ne_OI h2 h3 e.symm), h4⟩, ⟨fo, fb, fl, ⟨tg_keep h5 (fun e => ne_OI h2 h5 e.symm), tg_keep h6 (fun e => ne_OI h2 h6 e.symm), tg_keep h7 (fun e => ne_OI h2 h7 e.symm)⟩, h8⟩, fun r hr => ?_, h10, h11, h12⟩
  obtain ⟨f, g1, g2⟩ := h9 r hr
  exact ⟨f, tg_keep g1 (fun e => ne_OI h2 g1 e.symm), g2⟩
/-- what the model's step leaves: nothing else is written; what it makes was free -/
def mRes (M : tM) (G : tG) (post : Int32 → tG → Prop) (a : tA) : Prop := ∀ (G' : tG) (M' : tM), M'.1 = M.1 → fr (moW M) G G' → (∀ q, moW M' q → moW M q ∨ G q = none) → MoR G' M' a.2.2 (nI a.1) → post a.2.1 G'
end
section
section MOB
variable {K : tK} {G : tG} {M : tM} {S : tS} {th : Int32} {post : Int32 → tG → Prop}
def b1 (p : Bool) : Int32 := if p then 1 else 0
theorem b1_01 (p : Bool) : b1 p = 0 ∨ b1 p = 1 := by cases p <;> decide
theorem m_isIn {x a c : Int32} (h1 : inR x a c → post 1 G) (h0 : ¬ inR x a c → post 0 G) : w_X3_isIn K post x a c G := by
  refine ⟨fun q => ⟨by decide, h0 (fun z => z.1 q)⟩, fun q => ⟨fun q2 => ⟨by decide, h0 (fun z => ?_)⟩, fun q2 => ⟨by decide, h1 ⟨q, ?_⟩⟩⟩⟩
  · have z := z.2; rw [i32_le] at z; rw [i32_lt] at q2; omega
  · rw [i32_le]; rw [i32_lt] at q2; omega
theorem m_one {x : Int32} (h0 : x = 0 → post 0 G) (h1 : ¬ x = 0 → post 1 G) : w_X3_one K post x G := ⟨fun c => h0 c, fun c => h1 c⟩
theorem m_isNoValue {x : Int32} (h1 : ¬ okV x → post 1 G) (h0 : okV x → post 0 G) : w_X3_isNoValue K post x G :=
  ⟨fun c => ⟨by decide, h0 (Or.inl c)⟩, fun c => m_isIn (fun q => ⟨fun _ => ⟨by decide, h0 (Or.inr q)⟩, fun z => absurd z (by decide)⟩) (fun q => ⟨fun z => absurd rfl z, fun _ => ⟨by decide, h1 (fun z => z.elim c q)⟩⟩)⟩
theorem m_isNoRule {x y : Int32} (h1 : ¬ (inR x 0 3 ∧ inR y (-99) 99) → post 1 G) (h0 : inR x 0 3 → inR y (-99) 99 → post 0 G) : w_X3_isNoRule K post x y G :=
  m_isIn (fun q => ⟨fun z => absurd z (by decide), fun _ => m_isIn (fun q2 => ⟨fun _ => ⟨by decide, h0 q q2⟩, fun z => absurd z (by decide)⟩) (fun q2 => ⟨fun z => absurd rfl z, fun _ => ⟨by decide, h1 (fun z => q2 z.2)⟩⟩)⟩) (fun q => ⟨fun _ => ⟨by decide, h1 (fun z => q z.1)⟩, fun z => absurd rfl z⟩)
theorem m_rcv {P : Prop} (h : MoR G M S th) (hp : P) : rcv G (some M.1.1) 5 P := by
  obtain ⟨-, ⟨sm, h2⟩, -⟩ := h
  exact rcv_i h2 hp
/-- is there no such list? -/
theorem m_isNoList {v : Int32} (h : MoR G M S th) (h1 : S_at S v = none → post 1 G) (h0 : ∀ j r b n, j < 7 → v = nI j → S.1 j = some (r, b, n) → post 0 G) : w_X3_isNoList K post (some M.1.1) v G := by
  obtain ⟨hok, ⟨sm, h2⟩, -, ⟨fo, fb, fl, ⟨h5, h6, h7⟩, h8⟩, -⟩ := h
  refine m_isIn (fun q => ⟨fun z => absurd z (by decide), fun _ => ?_⟩) (fun q => ⟨fun _ => ⟨by decide, h1 ?_⟩, fun z => absurd rfl z⟩)
  · obtain ⟨j, hj, rfl⟩ := nI_of2 (M := 6) (n := 6) rfl q.1 q.2
    refine gfR_i _ h2 rfl (alI_i h5 rfl (by omega) (by omega) ?_)
    rcases h8 j (by omega) with ⟨e1, e2⟩ | ⟨r, b, n, e1, e2, e3, e4⟩
    · rw [e2]
      exact ⟨fun z => absurd rfl z, fun _ => ⟨by decide, h1 (by rw [S_at_nI S (by omega)]; exact e1)⟩⟩
    · rw [e2]
      refine ⟨fun _ => ⟨by decide, h0 j r b n (by omega) rfl e1⟩, fun z => ?_⟩
      have hr := (hok.2.1 j r b n (by omega) e1).1
      exact absurd (show nI r < 0 by rw [z]; decide) (nI_pos (by omega))
  · unfold S_at
    rw [if_neg]
    intro z
    apply q
    have e0 : (0 : Int32).toInt = 0 := rfl
    have e6 : (6 : Int32).toInt = 6 := rfl
    exact ⟨fun w => by rw [i32_lt] at w; omega, by rw [i32_le]; omega⟩
theorem m_knock (h : MoR G M S th) (hp : ∀ G', fr (moW M) G G' → MoR G' M (S.1, S.2.1, S.2.2.1 + 1, S.2.2.2) 0 → post (S.2.2.1 + 1) G') : w_X3_knock K post (some M.1.1) G := by
  obtain ⟨-, ⟨sm, h2⟩, -⟩ := id h
  refine pfV_i h2 (Nat.le_of_ble_eq_true rfl) (gfI_i (tg_s _ _ _) rfl (pfV_i (tg_s _ _ _) (Nat.le_of_ble_eq_true rfl) (gfI_i (tg_s _ _ _) rfl ?_)))
  have h3 := MoR_own h S.2.2.1 S.2.2.2 0 sm
  have h4 := MoR_own h3 (S.2.2.1 + 1) S.2.2.2 0 sm
  exact hp _ (fr_tr (fr_up _ (Or.inl rfl)) (fr_up _ (Or.inl rfl))) h4
end MOB
end
section
section MOC
variable {K : tK} {G : tG} {M : tM} {S : tS} {th : Int32} {post : Int32 → tG → Prop}
/-- which refusal: of the first kind, of the second, none -/
def thF (a c : Int32) : Int32 := if a = 0 then (if c = 0 then 0 else 2) else 1
theorem m_fails {a c : Int32} (h : MoR G M S th) (hp : ∀ G', fr (moW M) G G' → MoR G' M S (thF a c) → post (if thF a c = 0 then 0 else 1) G') : w_X3_fails K post (some M.1.1) a c G := by
  obtain ⟨-, ⟨sm, h2⟩, -⟩ := id h
  have hm : ∀ t, MoR (tg_up G M.1.1 (oMo M S.2.2.1 S.2.2.2 t sm)) M S t := fun t => MoR_own h S.2.2.1 S.2.2.2 t sm
  unfold thF at hp
  refine ⟨fun ca => ⟨fun cc => ?_, fun cc => ?_⟩, fun ca => ?_⟩
  · simp only [if_pos ca, if_pos cc] at hp
    exact pfV_i h2 (Nat.le_of_ble_eq_true rfl) (gfI_i (tg_s _ _ _) rfl ⟨fun _ => ⟨by decide, hp _ (fr_up _ (Or.inl rfl)) (hm 0)⟩, fun z => absurd (by decide) z⟩)
  · simp only [if_pos ca, if_neg cc] at hp
    exact pfV_i h2 (Nat.le_of_ble_eq_true rfl) (gfI_i (tg_s _ _ _) rfl ⟨fun z => absurd z (by decide), fun _ => ⟨by decide, hp _ (fr_up _ (Or.inl rfl)) (hm 2)⟩⟩)
  · simp only [if_neg ca] at hp
    exact pfV_i h2 (Nat.le_of_ble_eq_true rfl) (gfI_i (tg_s _ _ _) rfl ⟨fun z => absurd z (by decide), fun _ => ⟨by decide, hp _ (fr_up _ (Or.inl rfl)) (hm 1)⟩⟩)
theorem m_refused (h : MoR G M S th) (hp : ∀ G', fr (moW M) G G' → MoR G' M (S_ref S) th → post (-9) G') : w_X3_refused K post (some M.1.1) G := by
  obtain ⟨-, ⟨sm, h2⟩, -⟩ := id h
  exact gfI_i h2 rfl (pfV_i h2 (Nat.le_of_ble_eq_true rfl) (hp _ (fr_up _ (Or.inl rfl)) (MoR_own h S.2.2.1 (S.2.2.2 + 1) th sm)))
theorem m_refusedIf {a : Int32} (h : MoR G M S th) (h0 : a = 0 → post 0 G) (hp : a ≠ 0 → ∀ G', fr (moW M) G G' → MoR G' M (S_ref S) th → post (-9) G') : w_X3_refusedIf K post (some M.1.1) a G :=
  ⟨fun c => h0 c, fun c => m_rcv h (m_refused h (hp c))⟩
/-- what stands at a place of a list -/
theorem m_value {j i r b n : Nat} (h : MoR G M S th) (hj : j < 7) (hs : S.1 j = some (r, b, n)) (hi : i < n) (hp : post (S.2.1 r (b + i)) G) : w_X3_value K post (some M.1.1) (nI j) (nI i) G := by
  obtain ⟨hok, ⟨sm, h2⟩, ⟨mf, h3, h4⟩, ⟨fo, fb, fl, ⟨h5, h6, h7⟩, h8⟩, h9, -⟩ := h
  obtain ⟨hr, n0, e0, hn0⟩ := hok.2.1 j r b n hj hs
  have hn12 := (S_12 hok hj hs).2
  obtain ⟨f, g1, g2⟩ := h9 r hr
  rw [e0] at g1 g2
  rcases h8 j hj with ⟨c, -⟩ | ⟨r', b', n', c1, c2, c3, c4⟩
  · rw [hs] at c; cases c
  · rw [hs] at c1
    cases c1
    obtain ⟨n1, d1, d2⟩ := hok.1 r hr
    rw [e0] at d1
    cases d1
    refine gfR_i _ h2 rfl (gfR_i _ h2 rfl (alI_i h5 rfl hj (by omega) (alR_i h3 c2 hr (by omega) ?_)))
    rw [h4 r hr]
    refine gfR_i _ h2 rfl (alI_i h6 rfl hj (by omega) ?_)
    rw [c3]
    refine alI_i g1 (nI_add b i) (show b + i < n0 by omega) (show n0 < 2 ^ 31 by omega) ?_
    rw [g2 (b + i) (show b + i < n0 by omega)]
    exact hp
end MOC
end
section
section MOD
variable {K : tK} {G : tG} {M : tM} {S : tS} {th : Int32} {post : Int32 → tG → Prop}
theorem inR_pl {w : Int32} {n : Nat} (hn : n < 2 ^ 30) : inR w 0 (nI n - 1) ↔ (0 ≤ w.toInt ∧ w.toInt < n) := by
  have e0 : (0 : Int32).toInt = 0 := rfl
  have e1 : (nI n - 1 : Int32).toInt = (n : Int) - 1 := nI_sub (b := 1) hn (by omega)
  unfold inR
  rw [i32_lt, i32_le, e1, e0]
  constructor
  · intro q; omega
  · intro q; omega
/-- is there no such place of a list? -/
theorem m_isNoPlace {v w : Int32} (h : MoR G M S th) (h1 : (S_at S v = none ∨ ∃ r b n, S_at S v = some (r, b, n) ∧ ¬ (0 ≤ w.toInt ∧ w.toInt < n)) → post 1 G) (h0 : ∀ j r b n i, j < 7 → v = nI j → S.1 j = some (r, b, n) → i < n → w = nI i → post 0 G) : w_X3_isNoPlace K post (some M.1.1) v w G := by
  obtain ⟨hok, ⟨sm, h2⟩, -, ⟨fo, fb, fl, ⟨h5, h6, h7⟩, h8⟩, -⟩ := id h
  refine m_rcv h (m_isNoList h (fun c => ⟨fun _ => ⟨by decide, h1 (Or.inl c)⟩, fun z => absurd z (by decide)⟩) (fun j r b n hj ev hs => ⟨fun z => absurd rfl z, fun _ => ?_⟩))
  subst ev
  refine gfR_i _ h2 rfl (alI_i h7 rfl hj (by omega) ?_)
  have hn12 := (S_12 hok hj hs).2
  rcases h8 j hj with ⟨c, -⟩ | ⟨r', b', n', c1, c2, c3, c4⟩
  · rw [hs] at c; cases c
  · rw [hs] at c1
    cases c1
    rw [c4]
    refine m_isIn (fun q => ⟨fun _ => ⟨by decide, ?_⟩, fun z => absurd z (by decide)⟩) (fun q => ⟨fun z => absurd rfl z, fun _ => ⟨by decide, h1 (Or.inr ⟨r, b, n, by rw [S_at_nI S hj]; exact hs, fun z => q ((inR_pl (by omega)).mpr z)⟩)⟩⟩)
    have q2 := (inR_pl (by omega)).mp q
    obtain ⟨i, hi, e⟩ := nI_of q.1
    rw [e, nI_toInt hi] at q2
    exact h0 j r b n i hj rfl hs (by omega) e
theorem m_isBeyond {v w : Int32} (h : MoR G M S th) (hn : S_at S v = none → post 0 G) (h1 : ∀ j r b n, j < 7 → v = nI j → S.1 j = some (r, b, n) → ¬ inR w 0 (nI n) → post 1 G) (h0 : ∀ j r b n, j < 7 → v = nI j → S.1 j = some (r, b, n) → inR w 0 (nI n) → post 0 G) : w_X3_isBeyond K post (some M.1.1) v w G := by
  obtain ⟨hok, ⟨sm, h2⟩, -, ⟨fo, fb, fl, ⟨h5, h6, h7⟩, h8⟩, -⟩ := id h
  refine m_rcv h (m_isNoList h (fun c => ⟨fun _ => ⟨by decide, hn c⟩, fun z => absurd z (by decide)⟩) (fun j r b n hj ev hs => ⟨fun z => absurd rfl z, fun _ => ?_⟩))
  subst ev
  refine gfR_i _ h2 rfl (alI_i h7 rfl hj (by omega) ?_)
  rcases h8 j hj with ⟨c, -⟩ | ⟨r', b', n', c1, c2, c3, c4⟩
  · rw [hs] at c; cases c
  · rw [hs] at c1
    cases c1
    rw [c4]
    exact m_isIn (fun q => ⟨fun _ => ⟨by decide, h0 j r b n hj rfl hs q⟩, fun z => absurd z (by decide)⟩) (fun q => ⟨fun z => absurd rfl z, fun _ => ⟨by decide, h1 j r b n hj rfl hs q⟩⟩)
theorem m_isNoPair {v w : Int32} (h : MoR G M S th) (h1 : (S_at S v = none ∨ S_at S w = none) → post 1 G) (h0 : ∀ j r b n j2 r2 b2 n2, j < 7 → v = nI j → S.1 j = some (r, b, n) → j2 < 7 → w = nI j2 → S.1 j2 = some (r2, b2, n2) → post 0 G) : w_X3_isNoPair K post (some M.1.1) v w G := by
  refine m_rcv h (m_isNoList h (fun c => ⟨fun _ => ⟨by decide, h1 (Or.inl c)⟩, fun z => absurd z (by decide)⟩) (fun j r b n hj ev hs => ⟨fun z => absurd rfl z, fun _ => ?_⟩))
  exact m_rcv h (m_isNoList h (fun c => ⟨fun z => absurd z (by decide), fun _ => ⟨by decide, h1 (Or.inr c)⟩⟩) (fun j2 r2 b2 n2 hj2 ev2 hs2 => ⟨fun _ => ⟨by decide, h0 j r b n j2 r2 b2 n2 hj ev hs hj2 ev2 hs2⟩, fun z => absurd rfl z⟩))
/-- is there no such place of a row? -/
theorem m_isNoRowPlace {v w : Int32} (h : MoR G M S th) (h1 : (S_tw S v = none ∨ ∃ r b n, S_tw S v = some (r, b, n) ∧ ¬ (0 ≤ w.toInt ∧ w.toInt < n)) → post 1 G) (h0 : ∀ r n i, r < 3 → v = nI r → S.1 r = some (r, 0, n) → i < n → n ≤ 12 → w = nI i → post 0 G) : w_X3_isNoRowPlace K post (some M.1.1) v w G := by
  obtain ⟨hok, ⟨sm, h2⟩, ⟨mf, h3, h4⟩, -, h9, -⟩ := id h
  have e0 : (0 : Int32).toInt = 0 := rfl
  have e2 : (2 : Int32).toInt = 2 := rfl
  refine m_isIn (fun q => ⟨fun z => absurd z (by decide), fun _ => ?_⟩) (fun q => ⟨fun _ => ⟨by decide, h1 (Or.inl ?_)⟩, fun z => absurd rfl z⟩)
  · obtain ⟨r, hr, rfl⟩ := nI_of2 (M := 2) (n := 2) rfl q.1 q.2
    obtain ⟨n, d1, d2⟩ := hok.1 r (by omega)
    obtain ⟨f, g1, g2⟩ := h9 r (by omega)
    rw [d1] at g1
    have g1 : G (M.2 r) = some (eI n f) := g1
    refine gfR_i _ h2 rfl (alR_i h3 rfl (j := r) (by omega) (by omega) ?_)
    rw [h4 r (by omega)]
    have hat : S_tw S (nI r) = some (r, 0, n) := by
      unfold S_tw; rw [nI_toInt (by omega), if_pos (by omega)]; exact d1
    refine lenA_i g1 (m_isIn (fun q => ⟨fun _ => ⟨by decide, ?_⟩, fun z => absurd z (by decide)⟩) (fun q => ⟨fun z => absurd rfl z, fun _ => ⟨by decide, h1 (Or.inr ⟨r, 0, n, hat, fun z => q ((inR_pl (by omega)).mpr z)⟩)⟩⟩))
    have q2 := (inR_pl (n := n) (by omega)).mp q
    obtain ⟨i, hi, e⟩ := nI_of q.1
    rw [e, nI_toInt hi] at q2
    exact h0 r n i (by omega) rfl d1 (by omega) d2 e
  · unfold S_tw
    rw [if_neg]
    intro z
    apply q
    exact ⟨fun w => by rw [i32_lt] at w; omega, by rw [i32_le]; omega⟩
/-- a value is written -/
theorem MoR_put {r n k : Nat} {x : Int32} {f : Nat → Int32} (h : MoR G M S th) (hr : r < 3) (hs : S.1 r = some (r, 0, n)) (hf : G (M.2 r) = some (eI n f)) (hff : ∀ i, i < n → f i = S.2.1 r i) (hx : okV x) : MoR (tg_up G (M.2 r) (eI n (upd f k x))) M (S_put S r k x) th := by
  obtain ⟨h1, ⟨sm, h2⟩, ⟨mf, h3, h4⟩, ⟨fo, fb, fl, ⟨h5, h6, h7⟩, h8⟩, h9, h10, h11, h12⟩ := h
  have d := h11 r hr
  refine ⟨S_put_ok h1 r k hx, ⟨sm, tg_keep h2 (ne_OI h2 hf)⟩, ⟨mf, tg_keep h3 (ne_of_G h3 hf (fun e => by cases e)), h4⟩, ⟨fo, fb, fl, ⟨tg_keep h5 (fun e => d.1 e.symm), tg_keep h6 (fun e => d.2.1 e.symm), tg_keep h7 (fun e => d.2.2 e.symm)⟩, h8⟩, fun r' hr' => ?_, h10, h11, h12⟩
  show ∃ f', tg_up G (M.2 r) _ (M.2 r') = some (eI (lnF (S.1 r')) f') ∧ ∀ i, i < lnF (S.1 r') → f' i = (if r' = r then upd (S.2.1 r) k x else S.2.1 r') i
  by_cases c : r' = r
  · subst c
    rw [hs, tg_s]
    refine ⟨_, rfl, fun i hi => ?_⟩
    rw [if_pos rfl]
    have hi : i < n := hi
    simp only [upd]
    by_cases c2 : i = k
    · rw [if_pos c2, if_pos c2]
    · rw [if_neg c2, if_neg c2]; exact hff i hi
  · obtain ⟨f', g1, g2⟩ := h9 r' hr'
    refine ⟨f', by rw [tg_n _ _ (fun e => c (h12 r' r hr' hr e))]; exact g1, fun i hi => ?_⟩
    rw [if_neg c]; exact g2 i hi
theorem moW_r {r : Nat} (h : r < 3) : moW M (M.2 r) := by
  rcases (show r = 0 ∨ r = 1 ∨ r = 2 by omega) with rfl | rfl | rfl
  · exact Or.inr (Or.inr (Or.inr (Or.inr (Or.inr (Or.inl rfl)))))
  · exact Or.inr (Or.inr (Or.inr (Or.inr (Or.inr (Or.inr (Or.inl rfl))))))
  · exact Or.inr (Or.inr (Or.inr (Or.inr (Or.inr (Or.inr (Or.inr rfl))))))
theorem m_write {pw : tG → Prop} {j i r b n : Nat} {x : Int32} (h : MoR G M S th) (hj : j < 7) (hs : S.1 j = some (r, b, n)) (hi : i < n) (hx : okV x) (hp : ∀ G', fr (moW M) G G' → MoR G' M (S_put S r (b + i) x) th → pw G') : w_X3_write K pw (some M.1.1) (nI j) (nI i) x G := by
  obtain ⟨hok, ⟨sm, h2⟩, ⟨mf, h3, h4⟩, ⟨fo, fb, fl, ⟨h5, h6, h7⟩, h8⟩, h9, -⟩ := id h
  obtain ⟨hr, n0, e0, hn0⟩ := hok.2.1 j r b n hj hs
  have hn12 := (S_12 hok hj hs).2
  obtain ⟨f, g1, g2⟩ := h9 r hr
  rw [e0] at g1 g2
  rcases h8 j hj with ⟨c, -⟩ | ⟨r', b', n', c1, c2, c3, c4⟩
  · rw [hs] at c; cases c
  · rw [hs] at c1
    cases c1
    obtain ⟨n1, d1, d2⟩ := hok.1 r hr
    rw [e0] at d1
    cases d1
    refine gfR_i _ h2 rfl (gfR_i _ h2 rfl (alI_i h5 rfl hj (by omega) (alR_i h3 c2 hr (by omega) ?_)))
    rw [h4 r hr]
    refine gfR_i _ h2 rfl (alI_i h6 rfl hj (by omega) ?_)
    rw [c3]
    exact asI_i g1 (nI_add b i) (show b + i < n0 by omega) (show n0 < 2 ^ 31 by omega) (hp _ (fr_up _ (moW_r hr)) (MoR_put h hr e0 g1 g2 hx))
end MOD
end
section
section MOE
variable {K : tK} {G : tG} {M : tM} {S : tS} {th : Int32} {post : Int32 → tG → Prop}
theorem mr {a : tA} (hp : mRes M G post a) {G' : tG} (f : fr (moW M) G G') (h : MoR G' M a.2.2 (nI a.1)) : post a.2.1 G' := hp G' M rfl f (fun _ z => Or.inl z) h
theorem sp_at_bad {q : Option (Nat × Nat × Nat)} {w : Int32} {F : Nat → Nat → Nat → Nat → tA} (c : q = none ∨ ∃ r b n, q = some (r, b, n) ∧ ¬ (0 ≤ w.toInt ∧ w.toInt < n)) : sp_at S q w F = (1, 0, S) := by
  rcases c with c | ⟨r, b, n, c, d⟩
  · rw [c]; rfl
  · rw [c]; exact if_neg d
theorem sp_at_ok {j r b n i : Nat} {F : Nat → Nat → Nat → Nat → tA} (hj : j < 7) (hs : S.1 j = some (r, b, n)) (hi : i < n) (hn : n ≤ 12) : sp_at S (S_at S (nI j)) (nI i) F = F r b n i := by
  rw [S_at_nI S hj, hs]
  show (if 0 ≤ (nI i).toInt ∧ (nI i).toInt < n then F r b n (nI i).toInt.toNat else (1, 0, S)) = _
  rw [if_pos (nI_inn hi (by omega)), nI_nat (by omega)]
theorem m_get {v w : Int32} (h : MoR G M S th) (hp : mRes M G post (sp_at S (S_at S v) w fun r b n i => (0, S.2.1 r (b + i), S))) : w_X3_get K post (some M.1.1) v w G := by
  refine m_rcv h (m_isNoPlace h (fun c => ?_) (fun j r b n i hj ev hs hi ew => ?_))
  · rw [sp_at_bad c] at hp
    exact m_rcv h (m_fails h (fun G1 f1 h1 => ⟨fun z => absurd z (by decide), fun _ => mr hp f1 h1⟩))
  · subst ev; subst ew
    have hn := (S_12 h.1 hj hs).2
    rw [sp_at_ok hj hs hi (by omega)] at hp
    exact m_rcv h (m_fails h (fun G1 f1 h1 => ⟨fun _ => m_rcv h1 (m_value h1 hj hs hi (mr hp f1 h1)), fun z => absurd (by decide) z⟩))
theorem m_set {v w x : Int32} (h : MoR G M S th) (hp : mRes M G post (sp_at S (S_at S v) w fun r b n i => if okV x then (0, S.2.1 r (b + i), S_put S r (b + i) x) else (2, 0, S))) : w_X3_set K post (some M.1.1) v w x G := by
  refine m_rcv h (m_isNoPlace h (fun c => ?_) (fun j r b n i hj ev hs hi ew => ?_))
  · rw [sp_at_bad c] at hp
    exact m_isNoValue (fun _ => m_rcv h (m_fails h (fun G1 f1 h1 => ⟨fun z => absurd z (by decide), fun _ => mr hp f1 h1⟩))) (fun _ => m_rcv h (m_fails h (fun G1 f1 h1 => ⟨fun z => absurd z (by decide), fun _ => mr hp f1 h1⟩)))
  · subst ev; subst ew
    have hn := (S_12 h.1 hj hs).2
    rw [sp_at_ok hj hs hi (by omega)] at hp
    refine m_isNoValue (fun hx => ?_) (fun hx => ?_)
    · rw [if_neg hx] at hp
      exact m_rcv h (m_fails h (fun G1 f1 h1 => ⟨fun z => absurd z (by decide), fun _ => mr hp f1 h1⟩))
    · rw [if_pos hx] at hp
      exact m_rcv h (m_fails h (fun G1 f1 h1 => ⟨fun _ => m_rcv h1 (m_value h1 hj hs hi (m_rcv h1 (m_write h1 hj hs hi hx (fun G2 f2 h2 => mr hp (fr_tr f1 f2) h2)))), fun z => absurd (by decide) z⟩))
theorem m_remove {v w : Int32} (h : MoR G M S th) (hp : mRes M G post (sp_at S (S_at S v) w fun _ _ _ _ => (0, -9, S_ref S))) : w_X3_remove K post (some M.1.1) v w G := by
  refine m_rcv h (m_isNoPlace h (fun c => ?_) (fun j r b n i hj ev hs hi ew => ?_))
  · rw [sp_at_bad c] at hp
    exact m_rcv h (m_fails h (fun G1 f1 h1 => ⟨fun z => absurd z (by decide), fun _ => mr hp f1 h1⟩))
  · subst ev; subst ew
    have hn := (S_12 h.1 hj hs).2
    rw [sp_at_ok hj hs hi (by omega)] at hp
    exact m_rcv h (m_fails h (fun G1 f1 h1 => ⟨fun _ => m_rcv h1 (m_refused h1 (fun G2 f2 h2 => mr hp (fr_tr f1 f2) h2)), fun z => absurd (by decide) z⟩))
theorem m_add {v x : Int32} (h : MoR G M S th) (hp : mRes M G post (sp_li S (S_at S v) fun _ _ _ => if okV x then (0, -9, S_ref S) else (2, 0, S))) : w_X3_add K post (some M.1.1) v x G := by
  refine m_rcv h (m_isNoList h (fun c => ?_) (fun j r b n hj ev hs => ?_))
  · rw [c] at hp
    exact m_isNoValue (fun _ => m_rcv h (m_fails h (fun G1 f1 h1 => ⟨fun z => absurd z (by decide), fun _ => mr (a := (1, 0, S)) hp f1 h1⟩))) (fun _ => m_rcv h (m_fails h (fun G1 f1 h1 => ⟨fun z => absurd z (by decide), fun _ => mr (a := (1, 0, S)) hp f1 h1⟩)))
  · subst ev
    rw [S_at_nI S hj, hs] at hp
    refine m_isNoValue (fun hx => ?_) (fun hx => ?_)
    · simp only [sp_li, if_neg hx] at hp
      exact m_rcv h (m_fails h (fun G1 f1 h1 => ⟨fun z => absurd z (by decide), fun _ => mr hp f1 h1⟩))
    · simp only [sp_li, if_pos hx] at hp
      exact m_rcv h (m_fails h (fun G1 f1 h1 => ⟨fun _ => m_rcv h1 (m_refused h1 (fun G2 f2 h2 => mr hp (fr_tr f1 f2) h2)), fun z => absurd (by decide) z⟩))
end MOE
end
section
theorem MoR_fr {G G' : tG} {M : tM} {S : tS} {th : Int32} {P : Nat → Prop} (h : MoR G M S th) (hf : fr P G G') (hp : ∀ q, moW M q → ¬ P q) : MoR G' M S th := by
  obtain ⟨h1, ⟨sm, h2⟩, ⟨mf, h3, h4⟩, ⟨fo, fb, fl, ⟨h5, h6, h7⟩, h8⟩, h9, h10, h11, h12⟩ := h
  refine ⟨h1, ⟨sm, hf _ _ h2 (hp _ (Or.inl rfl))⟩, ⟨mf, hf _ _ h3 (hp _ (Or.inr (Or.inl rfl))), h4⟩, ⟨fo, fb, fl, ⟨hf _ _ h5 (hp _ (Or.inr (Or.inr (Or.inl rfl)))), hf _ _ h6 (hp _ (Or.inr (Or.inr (Or.inr (Or.inl rfl))))), hf _ _ h7 (hp _ (Or.inr (Or.inr (Or.inr (Or.inr (Or.inl rfl))))))⟩, h8⟩, fun r hr => ?_, h10, h11, h12⟩
  obtain ⟨f, g1, g2⟩ := h9 r hr
  exact ⟨f, hf _ _ g1 (hp _ (moW_r hr)), g2⟩
theorem MoR_fresh {G G' : tG} {M : tM} {S : tS} {th : Int32} {q : Nat} (h : MoR G M S th) (hq : G q = none) (h' : ∀ a, a ≠ q → G' a = G a) : MoR G' M S th :=
  MoR_fr (P := fun _ => False) h (fr_fresh hq h' _) (fun _ _ z => z)
/-- the rows that are the same as far as lists tell them -/
def S_eq (S S' : tS) : Prop := (∀ j, j < 7 → S.1 j = S'.1 j) ∧ (∀ r i, r < 3 → i < lnF (S.1 r) → S.2.1 r i = S'.2.1 r i) ∧ S.2.2 = S'.2.2
theorem S_eq_rf (S : tS) : S_eq S S := ⟨fun _ _ => rfl, fun _ _ _ _ => rfl, rfl⟩
theorem MoR_eq {G : tG} {M : tM} {S S' : tS} {th : Int32} (h : MoR G M S th) (he : S_eq S S') (hs : S_ok S') : MoR G M S' th := by
  obtain ⟨h1, ⟨sm, h2⟩, h3, ⟨fo, fb, fl, h5, h8⟩, h9, h10⟩ := h
  refine ⟨hs, ⟨sm, ?_⟩, h3, ⟨fo, fb, fl, h5, fun j hj => ?_⟩, fun r hr => ?_, h10⟩
  · rw [← he.2.2]; exact h2
  · rw [← he.1 j hj]; exact h8 j hj
  · obtain ⟨f, g1, g2⟩ := h9 r hr
    rw [← he.1 r (by omega)]
    exact ⟨f, g1, fun i hi => by rw [g2 i hi]; exact he.2.1 r i hr hi⟩
section MOF
variable {K : tK} {G : tG} {M : tM} {S : tS} {th : Int32} {post : Int32 → tG → Prop}
/-- the three arrays by lists, and the rows -/
theorem m_row {P : Int32 → Prop} {j r b n : Nat} (h : MoR G M S th) (hj : j < 7) (hs : S.1 j = some (r, b, n)) (hp : P (nI r)) : gfR G (some M.1.1) 5 1 (fun x => alI G x (nI j) .int P) := by
  obtain ⟨-, ⟨sm, h2⟩, -, ⟨fo, fb, fl, ⟨h5, h6, h7⟩, h8⟩, -⟩ := h
  refine gfR_i _ h2 rfl (alI_i h5 rfl hj (by omega) ?_)
  rcases h8 j hj with ⟨c, -⟩ | ⟨r', b', n', c1, c2, c3, c4⟩
  · rw [hs] at c; cases c
  · rw [hs] at c1; cases c1; rw [c2]; exact hp
theorem m_rowN {P : Int32 → Prop} {j : Nat} (h : MoR G M S th) (hj : j < 7) (hs : S.1 j = none) (hp : P (-1)) : gfR G (some M.1.1) 5 1 (fun x => alI G x (nI j) .int P) := by
  obtain ⟨-, ⟨sm, h2⟩, -, ⟨fo, fb, fl, ⟨h5, h6, h7⟩, h8⟩, -⟩ := h
  refine gfR_i _ h2 rfl (alI_i h5 rfl hj (by omega) ?_)
  rcases h8 j hj with ⟨-, c⟩ | ⟨r', b', n', c1, c2, c3, c4⟩
  · rw [c]; exact hp
  · rw [hs] at c1; cases c1
theorem m_beg {P : Int32 → Prop} {j r b n : Nat} (h : MoR G M S th) (hj : j < 7) (hs : S.1 j = some (r, b, n)) (hp : P (nI b)) : gfR G (some M.1.1) 5 2 (fun x => alI G x (nI j) .int P) := by
  obtain ⟨-, ⟨sm, h2⟩, -, ⟨fo, fb, fl, ⟨h5, h6, h7⟩, h8⟩, -⟩ := h
  refine gfR_i _ h2 rfl (alI_i h6 rfl hj (by omega) ?_)
  rcases h8 j hj with ⟨c, -⟩ | ⟨r', b', n', c1, c2, c3, c4⟩
  · rw [hs] at c; cases c
  · rw [hs] at c1; cases c1; rw [c3]; exact hp
theorem m_len {P : Int32 → Prop} {j r b n : Nat} (h : MoR G M S th) (hj : j < 7) (hs : S.1 j = some (r, b, n)) (hp : P (nI n)) : gfR G (some M.1.1) 5 3 (fun x => alI G x (nI j) .int P) := by
  obtain ⟨-, ⟨sm, h2⟩, -, ⟨fo, fb, fl, ⟨h5, h6, h7⟩, h8⟩, -⟩ := h
  refine gfR_i _ h2 rfl (alI_i h7 rfl hj (by omega) ?_)
  rcases h8 j hj with ⟨c, -⟩ | ⟨r', b', n', c1, c2, c3, c4⟩
  · rw [hs] at c; cases c
  · rw [hs] at c1; cases c1; rw [c4]; exact hp
theorem m_rows {P : Option Nat → Prop} {r : Nat} (h : MoR G M S th) (hr : r < 3) (hp : P (some (M.2 r))) : gfR G (some M.1.1) 5 0 (fun x => alR G x (nI r) (.array .int) P) := by
  obtain ⟨-, ⟨sm, h2⟩, ⟨mf, h3, h4⟩, -⟩ := h
  refine gfR_i _ h2 rfl (alR_i h3 rfl hr (by omega) ?_)
  rw [h4 r hr]; exact hp
/-- a row's own array -/
theorem m_rowA {r n : Nat} (h : MoR G M S th) (hr : r < 3) (hs : S.1 r = some (r, 0, n)) : ∃ f, G (M.2 r) = some (eI n f) ∧ (∀ i, i < n → f i = S.2.1 r i) ∧ n ≤ 12 := by
  obtain ⟨h1, -, -, -, h9, -⟩ := h
  obtain ⟨f, g1, g2⟩ := h9 r hr
  rw [hs] at g1 g2
  obtain ⟨n1, d1, d2⟩ := h1.1 r hr
  rw [hs] at d1
  cases d1
  exact ⟨f, g1, g2, d2⟩
/-- a list's values, in an array of their own -/
theorem m_all {pq : Option Nat → tG → Prop} {j r b n : Nat} (h : MoR G M S th) (hj : j < 7) (hs : S.1 j = some (r, b, n)) (hp : ∀ q f G', G q = none → G' q = some (eI n f) → (∀ i, i < n → f i = S_v S r b i) → (∀ a, a ≠ q → G' a = G a) → MoR G' M S th → pq (some q) G') : w_X3_all K pq (some M.1.1) (nI j) G := by
  have hn12 := (S_12 h.1 hj hs).2
  refine m_len h hj hs ⟨n, nI_toInt (by omega), by omega, fun q hq => ?_⟩
  have main : ∀ k i G1 f, i + k = n → G1 q = some (eI n f) → (∀ t, t < i → f t = S_v S r b t) → (∀ a, a ≠ q → G1 a = G a) → w_X3_all_11 K pq (k + 1) (some M.1.1) (nI j) (some q) (nI i) G1 := by
    intro k
    induction k with
    | zero =>
      intro i G1 f hi e1 hf hk
      show w_X3_all_11_b K pq (w_X3_all_11 K pq 0) (some M.1.1) (nI j) (some q) (nI i) G1
      have e : i = n := by omega
      subst e
      exact lenA_i e1 ⟨fun _ => hp q f G1 hq e1 hf hk (MoR_fresh h hq hk), fun c => absurd (nI_le (by omega) (by omega)) c⟩
    | succ k ih =>
      intro i G1 f hi e1 hf hk
      show w_X3_all_11_b K pq (w_X3_all_11 K pq (k + 1)) (some M.1.1) (nI j) (some q) (nI i) G1
      have h1 := MoR_fresh h hq hk
      refine lenA_i e1 ⟨fun c => absurd c (nI_ge (by omega) (by omega)), fun _ => m_rcv h1 (m_value h1 hj hs (by omega) (asI_i e1 rfl (by omega) (by omega) ?_))⟩
      rw [nI_1]
      refine ih (i + 1) _ _ (by omega) (tg_s _ _ _) (fun t ht => ?_) (fun a ha => ?_)
      · simp only [upd]
        by_cases c : t = i
        · rw [if_pos c, c]
        · rw [if_neg c]; exact hf t (by omega)
      · rw [tg_n _ _ ha]; exact hk a ha
  exact ⟨n + 1, main n 0 _ _ (by omega) (tg_s _ _ _) (fun t ht => absurd ht (by omega)) (fun a ha => tg_n _ _ ha)⟩
end MOF
end
section
/-! the model's searching -/
theorem fpF_cg {f g : Nat → Int32} {x : Int32} : ∀ k i, (∀ t, i ≤ t → t < i + k → f t = g t) → fpF f x k i = fpF g x k i
  | 0, _, _ => rfl
  | k + 1, i, h => by
    show (if f i = x then nI i else fpF f x k (i + 1)) = (if g i = x then nI i else fpF g x k (i + 1))
    rw [h i (by omega) (by omega), fpF_cg k (i + 1) (fun t h1 h2 => h t (by omega) (by omega))]
theorem ofF_cg {f g : Nat → Int32} {x : Int32} : ∀ k, (∀ t, t < k → f t = g t) → ofF f x k = ofF g x k
  | 0, _ => rfl
  | k + 1, h => by
    show ofF f x k + (if f k = x then 1 else 0) = ofF g x k + (if g k = x then 1 else 0)
    rw [h k (by omega), ofF_cg k (fun t ht => h t (by omega))]
theorem coF_cg {f g : Nat → Int32} : ∀ k, (∀ t, t < k → f t = g t) → coF f k = coF g k
  | 0, _ => rfl
  | k + 1, h => by
    show 31 * coF f k + nuF (f k) = 31 * coF g k + nuF (g k)
    rw [h k (by omega), coF_cg k (fun t ht => h t (by omega))]
theorem suF_cg {f g : Nat → Int32} : ∀ k, (∀ t, t < k → f t = g t) → suF f k = suF g k
  | 0, _ => rfl
  | k + 1, h => by
    show suF f k + nuF (f k) = suF g k + nuF (g k)
    rw [h k (by omega), suF_cg k (fun t ht => h t (by omega))]
theorem haF_cg {f g f' g' : Nat → Int32} : ∀ k i, (∀ t, i ≤ t → t < i + k → f t = f' t ∧ g t = g' t) → haF f g k i = haF f' g' k i
  | 0, _, _ => rfl
  | k + 1, i, h => by
    show (if f i = g i then haF f g k (i + 1) else 0) = (if f' i = g' i then haF f' g' k (i + 1) else 0)
    rw [(h i (by omega) (by omega)).1, (h i (by omega) (by omega)).2, haF_cg k (i + 1) (fun t h1 h2 => h t (by omega) (by omega))]
/-- how often, as a number -/
def cnF (f : Nat → Int32) (x : Int32) : Nat → Nat
  | 0 => 0
  | k + 1 => cnF f x k + (if f k = x then 1 else 0)
theorem ofF_cn (f : Nat → Int32) (x : Int32) : ∀ k, ofF f x k = nI (cnF f x k)
  | 0 => rfl
  | k + 1 => by
    show ofF f x k + (if f k = x then 1 else 0) = nI (cnF f x k + (if f k = x then 1 else 0))
    rw [ofF_cn f x k]
    by_cases c : f k = x
    · rw [if_pos c, if_pos c, nI_1]
    · rw [if_neg c, if_neg c, Int32.add_zero]; rfl
theorem cnF_le (f : Nat → Int32) (x : Int32) : ∀ k, cnF f x k ≤ k
  | 0 => Nat.le_refl _
  | k + 1 => by
    have := cnF_le f x k
    show cnF f x k + (if f k = x then 1 else 0) ≤ k + 1
    split <;> omega
theorem cnF_0 (f : Nat → Int32) (x : Int32) : ∀ k, cnF f x k = 0 ↔ ∀ t, t < k → f t ≠ x
  | 0 => ⟨fun _ t h => absurd h (by omega), fun _ => rfl⟩
  | k + 1 => by
    have ih := cnF_0 f x k
    show cnF f x k + (if f k = x then 1 else 0) = 0 ↔ _
    by_cases c : f k = x
    · rw [if_pos c]
      exact ⟨fun z => absurd z (by omega), fun z => absurd c (z k (by omega))⟩
    · rw [if_neg c]
      constructor
      · intro z t ht
        by_cases e : t = k
        · rw [e]; exact c
        · exact ih.mp (by omega) t (by omega)
      · intro z
        have := ih.mpr (fun t ht => z t (by omega))
        omega
theorem fpF_cn (f : Nat → Int32) (x : Int32) {n : Nat} (hn : n < 2 ^ 31) : fpF f x n 0 = -1 ↔ cnF f x n = 0 := by
  rw [fpF_ne f x n 0 (by omega), cnF_0]
  exact ⟨fun z t ht => z t (by omega) (by omega), fun z t _ ht => z t (by omega)⟩
section MOG
variable {K : tK} {G : tG} {M : tM} {S : tS} {th : Int32} {post : Int32 → tG → Prop}
theorem m_placeOf {pk : Int32 → tG → Prop} {q n : Nat} {f : Nat → Int32} {x : Int32} (hq : G q = some (eI n f)) (hn : n < 2 ^ 31) (h : pk (fpF f x n 0) G) : w_X3_placeOf K pk (some q) x G := by
  have main : ∀ k i, i + k = n → pk (fpF f x k i) G → w_X3_placeOf_2 K pk (k + 1) (some q) x (nI i) G := by
    intro k
    induction k with
    | zero =>
      intro i hi hp
      show w_X3_placeOf_2_b K pk (w_X3_placeOf_2 K pk 0) (some q) x (nI i) G
      exact lenA_i hq ⟨fun _ => hp, fun c => absurd (nI_le (by omega) (by omega)) c⟩
    | succ k ih =>
      intro i hi hp
      show w_X3_placeOf_2_b K pk (w_X3_placeOf_2 K pk (k + 1)) (some q) x (nI i) G
      refine lenA_i hq ⟨fun c => absurd c (nI_ge (by omega) (by omega)), fun _ => alI_i hq rfl (by omega) hn ⟨fun c => ?_, fun c => ?_⟩⟩
      · simp only [fpF, if_neg c] at hp
        rw [nI_1]
        exact ih (i + 1) (by omega) hp
      · simp only [fpF, if_pos c] at hp
        exact hp
  exact ⟨n + 1, main n 0 (by omega) h⟩
theorem m_oftenIn {pk : Int32 → tG → Prop} {q n : Nat} {f : Nat → Int32} {x : Int32} (hq : G q = some (eI n f)) (hn : n < 2 ^ 31) (h : pk (nI (cnF f x n)) G) : w_X3_oftenIn K pk (some q) x G := by
  have main : ∀ k i, i + k = n → w_X3_oftenIn_11 K pk (k + 1) x (nI (cnF f x i)) (some q) (nI n) (nI i) G := by
    intro k
    induction k with
    | zero =>
      intro i hi
      show w_X3_oftenIn_11_b K pk (w_X3_oftenIn_11 K pk 0) x (nI (cnF f x i)) (some q) (nI n) (nI i) G
      have e : i = n := by omega
      subst e
      exact ⟨fun _ => h, fun c => absurd (nI_le (by omega) (by omega)) c⟩
    | succ k ih =>
      intro i hi
      show w_X3_oftenIn_11_b K pk (w_X3_oftenIn_11 K pk (k + 1)) x (nI (cnF f x i)) (some q) (nI n) (nI i) G
      have hi2 := ih (i + 1) (by omega)
      refine ⟨fun c => absurd c (nI_ge (by omega) (by omega)), fun _ => alI_i hq rfl (by omega) hn ⟨fun c => m_one (fun _ => ?_) (fun z => absurd rfl z), fun c => m_one (fun z => absurd z (by decide)) (fun _ => ?_)⟩⟩
      · have e : cnF f x (i + 1) = cnF f x i := by show _ + (if _ then _ else _) = _; rw [if_neg c]; rfl
        rw [e] at hi2
        show w_X3_oftenIn_11 K pk (k + 1) x (nI (cnF f x i) + 0) (some q) (nI n) (nI i + 1) G
        rw [nI_1, Int32.add_zero]; exact hi2
      · have e : cnF f x (i + 1) = cnF f x i + 1 := by show _ + (if _ then _ else _) = _; rw [if_pos c]
        rw [e] at hi2
        show w_X3_oftenIn_11 K pk (k + 1) x (nI (cnF f x i) + 1) (some q) (nI n) (nI i + 1) G
        rw [nI_1, nI_1]; exact hi2
  exact lenA_i hq ⟨n + 1, main n 0 (by omega)⟩
theorem m_length {v : Int32} (h : MoR G M S th) (hp : mRes M G post (sp_li S (S_at S v) fun r b n => (0, nI n, S))) : w_X3_length K post (some M.1.1) v G := by
  refine m_rcv h (m_isNoList h (fun c => ?_) (fun j r b n hj ev hs => ?_))
  · rw [c] at hp
    exact m_rcv h (m_fails h (fun G1 f1 h1 => ⟨fun z => absurd z (by decide), fun _ => mr (a := (1, 0, S)) hp f1 h1⟩))
  · subst ev
    rw [S_at_nI S hj, hs] at hp
    exact m_rcv h (m_fails h (fun G1 f1 h1 => ⟨fun _ => m_len h1 hj hs (mr hp f1 h1), fun z => absurd (by decide) z⟩))
theorem m_isEmpty {v : Int32} (h : MoR G M S th) (hp : mRes M G post (sp_li S (S_at S v) fun r b n => (0, if n = 0 then 1 else 0, S))) : w_X3_isEmpty K post (some M.1.1) v G := by
  refine m_rcv h (m_isNoList h (fun c => ?_) (fun j r b n hj ev hs => ?_))
  · rw [c] at hp
    exact m_rcv h (m_fails h (fun G1 f1 h1 => ⟨fun _ => ⟨by decide, mr (a := (1, 0, S)) hp f1 h1⟩, fun z => absurd z (by decide)⟩))
  · subst ev
    rw [S_at_nI S hj, hs] at hp
    have hn12 := (S_12 h.1 hj hs).2
    refine m_rcv h (m_fails h (fun G1 f1 h1 => ⟨fun z => absurd (by decide) z, fun _ => m_len h1 hj hs ⟨fun c => ⟨by decide, ?_⟩, fun c => ⟨by decide, ?_⟩⟩⟩))
    · have hn : ¬ n = 0 := fun e => c (by rw [e]; rfl)
      simp only [sp_li, if_neg hn] at hp
      exact mr hp f1 h1
    · have hn : n = 0 := Decidable.byContradiction fun e => nI_ne0 (by omega) (by omega) c
      simp only [sp_li, if_pos hn] at hp
      exact mr hp f1 h1
theorem fr_al {q : Nat} {G1 G2 : tG} (f1 : fr (moW M) G G1) (hq : G1 q = none) (hk : ∀ a, a ≠ q → G2 a = G1 a) : fr (moW M) G G2 := fr_tr f1 (fr_fresh hq hk _)
theorem m_indexOf {v x : Int32} (h : MoR G M S th) (hp : mRes M G post (sp_li S (S_at S v) fun r b n => if okV x then (0, fpF (S_v S r b) x n 0, S) else (2, 0, S))) : w_X3_indexOf K post (some M.1.1) v x G := by
  refine m_rcv h (m_isNoList h (fun c => ?_) (fun j r b n hj ev hs => ?_))
  · rw [c] at hp
    exact m_isNoValue (fun _ => m_rcv h (m_fails h (fun G1 f1 h1 => ⟨fun z => absurd z (by decide), fun _ => mr (a := (1, 0, S)) hp f1 h1⟩))) (fun _ => m_rcv h (m_fails h (fun G1 f1 h1 => ⟨fun z => absurd z (by decide), fun _ => mr (a := (1, 0, S)) hp f1 h1⟩)))
  · subst ev
    rw [S_at_nI S hj, hs] at hp
    have hn12 := (S_12 h.1 hj hs).2
    refine m_isNoValue (fun hx => ?_) (fun hx => ?_)
    · simp only [sp_li, if_neg hx] at hp
      exact m_rcv h (m_fails h (fun G1 f1 h1 => ⟨fun z => absurd z (by decide), fun _ => mr hp f1 h1⟩))
    · simp only [sp_li, if_pos hx] at hp
      refine m_rcv h (m_fails h (fun G1 f1 h1 => ⟨fun _ => m_rcv h1 (m_all h1 hj hs (fun q f G2 q0 q1 q2 q3 h2 => m_placeOf q1 (by omega) ?_)), fun z => absurd (by decide) z⟩))
      rw [fpF_cg n 0 (fun t _ ht => q2 t (by omega))]
      exact mr hp (fr_al f1 q0 q3) h2
theorem m_has {v x : Int32} (h : MoR G M S th) (hp : mRes M G post (sp_li S (S_at S v) fun r b n => if okV x then (0, if fpF (S_v S r b) x n 0 = -1 then 0 else 1, S) else (2, 0, S))) : w_X3_has K post (some M.1.1) v x G := by
  refine m_rcv h (m_isNoList h (fun c => ?_) (fun j r b n hj ev hs => ?_))
  · rw [c] at hp
    exact m_isNoValue (fun _ => m_rcv h (m_fails h (fun G1 f1 h1 => ⟨fun _ => ⟨by decide, mr (a := (1, 0, S)) hp f1 h1⟩, fun z => absurd z (by decide)⟩))) (fun _ => m_rcv h (m_fails h (fun G1 f1 h1 => ⟨fun _ => ⟨by decide, mr (a := (1, 0, S)) hp f1 h1⟩, fun z => absurd z (by decide)⟩)))
  · subst ev
    rw [S_at_nI S hj, hs] at hp
    have hn12 := (S_12 h.1 hj hs).2
    refine m_isNoValue (fun hx => ?_) (fun hx => ?_)
    · simp only [sp_li, if_neg hx] at hp
      exact m_rcv h (m_fails h (fun G1 f1 h1 => ⟨fun _ => ⟨by decide, mr hp f1 h1⟩, fun z => absurd z (by decide)⟩))
    · simp only [sp_li, if_pos hx] at hp
      refine m_rcv h (m_fails h (fun G1 f1 h1 => ⟨fun z => absurd (by decide) z, fun _ => m_rcv h1 (m_all h1 hj hs (fun q f G2 q0 q1 q2 q3 h2 => m_placeOf q1 (by omega) ?_))⟩))
      rw [fpF_cg n 0 (fun t _ ht => q2 t (by omega))]
      by_cases c : fpF (S_v S r b) x n 0 = -1
      · rw [if_pos c] at hp
        rw [c]
        exact ⟨fun _ => ⟨by decide, mr hp (fr_al f1 q0 q3) h2⟩, fun z => absurd (by decide) z⟩
      · rw [if_neg c] at hp
        have hc : ¬ fpF (S_v S r b) x n 0 < 0 := by
          have c2 : ¬ ∀ t, 0 ≤ t → t < 0 + n → S_v S r b t ≠ x := fun z => c ((fpF_ne _ _ n 0 (by omega)).mpr z)
          obtain ⟨t, ht⟩ := Classical.not_forall.mp c2
          obtain ⟨ht0, ht⟩ := Classical.not_imp.mp ht
          obtain ⟨ht1, ht⟩ := Classical.not_imp.mp ht
          obtain ⟨p, p1, p2, p3, p4⟩ := fpF_at (S_v S r b) x n 0 t (by omega) (by omega) (Classical.not_not.mp ht)
          rw [p3]; exact nI_pos (by omega)
        exact ⟨fun z => absurd z hc, fun _ => ⟨by decide, mr hp (fr_al f1 q0 q3) h2⟩⟩
theorem m_often {v x : Int32} (h : MoR G M S th) (hp : mRes M G post (sp_li S (S_at S v) fun r b n => if okV x then (0, ofF (S_v S r b) x n, S) else (2, 0, S))) : w_X3_often K post (some M.1.1) v x G := by
  refine m_rcv h (m_isNoList h (fun c => ?_) (fun j r b n hj ev hs => ?_))
  · rw [c] at hp
    exact m_isNoValue (fun _ => m_rcv h (m_fails h (fun G1 f1 h1 => ⟨fun z => absurd z (by decide), fun _ => mr (a := (1, 0, S)) hp f1 h1⟩))) (fun _ => m_rcv h (m_fails h (fun G1 f1 h1 => ⟨fun z => absurd z (by decide), fun _ => mr (a := (1, 0, S)) hp f1 h1⟩)))
  · subst ev
    rw [S_at_nI S hj, hs] at hp
    have hn12 := (S_12 h.1 hj hs).2
    refine m_isNoValue (fun hx => ?_) (fun hx => ?_)
    · simp only [sp_li, if_neg hx] at hp
      exact m_rcv h (m_fails h (fun G1 f1 h1 => ⟨fun z => absurd z (by decide), fun _ => mr hp f1 h1⟩))
    · simp only [sp_li, if_pos hx] at hp
      refine m_rcv h (m_fails h (fun G1 f1 h1 => ⟨fun _ => m_rcv h1 (m_all h1 hj hs (fun q f G2 q0 q1 q2 q3 h2 => m_oftenIn q1 (by omega) ?_)), fun z => absurd (by decide) z⟩))
      rw [← ofF_cn, ofF_cg n (fun t ht => q2 t ht)]
      exact mr hp (fr_al f1 q0 q3) h2
theorem m_removeValue {v x : Int32} (h : MoR G M S th) (hp : mRes M G post (sp_li S (S_at S v) fun r b n => if okV x then (if fpF (S_v S r b) x n 0 = -1 then (0, 0, S) else (0, -9, S_ref S)) else (2, 0, S))) : w_X3_removeValue K post (some M.1.1) v x G := by
  refine m_rcv h (m_isNoList h (fun c => ?_) (fun j r b n hj ev hs => ?_))
  · rw [c] at hp
    exact m_isNoValue (fun _ => m_rcv h (m_fails h (fun G1 f1 h1 => ⟨fun z => absurd z (by decide), fun _ => mr (a := (1, 0, S)) hp f1 h1⟩))) (fun _ => m_rcv h (m_fails h (fun G1 f1 h1 => ⟨fun z => absurd z (by decide), fun _ => mr (a := (1, 0, S)) hp f1 h1⟩)))
  · subst ev
    rw [S_at_nI S hj, hs] at hp
    have hn12 := (S_12 h.1 hj hs).2
    refine m_isNoValue (fun hx => ?_) (fun hx => ?_)
    · simp only [sp_li, if_neg hx] at hp
      exact m_rcv h (m_fails h (fun G1 f1 h1 => ⟨fun z => absurd z (by decide), fun _ => mr hp f1 h1⟩))
    · simp only [sp_li, if_pos hx] at hp
      refine m_rcv h (m_fails h (fun G1 f1 h1 => ⟨fun _ => m_rcv h1 (m_all h1 hj hs (fun q f G2 q0 q1 q2 q3 h2 => m_oftenIn q1 (by omega) ?_)), fun z => absurd (by decide) z⟩))
      rw [← ofF_cn, ofF_cg n (fun t ht => q2 t ht), ofF_cn]
      have hle := cnF_le (S_v S r b) x n
      have hcn := fpF_cn (S_v S r b) x (show n < 2 ^ 31 by omega)
      by_cases c : cnF (S_v S r b) x n = 0
      · rw [if_pos (hcn.mpr c)] at hp
        rw [c]
        exact ⟨fun _ => m_rcv h2 (m_refusedIf h2 (fun _ => mr hp (fr_al f1 q0 q3) h2) (fun z => absurd rfl z)), fun z => absurd (by decide) z⟩
      · rw [if_neg (fun z => c (hcn.mp z))] at hp
        exact ⟨fun z => absurd z (nI_nle (by omega) (by omega)), fun _ => m_rcv h2 (m_refusedIf h2 (fun z => absurd z (by decide)) (fun _ G3 f3 h3 => mr hp (fr_tr (fr_al f1 q0 q3) f3) h3))⟩
end MOG
end
section
/-! the model: last place, sums, rows, what is refused -/
section MOH
variable {K : tK} {G : tG} {M : tM} {S : tS} {th : Int32} {post : Int32 → tG → Prop}
theorem m_lastIndexOf {v x : Int32} (h : MoR G M S th) (hp : mRes M G post (sp_li S (S_at S v) fun r b n => if okV x then (0, lpF (S_v S r b) x n, S) else (2, 0, S))) : w_X3_lastIndexOf K post (some M.1.1) v x G := by
  refine m_rcv h (m_isNoList h (fun c => ?_) (fun j r b n hj ev hs => ?_))
  · rw [c] at hp
    exact m_isNoValue (fun _ => m_rcv h (m_fails h (fun G1 f1 h1 => ⟨fun z => absurd z (by decide), fun _ => mr (a := (1, 0, S)) hp f1 h1⟩))) (fun _ => m_rcv h (m_fails h (fun G1 f1 h1 => ⟨fun z => absurd z (by decide), fun _ => mr (a := (1, 0, S)) hp f1 h1⟩)))
  · subst ev
    rw [S_at_nI S hj, hs] at hp
    have hn12 := (S_12 h.1 hj hs).2
    refine m_isNoValue (fun hx => ?_) (fun hx => ?_)
    · simp only [sp_li, if_neg hx] at hp
      exact m_rcv h (m_fails h (fun G1 f1 h1 => ⟨fun z => absurd z (by decide), fun _ => mr hp f1 h1⟩))
    · simp only [sp_li, if_pos hx] at hp
      refine m_rcv h (m_fails h (fun G1 f1 h1 => ⟨fun _ => ?_, fun z => absurd (by decide) z⟩))
      have main : ∀ k i, i + k = n → w_X3_lastIndexOf_23 K post (k + 1) (some M.1.1) (nI j) x (lpF (S_v S r b) x i) (nI i) G1 := by
        intro k
        induction k with
        | zero =>
          intro i hi
          show w_X3_lastIndexOf_23_b K post (w_X3_lastIndexOf_23 K post 0) (some M.1.1) (nI j) x (lpF (S_v S r b) x i) (nI i) G1
          have e : i = n := by omega
          subst e
          exact m_len h1 hj hs ⟨fun _ => mr hp f1 h1, fun c => absurd (nI_le (by omega) (by omega)) c⟩
        | succ k ih =>
          intro i hi
          show w_X3_lastIndexOf_23_b K post (w_X3_lastIndexOf_23 K post (k + 1)) (some M.1.1) (nI j) x (lpF (S_v S r b) x i) (nI i) G1
          have hi2 := ih (i + 1) (by omega)
          refine m_len h1 hj hs ⟨fun c => absurd c (nI_ge (by omega) (by omega)), fun _ => m_rcv h1 (m_value h1 hj hs (by omega) ⟨fun c => ?_, fun c => ?_⟩)⟩
          · have e : lpF (S_v S r b) x (i + 1) = lpF (S_v S r b) x i := by show (if _ then _ else _) = _; rw [if_neg c]
            rw [e] at hi2
            show w_X3_lastIndexOf_23 K post (k + 1) (some M.1.1) (nI j) x (lpF (S_v S r b) x i) (nI i + 1) G1
            rw [nI_1]; exact hi2
          · have e : lpF (S_v S r b) x (i + 1) = nI i := by show (if _ then _ else _) = _; rw [if_pos c]
            rw [e] at hi2
            show w_X3_lastIndexOf_23 K post (k + 1) (some M.1.1) (nI j) x (nI i) (nI i + 1) G1
            rw [nI_1]; exact hi2
      exact ⟨n + 1, main n 0 (by omega)⟩
theorem m_codeNow {pk : Int32 → tG → Prop} {j r b n : Nat} (h : MoR G M S th) (hj : j < 7) (hs : S.1 j = some (r, b, n)) (hp : ∀ q G', G q = none → (∀ a, a ≠ q → G' a = G a) → MoR G' M S th → pk (coF (S_v S r b) n) G') : w_X3_codeNow K pk (some M.1.1) (nI j) G := by
  have hn12 := (S_12 h.1 hj hs).2
  refine m_rcv h (m_all h hj hs (fun q f G2 q0 q1 q2 q3 h2 => lenA_i q1 ?_))
  have main : ∀ k i, i + k = n → w_X3_codeNow_15 K pk (k + 1) (coF f i) (some q) (nI n) (nI i) G2 := by
    intro k
    induction k with
    | zero =>
      intro i hi
      show w_X3_codeNow_15_b K pk (w_X3_codeNow_15 K pk 0) (coF f i) (some q) (nI n) (nI i) G2
      have e : i = n := by omega
      subst e
      refine ⟨fun _ => ?_, fun c => absurd (nI_le (by omega) (by omega)) c⟩
      rw [coF_cg i q2]
      exact hp q G2 q0 q3 h2
    | succ k ih =>
      intro i hi
      show w_X3_codeNow_15_b K pk (w_X3_codeNow_15 K pk (k + 1)) (coF f i) (some q) (nI n) (nI i) G2
      have hi2 := ih (i + 1) (by omega)
      have e : coF f (i + 1) = 31 * coF f i + nuF (f i) := rfl
      rw [e] at hi2
      unfold nuF at hi2
      refine ⟨fun c => absurd c (nI_ge (by omega) (by omega)), fun _ => alI_i q1 rfl (by omega) (by omega) ⟨fun c => ?_, fun c => ?_⟩⟩
      · rw [if_neg c] at hi2
        show w_X3_codeNow_15 K pk (k + 1) (31 * coF f i + f i) (some q) (nI n) (nI i + 1) G2
        rw [nI_1]; exact hi2
      · rw [if_pos c] at hi2
        show w_X3_codeNow_15 K pk (k + 1) (31 * coF f i + 0) (some q) (nI n) (nI i + 1) G2
        rw [nI_1]; exact hi2
  exact ⟨n + 1, main n 0 (by omega)⟩
theorem m_sumNow {pk : Int32 → tG → Prop} {j r b n : Nat} (h : MoR G M S th) (hj : j < 7) (hs : S.1 j = some (r, b, n)) (hp : ∀ q G', G q = none → (∀ a, a ≠ q → G' a = G a) → MoR G' M S th → pk (suF (S_v S r b) n) G') : w_X3_sumNow K pk (some M.1.1) (nI j) G := by
  have hn12 := (S_12 h.1 hj hs).2
  refine m_rcv h (m_all h hj hs (fun q f G2 q0 q1 q2 q3 h2 => lenA_i q1 ?_))
  have main : ∀ k i, i + k = n → w_X3_sumNow_15 K pk (k + 1) (suF f i) (some q) (nI n) (nI i) G2 := by
    intro k
    induction k with
    | zero =>
      intro i hi
      show w_X3_sumNow_15_b K pk (w_X3_sumNow_15 K pk 0) (suF f i) (some q) (nI n) (nI i) G2
      have e : i = n := by omega
      subst e
      refine ⟨fun _ => ?_, fun c => absurd (nI_le (by omega) (by omega)) c⟩
      rw [suF_cg i q2]
      exact hp q G2 q0 q3 h2
    | succ k ih =>
      intro i hi
      show w_X3_sumNow_15_b K pk (w_X3_sumNow_15 K pk (k + 1)) (suF f i) (some q) (nI n) (nI i) G2
      have hi2 := ih (i + 1) (by omega)
      have e : suF f (i + 1) = suF f i + nuF (f i) := rfl
      rw [e] at hi2
      unfold nuF at hi2
      refine ⟨fun c => absurd c (nI_ge (by omega) (by omega)), fun _ => alI_i q1 rfl (by omega) (by omega) ⟨fun c => ?_, fun c => ?_⟩⟩
      · rw [if_neg c] at hi2
        show w_X3_sumNow_15 K pk (k + 1) (suF f i + f i) (some q) (nI n) (nI i + 1) G2
        rw [nI_1]; exact hi2
      · rw [if_pos c] at hi2
        show w_X3_sumNow_15 K pk (k + 1) (suF f i + 0) (some q) (nI n) (nI i + 1) G2
        rw [nI_1]; exact hi2
  exact ⟨n + 1, main n 0 (by omega)⟩
theorem m_code {v : Int32} (h : MoR G M S th) (hp : mRes M G post (sp_li S (S_at S v) fun r b n => (0, coF (S_v S r b) n, S))) : w_X3_code K post (some M.1.1) v G := by
  refine m_rcv h (m_isNoList h (fun c => ?_) (fun j r b n hj ev hs => ?_))
  · rw [c] at hp
    exact m_rcv h (m_fails h (fun G1 f1 h1 => ⟨fun z => absurd z (by decide), fun _ => mr (a := (1, 0, S)) hp f1 h1⟩))
  · subst ev
    rw [S_at_nI S hj, hs] at hp
    exact m_rcv h (m_fails h (fun G1 f1 h1 => ⟨fun _ => m_rcv h1 (m_codeNow h1 hj hs (fun q G2 q0 q3 h2 => mr hp (fr_al f1 q0 q3) h2)), fun z => absurd (by decide) z⟩))
theorem m_sum {v : Int32} (h : MoR G M S th) (hp : mRes M G post (sp_li S (S_at S v) fun r b n => (0, suF (S_v S r b) n, S))) : w_X3_sum K post (some M.1.1) v G := by
  refine m_rcv h (m_isNoList h (fun c => ?_) (fun j r b n hj ev hs => ?_))
  · rw [c] at hp
    exact m_rcv h (m_fails h (fun G1 f1 h1 => ⟨fun z => absurd z (by decide), fun _ => mr (a := (1, 0, S)) hp f1 h1⟩))
  · subst ev
    rw [S_at_nI S hj, hs] at hp
    exact m_rcv h (m_fails h (fun G1 f1 h1 => ⟨fun _ => m_rcv h1 (m_sumNow h1 hj hs (fun q G2 q0 q3 h2 => mr hp (fr_al f1 q0 q3) h2)), fun z => absurd (by decide) z⟩))
theorem S_tw_nI {r : Nat} (hr : r < 3) : S_tw S (nI r) = S.1 r := by
  unfold S_tw
  rw [nI_toInt (by omega), if_pos (by omega)]; rfl
theorem sp_tw_ok {r n i : Nat} {F : Nat → Nat → Nat → Nat → tA} (hr : r < 3) (hs : S.1 r = some (r, 0, n)) (hi : i < n) (hn : n ≤ 12) : sp_at S (S_tw S (nI r)) (nI i) F = F r 0 n i := by
  rw [S_tw_nI hr, hs]
  show (if 0 ≤ (nI i).toInt ∧ (nI i).toInt < n then F r 0 n (nI i).toInt.toNat else (1, 0, S)) = _
  rw [if_pos (nI_inn hi (by omega)), nI_nat (by omega)]
theorem m_at {v w : Int32} (h : MoR G M S th) (hp : mRes M G post (sp_at S (S_tw S v) w fun r b n i => (0, S.2.1 r (b + i), S))) : w_X3_at K post (some M.1.1) v w G := by
  refine m_rcv h (m_isNoRowPlace h (fun c => ?_) (fun r n i hr ev hs hi hn ew => ?_))
  · rw [sp_at_bad c] at hp
    exact m_rcv h (m_fails h (fun G1 f1 h1 => ⟨fun z => absurd z (by decide), fun _ => mr hp f1 h1⟩))
  · subst ev; subst ew
    rw [sp_tw_ok hr hs hi hn, Nat.zero_add] at hp
    refine m_rcv h (m_fails h (fun G1 f1 h1 => ⟨fun _ => m_rows h1 hr ?_, fun z => absurd (by decide) z⟩))
    obtain ⟨f, g1, g2, g3⟩ := m_rowA h1 hr hs
    refine alI_i g1 rfl hi (by omega) ?_
    rw [g2 i hi]
    exact mr hp f1 h1
theorem m_put {v w x : Int32} (h : MoR G M S th) (hp : mRes M G post (sp_at S (S_tw S v) w fun r b n i => if okV x then (0, S.2.1 r (b + i), S_put S r (b + i) x) else (2, 0, S))) : w_X3_put K post (some M.1.1) v w x G := by
  refine m_rcv h (m_isNoRowPlace h (fun c => ?_) (fun r n i hr ev hs hi hn ew => ?_))
  · rw [sp_at_bad c] at hp
    exact m_isNoValue (fun _ => m_rcv h (m_fails h (fun G1 f1 h1 => ⟨fun z => absurd z (by decide), fun _ => mr hp f1 h1⟩))) (fun _ => m_rcv h (m_fails h (fun G1 f1 h1 => ⟨fun z => absurd z (by decide), fun _ => mr hp f1 h1⟩)))
  · subst ev; subst ew
    rw [sp_tw_ok hr hs hi hn, Nat.zero_add] at hp
    refine m_isNoValue (fun hx => ?_) (fun hx => ?_)
    · rw [if_neg hx] at hp
      exact m_rcv h (m_fails h (fun G1 f1 h1 => ⟨fun z => absurd z (by decide), fun _ => mr hp f1 h1⟩))
    · rw [if_pos hx] at hp
      refine m_rcv h (m_fails h (fun G1 f1 h1 => ⟨fun _ => m_rows h1 hr ?_, fun z => absurd (by decide) z⟩))
      obtain ⟨f, g1, g2, g3⟩ := m_rowA h1 hr hs
      refine alI_i g1 rfl hi (by omega) (m_rows h1 hr (asI_i g1 rfl hi (by omega) ?_))
      rw [g2 i hi]
      exact mr hp (fr_tr f1 (fr_up _ (moW_r hr))) (MoR_put h1 hr hs g1 g2 hx)
theorem m_clear {v : Int32} (h : MoR G M S th) (hp : mRes M G post (sp_li S (S_at S v) fun _ _ n => if n = 0 then (0, 0, S) else (0, -9, S_ref S))) : w_X3_clear K post (some M.1.1) v G := by
  refine m_rcv h (m_isNoList h (fun c => ?_) (fun j r b n hj ev hs => ?_))
  · rw [c] at hp
    exact m_rcv h (m_fails h (fun G1 f1 h1 => ⟨fun z => absurd z (by decide), fun _ => mr (a := (1, 0, S)) hp f1 h1⟩))
  · subst ev
    rw [S_at_nI S hj, hs] at hp
    have hn12 := (S_12 h.1 hj hs).2
    refine m_rcv h (m_fails h (fun G1 f1 h1 => ⟨fun _ => m_len h1 hj hs ⟨fun c => m_rcv h1 (m_refusedIf h1 (fun _ => ?_) (fun z => absurd rfl z)), fun c => m_rcv h1 (m_refusedIf h1 (fun z => absurd z (by decide)) (fun _ G2 f2 h2 => ?_))⟩, fun z => absurd (by decide) z⟩))
    · have hn : n = 0 := Decidable.byContradiction fun e => nI_nle (by omega) (by omega) c
      simp only [sp_li, if_pos hn] at hp
      exact mr hp f1 h1
    · have hn : ¬ n = 0 := fun e => c (by rw [e]; decide)
      simp only [sp_li, if_neg hn] at hp
      exact mr hp (fr_tr f1 f2) h2
theorem m_walkChange {v w x : Int32} (h : MoR G M S th) (hp : mRes M G post (sp_at S (S_at S v) w fun _ _ _ _ => if inR x 0 2 then (0, -9, S_ref S) else (2, 0, S))) : w_X3_walkChange K post (some M.1.1) v w x G := by
  refine m_rcv h (m_isNoPlace h (fun c => ?_) (fun j r b n i hj ev hs hi ew => ?_))
  · rw [sp_at_bad c] at hp
    exact m_isIn (fun _ => ⟨fun _ => m_rcv h (m_fails h (fun G1 f1 h1 => ⟨fun z => absurd z (by decide), fun _ => mr hp f1 h1⟩)), fun z => absurd z (by decide)⟩) (fun _ => ⟨fun z => absurd rfl z, fun _ => m_rcv h (m_fails h (fun G1 f1 h1 => ⟨fun z => absurd z (by decide), fun _ => mr hp f1 h1⟩))⟩)
  · subst ev; subst ew
    have hn := (S_12 h.1 hj hs).2
    rw [sp_at_ok hj hs hi (by omega)] at hp
    refine m_isIn (fun hx => ⟨fun _ => ?_, fun z => absurd z (by decide)⟩) (fun hx => ⟨fun z => absurd rfl z, fun _ => ?_⟩)
    · rw [if_pos hx] at hp
      exact m_rcv h (m_fails h (fun G1 f1 h1 => ⟨fun _ => m_rcv h1 (m_refused h1 (fun G2 f2 h2 => mr hp (fr_tr f1 f2) h2)), fun z => absurd (by decide) z⟩))
    · rw [if_neg hx] at hp
      exact m_rcv h (m_fails h (fun G1 f1 h1 => ⟨fun z => absurd z (by decide), fun _ => mr hp f1 h1⟩))
theorem m_addAt {v w x : Int32} (h : MoR G M S th) (hp : mRes M G post (sp_li S (S_at S v) fun _ _ n => if inR w 0 (nI n) ∧ okV x then (0, -9, S_ref S) else (2, 0, S))) : w_X3_addAt K post (some M.1.1) v w x G := by
  refine m_rcv h (m_isNoList h (fun c => ?_) (fun j r b n hj ev hs => ?_))
  · rw [c] at hp
    have hbad : ∀ u, w_X3_addAt_27 K post (some M.1.1) (some M.1.1) 1 u G := fun u => m_rcv h (m_fails h (fun G1 f1 h1 => ⟨fun z => absurd (show (1 : Int32) = 0 from z) (by decide), fun _ => mr (a := (1, 0, S)) hp f1 h1⟩))
    exact m_rcv h (m_isBeyond h (fun _ => ⟨fun z => absurd rfl z, fun _ => m_isNoValue (fun _ => ⟨fun z => absurd z (by decide), fun _ => hbad 1⟩) (fun _ => ⟨fun _ => hbad 0, fun z => absurd rfl z⟩)⟩) (fun j r b n hj ev hs _ => by subst ev; rw [S_at_nI S hj, hs] at c; cases c) (fun j r b n hj ev hs _ => by subst ev; rw [S_at_nI S hj, hs] at c; cases c))
  · have ec : S_at S v = some (r, b, n) := by rw [ev, S_at_nI S hj]; exact hs
    rw [ec] at hp
    have hbad : ¬ (inR w 0 (nI n) ∧ okV x) → w_X3_addAt_27 K post (some M.1.1) (some M.1.1) 0 1 G := fun q => by
      simp only [sp_li, if_neg q] at hp
      exact m_rcv h (m_fails h (fun G1 f1 h1 => ⟨fun z => absurd z (by decide), fun _ => mr hp f1 h1⟩))
    have hgood : (inR w 0 (nI n) ∧ okV x) → w_X3_addAt_27 K post (some M.1.1) (some M.1.1) 0 0 G := fun q => by
      simp only [sp_li, if_pos q] at hp
      exact m_rcv h (m_fails h (fun G1 f1 h1 => ⟨fun _ => m_rcv h1 (m_refused h1 (fun G2 f2 h2 => mr hp (fr_tr f1 f2) h2)), fun z => absurd (by decide) z⟩))
    refine m_rcv h (m_isBeyond h (fun c => ?_) (fun j2 r2 b2 n2 hj2 ev2 hs2 q => ⟨fun _ => hbad (fun z => q ?_), fun z => absurd z (by decide)⟩) (fun j2 r2 b2 n2 hj2 ev2 hs2 q => ⟨fun z => absurd rfl z, fun _ => m_isNoValue (fun hx => ⟨fun z => absurd z (by decide), fun _ => hbad (fun z => hx z.2)⟩) (fun hx => ⟨fun _ => hgood ⟨?_, hx⟩, fun z => absurd rfl z⟩)⟩))
    · rw [ec] at c; cases c
    · have e2 : S_at S v = some (r2, b2, n2) := by rw [ev2, S_at_nI S hj2]; exact hs2
      rw [ec] at e2; cases e2; exact z.1
    · have e2 : S_at S v = some (r2, b2, n2) := by rw [ev2, S_at_nI S hj2]; exact hs2
      rw [ec] at e2; cases e2; exact q
theorem m_swap {v w x : Int32} (h : MoR G M S th) (hp : mRes M G post (sp_at S (S_at S v) w fun r b n i => if 0 ≤ x.toInt ∧ x.toInt < n then (0, if S.2.1 r (b + i) = S.2.1 r (b + x.toInt.toNat) then 0 else 1, S_exch S r (b + i) (b + x.toInt.toNat)) else (1, 0, S))) : w_X3_swap K post (some M.1.1) v w x G := by
  refine m_rcv h (m_isNoPlace h (fun c => ⟨fun _ => ?_, fun z => absurd z (by decide)⟩) (fun j r b n i hj ev hs hi ew => ⟨fun z => absurd rfl z, fun _ => ?_⟩))
  · rw [sp_at_bad c] at hp
    exact m_rcv h (m_fails h (fun G1 f1 h1 => ⟨fun z => absurd z (by decide), fun _ => mr hp f1 h1⟩))
  · subst ev; subst ew
    have hn := (S_12 h.1 hj hs).2
    rw [sp_at_ok hj hs hi (by omega)] at hp
    refine m_rcv h (m_isNoPlace h (fun c => ⟨fun z => absurd z (by decide), fun _ => ?_⟩) (fun j2 r2 b2 n2 k hj2 ev hs2 hk ew => ⟨fun _ => ?_, fun z => absurd rfl z⟩))
    · have hc : ¬ (0 ≤ x.toInt ∧ x.toInt < n) := by
        rcases c with c | ⟨r2, b2, n2, c, d⟩
        · rw [S_at_nI S hj, hs] at c; cases c
        · rw [S_at_nI S hj, hs] at c; cases c; exact d
      rw [if_neg hc] at hp
      exact m_rcv h (m_fails h (fun G1 f1 h1 => ⟨fun z => absurd z (by decide), fun _ => mr hp f1 h1⟩))
    · have e : j = j2 := (nI_eq (by omega) (by omega)).mp ev
      subst e
      rw [hs] at hs2
      cases hs2
      subst ew
      rw [if_pos (nI_inn hk (by omega)), nI_nat (by omega)] at hp
      obtain ⟨hr, -⟩ := S_12 h.1 hj hs
      refine m_rcv h (m_fails h (fun G1 f1 h1 => ⟨fun _ => m_rcv h1 (m_value h1 hj hs hi (m_rcv h1 (m_value h1 hj hs hk ?_))), fun z => absurd (by decide) z⟩))
      refine m_rcv h1 (m_write h1 hj hs hi (h1.1.2.2 r _ hr (by omega)) (fun G2 f2 h2 => m_rcv h2 (m_write (S := S_put S r (b + i) (S.2.1 r (b + k))) h2 hj hs hk (h1.1.2.2 r _ hr (by omega)) (fun G3 f3 h3 => ⟨fun c => ?_, fun c => ?_⟩))))
      · rw [if_pos c] at hp
        exact m_one (fun _ => mr hp (fr_tr f1 (fr_tr f2 f3)) h3) (fun z => absurd rfl z)
      · rw [if_neg c] at hp
        exact m_one (fun z => absurd z (by decide)) (fun _ => mr hp (fr_tr f1 (fr_tr f2 f3)) h3)
theorem m_fill {v x : Int32} (h : MoR G M S th) (hp : mRes M G post (sp_li S (S_at S v) fun r b n => if okV x then (0, nI n, S_map S r b (fun _ _ => x) n) else (2, 0, S))) : w_X3_fill K post (some M.1.1) v x G := by
  refine m_rcv h (m_isNoList h (fun c => ?_) (fun j r b n hj ev hs => ?_))
  · rw [c] at hp
    exact m_isNoValue (fun _ => m_rcv h (m_fails h (fun G1 f1 h1 => ⟨fun z => absurd z (by decide), fun _ => mr (a := (1, 0, S)) hp f1 h1⟩))) (fun _ => m_rcv h (m_fails h (fun G1 f1 h1 => ⟨fun z => absurd z (by decide), fun _ => mr (a := (1, 0, S)) hp f1 h1⟩)))
  · subst ev
    rw [S_at_nI S hj, hs] at hp
    have hn12 := (S_12 h.1 hj hs).2
    refine m_isNoValue (fun hx => ?_) (fun hx => ?_)
    · simp only [sp_li, if_neg hx] at hp
      exact m_rcv h (m_fails h (fun G1 f1 h1 => ⟨fun z => absurd z (by decide), fun _ => mr hp f1 h1⟩))
    · simp only [sp_li, if_pos hx] at hp
      refine m_rcv h (m_fails h (fun G1 f1 h1 => ⟨fun _ => ?_, fun z => absurd (by decide) z⟩))
      have main : ∀ k i G2, i + k = n → fr (moW M) G G2 → MoR G2 M (S_map S r b (fun _ _ => x) i) 0 → w_X3_fill_20 K post (k + 1) (some M.1.1) (nI j) x (nI i) G2 := by
        intro k
        induction k with
        | zero =>
          intro i G2 hi f2 h2
          show w_X3_fill_20_b K post (w_X3_fill_20 K post 0) (some M.1.1) (nI j) x (nI i) G2
          have e : i = n := by omega
          subst e
          have hs2 : (S_map S r b (fun _ _ => x) i).1 j = some (r, b, i) := by rw [(S_map_1 S r b _ i).1]; exact hs
          exact m_len h2 hj hs2 ⟨fun _ => m_len h2 hj hs2 (mr hp f2 h2), fun c => absurd (nI_le (by omega) (by omega)) c⟩
        | succ k ih =>
          intro i G2 hi f2 h2
          show w_X3_fill_20_b K post (w_X3_fill_20 K post (k + 1)) (some M.1.1) (nI j) x (nI i) G2
          have hs2 : (S_map S r b (fun _ _ => x) i).1 j = some (r, b, n) := by rw [(S_map_1 S r b _ i).1]; exact hs
          refine m_len h2 hj hs2 ⟨fun c => absurd c (nI_ge (by omega) (by omega)), fun _ => m_rcv h2 (m_write h2 hj hs2 (by omega) hx (fun G3 f3 h3 => ?_))⟩
          rw [nI_1]
          exact ih (i + 1) G3 (by omega) (fr_tr f2 f3) h3
      exact ⟨n + 1, main n 0 G1 (by omega) f1 h1⟩
end MOH
end
section
/-! the model: two lists -/
def shF (f g : Nat → Int32) (m : Nat) : Nat → Nat
  | 0 => 0
  | k + 1 => shF f g m k + (if cnF g (f k) m = 0 then 0 else 1)
theorem shF_le (f g : Nat → Int32) (m : Nat) : ∀ k, shF f g m k ≤ k
  | 0 => Nat.le_refl _
  | k + 1 => by
    have := shF_le f g m k
    show shF f g m k + (if cnF g (f k) m = 0 then 0 else 1) ≤ k + 1
    split <;> omega
theorem shF_0 (f g : Nat → Int32) (m : Nat) : ∀ k, shF f g m k = 0 ↔ ∀ t, t < k → cnF g (f t) m = 0
  | 0 => ⟨fun _ t h => absurd h (by omega), fun _ => rfl⟩
  | k + 1 => by
    have ih := shF_0 f g m k
    show shF f g m k + (if cnF g (f k) m = 0 then 0 else 1) = 0 ↔ _
    by_cases c : cnF g (f k) m = 0
    · rw [if_pos c]
      constructor
      · intro z t ht
        by_cases e : t = k
        · rw [e]; exact c
        · exact ih.mp (by omega) t (by omega)
      · intro z
        have := ih.mpr (fun t ht => z t (by omega))
        omega
    · rw [if_neg c]
      exact ⟨fun z => absurd z (by omega), fun z => absurd (z k (by omega)) c⟩
theorem shF_k (f g : Nat → Int32) (m : Nat) : ∀ k, shF f g m k = k ↔ ∀ t, t < k → cnF g (f t) m ≠ 0
  | 0 => ⟨fun _ t h => absurd h (by omega), fun _ => rfl⟩
  | k + 1 => by
    have ih := shF_k f g m k
    have hle := shF_le f g m k
    show shF f g m k + (if cnF g (f k) m = 0 then 0 else 1) = k + 1 ↔ _
    by_cases c : cnF g (f k) m = 0
    · rw [if_pos c]
      exact ⟨fun z => absurd z (by omega), fun z => absurd c (z k (by omega))⟩
    · rw [if_neg c]
      constructor
      · intro z t ht
        by_cases e : t = k
        · rw [e]; exact c
        · exact ih.mp (by omega) t (by omega)
      · intro z
        have := ih.mpr (fun t ht => z t (by omega))
        omega
theorem onF_0 (f g : Nat → Int32) (m : Nat) (is : Int32) : ∀ k i, onF f g m is k i = 0 ↔ ∀ t, i ≤ t → t < i + k → stF g m (f t) ≠ is
  | 0, i => ⟨fun _ t h1 h2 => absurd h2 (by omega), fun _ => rfl⟩
  | k + 1, i => by
    show (if stF g m (f i) = is then 1 else onF f g m is k (i + 1)) = 0 ↔ _
    by_cases c : stF g m (f i) = is
    · rw [if_pos c]
      exact ⟨fun z => absurd z (by decide), fun z => absurd c (z i (by omega) (by omega))⟩
    · rw [if_neg c, onF_0 f g m is k (i + 1)]
      refine ⟨fun q j h1 h2 => ?_, fun q j h1 h2 => q j (by omega) (by omega)⟩
      by_cases e : j = i
      · rw [e]; exact c
      · exact q j (by omega) (by omega)
theorem stF_1 (g : Nat → Int32) {m : Nat} (hm : m < 2 ^ 31) (x : Int32) : stF g m x ≠ 1 ↔ cnF g x m = 0 := by
  have := fpF_cn g x hm
  unfold stF
  by_cases c : cnF g x m = 0
  · rw [if_pos (this.mpr c)]; exact ⟨fun _ => c, fun _ => by decide⟩
  · rw [if_neg (fun z => c (this.mp z))]; exact ⟨fun z => absurd rfl z, fun z => absurd z c⟩
theorem stF_0 (g : Nat → Int32) {m : Nat} (hm : m < 2 ^ 31) (x : Int32) : stF g m x ≠ 0 ↔ cnF g x m ≠ 0 := by
  have := fpF_cn g x hm
  unfold stF
  by_cases c : cnF g x m = 0
  · rw [if_pos (this.mpr c)]; exact ⟨fun z => absurd rfl z, fun z => absurd c z⟩
  · rw [if_neg (fun z => c (this.mp z))]; exact ⟨fun _ => c, fun _ => by decide⟩
theorem onF_sh1 (f g : Nat → Int32) {m : Nat} (hm : m < 2 ^ 31) (k : Nat) : onF f g m 1 k 0 = 0 ↔ shF f g m k = 0 := by
  rw [onF_0, shF_0]
  exact ⟨fun z t ht => (stF_1 g hm _).mp (z t (by omega) (by omega)), fun z t _ ht => (stF_1 g hm _).mpr (z t (by omega))⟩
theorem onF_sh0 (f g : Nat → Int32) {m : Nat} (hm : m < 2 ^ 31) (k : Nat) : onF f g m 0 k 0 = 0 ↔ shF f g m k = k := by
  rw [onF_0, shF_k]
  exact ⟨fun z t ht => (stF_0 g hm _).mp (z t (by omega) (by omega)), fun z t _ ht => (stF_0 g hm _).mpr (z t (by omega))⟩
theorem cnF_cg {f g : Nat → Int32} {x : Int32} : ∀ k, (∀ t, t < k → f t = g t) → cnF f x k = cnF g x k
  | 0, _ => rfl
  | k + 1, h => by
    show cnF f x k + (if f k = x then 1 else 0) = cnF g x k + (if g k = x then 1 else 0)
    rw [h k (by omega), cnF_cg k (fun t ht => h t (by omega))]
theorem shF_cg {f f' g : Nat → Int32} {m : Nat} : ∀ k, (∀ t, t < k → f t = f' t) → shF f g m k = shF f' g m k
  | 0, _ => rfl
  | k + 1, h => by
    show shF f g m k + (if cnF g (f k) m = 0 then 0 else 1) = shF f' g m k + (if cnF g (f' k) m = 0 then 0 else 1)
    rw [h k (by omega), shF_cg k (fun t ht => h t (by omega))]
theorem sp_2_bad {S : tS} {p q : Option (Nat × Nat × Nat)} {F : Nat → Nat → Nat → Nat → Nat → Nat → tA} (c : p = none ∨ q = none) : sp_2 S p q F = (1, 0, S) := by
  rcases c with c | c
  · rw [c]; rfl
  · rw [c]; rcases p with _ | ⟨r, b, n⟩ <;> rfl
section MOI
variable {K : tK} {G : tG} {M : tM} {S : tS} {th : Int32} {post : Int32 → tG → Prop}
theorem m_shared {pk : Int32 → tG → Prop} {j r b n j2 r2 b2 n2 : Nat} (h : MoR G M S th) (hj : j < 7) (hs : S.1 j = some (r, b, n)) (hj2 : j2 < 7) (hs2 : S.1 j2 = some (r2, b2, n2)) (hp : ∀ G', fr (moW M) G G' → MoR G' M S th → pk (nI (shF (S_v S r b) (S_v S r2 b2) n2 n)) G') : w_X3_shared K pk (some M.1.1) (nI j) (nI j2) G := by
  have hn12 := (S_12 h.1 hj hs).2
  have hm12 := (S_12 h.1 hj2 hs2).2
  refine ⟨⟨by omega, by omega⟩, m_rcv h (m_all h hj hs (fun q f G2 q0 q1 q2 q3 h2 => lenA_i q1 ?_))⟩
  have main : ∀ k i G3, i + k = n → fr (moW M) G G3 → MoR G3 M S th → G3 q = some (eI n f) → w_X3_shared_17 K pk (k + 1) (1 + i) (12 + 12 * i) (some M.1.1) (nI j2) (nI (shF (S_v S r b) (S_v S r2 b2) n2 i)) (some q) (nI n) (nI i) G3 := by
    intro k
    induction k with
    | zero =>
      intro i G3 hi f3 h3 e3
      show w_X3_shared_17_b K pk (w_X3_shared_17 K pk 0) (1 + i) (12 + 12 * i) (some M.1.1) (nI j2) (nI (shF (S_v S r b) (S_v S r2 b2) n2 i)) (some q) (nI n) (nI i) G3
      have e : i = n := by omega
      subst e
      exact ⟨fun _ => hp G3 f3 h3, fun c => absurd (nI_le (by omega) (by omega)) c⟩
    | succ k ih =>
      intro i G3 hi f3 h3 e3
      show w_X3_shared_17_b K pk (w_X3_shared_17 K pk (k + 1)) (1 + i) (12 + 12 * i) (some M.1.1) (nI j2) (nI (shF (S_v S r b) (S_v S r2 b2) n2 i)) (some q) (nI n) (nI i) G3
      refine ⟨fun c => absurd c (nI_ge (by omega) (by omega)), fun _ => alI_i e3 rfl (by omega) (by omega) ⟨⟨by omega, by omega⟩, m_rcv h3 (m_all h3 hj2 hs2 (fun q' f' G4 p0 p1 p2 p3 h4 => m_oftenIn p1 (by omega) ?_))⟩⟩
      have hne : q ≠ q' := fun c => by rw [← c, e3] at p0; cases p0
      have e4 : G4 q = some (eI n f) := by rw [p3 q hne]; exact e3
      have hi2 := ih (i + 1) G4 (by omega) (fr_al f3 p0 p3) h4 e4
      rw [q2 i (by omega), cnF_cg n2 p2]
      have hle := cnF_le (S_v S r2 b2) (S_v S r b i) n2
      have e5 : shF (S_v S r b) (S_v S r2 b2) n2 (i + 1) = shF (S_v S r b) (S_v S r2 b2) n2 i + (if cnF (S_v S r2 b2) (S_v S r b i) n2 = 0 then 0 else 1) := rfl
      rw [e5] at hi2
      rw [show 1 + (i + 1) = 1 + i + 1 by omega, show 12 + 12 * (i + 1) = 12 + 12 * i + 12 by omega] at hi2
      refine ⟨fun c => m_one (fun _ => ?_) (fun z => absurd rfl z), fun c => m_one (fun z => absurd z (by decide)) (fun _ => ?_)⟩
      · have hc : cnF (S_v S r2 b2) (S_v S r b i) n2 = 0 := Decidable.byContradiction fun e => nI_nle (by omega) (by omega) c
        rw [if_pos hc, Nat.add_zero] at hi2
        rw [nI_1, Int32.add_zero]; exact hi2
      · have hc : ¬ cnF (S_v S r2 b2) (S_v S r b i) n2 = 0 := fun e => c (by rw [e]; decide)
        rw [if_neg hc] at hi2
        rw [nI_1, nI_1]; exact hi2
  have := main n 0 G2 (by omega) (fr_al (fr_rf _ _) q0 q3) h2 q1
  exact ⟨n + 1, this⟩
theorem m_hasAll {v w : Int32} (h : MoR G M S th) (hp : mRes M G post (sp_2 S (S_at S v) (S_at S w) fun r b n r2 b2 n2 => (0, if onF (S_v S r2 b2) (S_v S r b) n 0 n2 0 = 0 then 1 else 0, S))) : w_X3_hasAll K post (some M.1.1) v w G := by
  refine m_rcv h (m_isNoPair h (fun c => ?_) (fun j r b n j2 r2 b2 n2 hj ev hs hj2 ew hs2 => ?_))
  · rw [sp_2_bad c] at hp
    exact m_rcv h (m_fails h (fun G1 f1 h1 => ⟨fun _ => ⟨by decide, mr hp f1 h1⟩, fun z => absurd z (by decide)⟩))
  · subst ev; subst ew
    rw [S_at_nI S hj, S_at_nI S hj2, hs, hs2] at hp
    have hn12 := (S_12 h.1 hj hs).2
    have hm12 := (S_12 h.1 hj2 hs2).2
    have hon := onF_sh0 (S_v S r2 b2) (S_v S r b) (show n < 2 ^ 31 by omega) n2
    have hle := shF_le (S_v S r2 b2) (S_v S r b) n n2
    refine m_rcv h (m_fails h (fun G1 f1 h1 => ⟨fun z => absurd (by decide) z, fun _ => m_rcv h1 (m_shared h1 hj2 hs2 hj hs (fun G2 f2 h2 => m_len h2 hj2 hs2 ⟨fun c => ⟨by decide, ?_⟩, fun c => ⟨by decide, ?_⟩⟩))⟩))
    · have hc : ¬ shF (S_v S r2 b2) (S_v S r b) n n2 = n2 := fun e => c (by rw [e])
      simp only [sp_2, if_neg (fun z => hc (hon.mp z))] at hp
      exact mr hp (fr_tr f1 f2) h2
    · have hc := (nI_eq (by omega) (by omega)).mp c
      simp only [sp_2, if_pos (hon.mpr hc)] at hp
      exact mr hp (fr_tr f1 f2) h2
theorem m_areApart {v w : Int32} (h : MoR G M S th) (hp : mRes M G post (sp_2 S (S_at S v) (S_at S w) fun r b n r2 b2 n2 => (0, if onF (S_v S r b) (S_v S r2 b2) n2 1 n 0 = 0 then 1 else 0, S))) : w_X3_areApart K post (some M.1.1) v w G := by
  refine m_rcv h (m_isNoPair h (fun c => ?_) (fun j r b n j2 r2 b2 n2 hj ev hs hj2 ew hs2 => ?_))
  · rw [sp_2_bad c] at hp
    exact m_rcv h (m_fails h (fun G1 f1 h1 => ⟨fun _ => ⟨by decide, mr hp f1 h1⟩, fun z => absurd z (by decide)⟩))
  · subst ev; subst ew
    rw [S_at_nI S hj, S_at_nI S hj2, hs, hs2] at hp
    have hn12 := (S_12 h.1 hj hs).2
    have hm12 := (S_12 h.1 hj2 hs2).2
    have hon := onF_sh1 (S_v S r b) (S_v S r2 b2) (show n2 < 2 ^ 31 by omega) n
    have hle := shF_le (S_v S r b) (S_v S r2 b2) n2 n
    refine m_rcv h (m_fails h (fun G1 f1 h1 => ⟨fun z => absurd (by decide) z, fun _ => m_rcv h1 (m_shared h1 hj hs hj2 hs2 (fun G2 f2 h2 => ⟨fun c => ⟨by decide, ?_⟩, fun c => ⟨by decide, ?_⟩⟩))⟩))
    · have hc : ¬ shF (S_v S r b) (S_v S r2 b2) n2 n = 0 := fun e => c (by rw [e]; rfl)
      simp only [sp_2, if_neg (fun z => hc (hon.mp z))] at hp
      exact mr hp (fr_tr f1 f2) h2
    · have hc : shF (S_v S r b) (S_v S r2 b2) n2 n = 0 := (nI_eq (b := 0) (by omega) (by omega)).mp c
      simp only [sp_2, if_pos (hon.mpr hc)] at hp
      exact mr hp (fr_tr f1 f2) h2
theorem m_addAll {v w : Int32} (h : MoR G M S th) (hp : mRes M G post (sp_2 S (S_at S v) (S_at S w) fun _ _ _ _ _ n2 => if n2 = 0 then (0, 0, S) else (0, -9, S_ref S))) : w_X3_addAll K post (some M.1.1) v w G := by
  refine m_rcv h (m_isNoPair h (fun c => ?_) (fun j r b n j2 r2 b2 n2 hj ev hs hj2 ew hs2 => ?_))
  · rw [sp_2_bad c] at hp
    exact m_rcv h (m_fails h (fun G1 f1 h1 => ⟨fun z => absurd z (by decide), fun _ => mr hp f1 h1⟩))
  · subst ev; subst ew
    rw [S_at_nI S hj, S_at_nI S hj2, hs, hs2] at hp
    have hm12 := (S_12 h.1 hj2 hs2).2
    refine m_rcv h (m_fails h (fun G1 f1 h1 => ⟨fun _ => m_len h1 hj2 hs2 ⟨fun c => m_rcv h1 (m_refusedIf h1 (fun _ => ?_) (fun z => absurd rfl z)), fun c => m_rcv h1 (m_refusedIf h1 (fun z => absurd z (by decide)) (fun _ G2 f2 h2 => ?_))⟩, fun z => absurd (by decide) z⟩))
    · have hn : n2 = 0 := Decidable.byContradiction fun e => nI_nle (by omega) (by omega) c
      simp only [sp_2, if_pos hn] at hp
      exact mr hp f1 h1
    · have hn : ¬ n2 = 0 := fun e => c (by rw [e]; decide)
      simp only [sp_2, if_neg hn] at hp
      exact mr hp (fr_tr f1 f2) h2
theorem m_removeAll {v w : Int32} (h : MoR G M S th) (hp : mRes M G post (sp_2 S (S_at S v) (S_at S w) fun r b n r2 b2 n2 => if onF (S_v S r b) (S_v S r2 b2) n2 1 n 0 = 0 then (0, 0, S) else (0, -9, S_ref S))) : w_X3_removeAll K post (some M.1.1) v w G := by
  refine m_rcv h (m_isNoPair h (fun c => ?_) (fun j r b n j2 r2 b2 n2 hj ev hs hj2 ew hs2 => ?_))
  · rw [sp_2_bad c] at hp
    exact m_rcv h (m_fails h (fun G1 f1 h1 => ⟨fun z => absurd z (by decide), fun _ => mr hp f1 h1⟩))
  · subst ev; subst ew
    rw [S_at_nI S hj, S_at_nI S hj2, hs, hs2] at hp
    have hn12 := (S_12 h.1 hj hs).2
    have hm12 := (S_12 h.1 hj2 hs2).2
    have hon := onF_sh1 (S_v S r b) (S_v S r2 b2) (show n2 < 2 ^ 31 by omega) n
    have hle := shF_le (S_v S r b) (S_v S r2 b2) n2 n
    refine m_rcv h (m_fails h (fun G1 f1 h1 => ⟨fun _ => m_rcv h1 (m_shared h1 hj hs hj2 hs2 (fun G2 f2 h2 => ⟨fun c => m_rcv h2 (m_refusedIf h2 (fun _ => ?_) (fun z => absurd rfl z)), fun c => m_rcv h2 (m_refusedIf h2 (fun z => absurd z (by decide)) (fun _ G3 f3 h3 => ?_))⟩)), fun z => absurd (by decide) z⟩))
    · have hc : shF (S_v S r b) (S_v S r2 b2) n2 n = 0 := Decidable.byContradiction fun e => nI_nle (by omega) (by omega) c
      simp only [sp_2, if_pos (hon.mpr hc)] at hp
      exact mr hp (fr_tr f1 f2) h2
    · have hc : ¬ shF (S_v S r b) (S_v S r2 b2) n2 n = 0 := fun e => c (by rw [e]; decide)
      simp only [sp_2, if_neg (fun z => hc (hon.mp z))] at hp
      exact mr hp (fr_tr f1 (fr_tr f2 f3)) h3
theorem m_retainAll {v w : Int32} (h : MoR G M S th) (hp : mRes M G post (sp_2 S (S_at S v) (S_at S w) fun r b n r2 b2 n2 => if onF (S_v S r b) (S_v S r2 b2) n2 0 n 0 = 0 then (0, 0, S) else (0, -9, S_ref S))) : w_X3_retainAll K post (some M.1.1) v w G := by
  refine m_rcv h (m_isNoPair h (fun c => ?_) (fun j r b n j2 r2 b2 n2 hj ev hs hj2 ew hs2 => ?_))
  · rw [sp_2_bad c] at hp
    exact m_rcv h (m_fails h (fun G1 f1 h1 => ⟨fun z => absurd z (by decide), fun _ => mr hp f1 h1⟩))
  · subst ev; subst ew
    rw [S_at_nI S hj, S_at_nI S hj2, hs, hs2] at hp
    have hn12 := (S_12 h.1 hj hs).2
    have hm12 := (S_12 h.1 hj2 hs2).2
    have hon := onF_sh0 (S_v S r b) (S_v S r2 b2) (show n2 < 2 ^ 31 by omega) n
    have hle := shF_le (S_v S r b) (S_v S r2 b2) n2 n
    refine m_rcv h (m_fails h (fun G1 f1 h1 => ⟨fun _ => m_rcv h1 (m_shared h1 hj hs hj2 hs2 (fun G2 f2 h2 => m_len h2 hj hs ⟨fun c => m_rcv h2 (m_refusedIf h2 (fun _ => ?_) (fun z => absurd rfl z)), fun c => m_rcv h2 (m_refusedIf h2 (fun z => absurd z (by decide)) (fun _ G3 f3 h3 => ?_))⟩)), fun z => absurd (by decide) z⟩))
    · rw [nI_leI (by omega) (by omega)] at c
      have hc : shF (S_v S r b) (S_v S r2 b2) n2 n = n := by omega
      simp only [sp_2, if_pos (hon.mpr hc)] at hp
      exact mr hp (fr_tr f1 f2) h2
    · rw [nI_leI (by omega) (by omega)] at c
      have hc : ¬ shF (S_v S r b) (S_v S r2 b2) n2 n = n := by omega
      simp only [sp_2, if_neg (fun z => hc (hon.mp z))] at hp
      exact mr hp (fr_tr f1 (fr_tr f2 f3)) h3
end MOI
end
section
/-! the model: one list in another one; tests -/
def iatF (f g : Nat → Int32) (n n2 a : Nat) : Int32 := if a + n2 ≤ n then haF (fun t => f (a + t)) g n2 0 else 0
def ixF (f g : Nat → Int32) (n n2 : Nat) : Nat → Nat → Int32
  | 0, _ => -1
  | k + 1, i => if iatF f g n n2 i = 0 then ixF f g n n2 k (i + 1) else nI i
theorem ixF_ia (f g : Nat → Int32) (n n2 : Nat) : ∀ k i, i + k = n + 1 → ixF f g n n2 k i = iaF f g n2 (n + 1 - n2 - i) i
  | 0, i, h => by
    rw [show n + 1 - n2 - i = 0 by omega]; rfl
  | k + 1, i, h => by
    show (if iatF f g n n2 i = 0 then ixF f g n n2 k (i + 1) else nI i) = _
    rw [ixF_ia f g n n2 k (i + 1) (by omega)]
    unfold iatF
    by_cases c : i + n2 ≤ n
    · rw [if_pos c, show n + 1 - n2 - i = (n + 1 - n2 - (i + 1)) + 1 by omega]; rfl
    · rw [if_neg c, if_pos rfl, show n + 1 - n2 - i = 0 by omega, show n + 1 - n2 - (i + 1) = 0 by omega]; rfl
theorem iatF_01 (f g : Nat → Int32) (n n2 a : Nat) : iatF f g n n2 a = 0 ∨ iatF f g n n2 a = 1 := by
  unfold iatF
  split
  · exact haF_01 _ _ _ _
  · exact Or.inl rfl
def orF (f : Nat → Int32) (t w : Int32) : Nat → Int32
  | 0 => 0
  | k + 1 => orF f t w k ||| tsF t w (f k)
theorem tsF_01 (t w x : Int32) : tsF t w x = 0 ∨ tsF t w x = 1 := by
  unfold tsF
  split
  · split
    · exact Or.inr rfl
    · exact Or.inl rfl
  · split
    · split
      · exact Or.inr rfl
      · exact Or.inl rfl
    · split
      · exact Or.inl rfl
      · split
        · exact Or.inl rfl
        · exact Or.inr rfl
theorem orF_01 (f : Nat → Int32) (t w : Int32) : ∀ k, (orF f t w k = 0 ∨ orF f t w k = 1) ∧ (orF f t w k = 0 ↔ ∀ i, i < k → tsF t w (f i) = 0)
  | 0 => ⟨Or.inl rfl, fun _ i h => absurd h (by omega), fun _ => rfl⟩
  | k + 1 => by
    obtain ⟨h1, h2⟩ := orF_01 f t w k
    show ((orF f t w k ||| tsF t w (f k)) = 0 ∨ (orF f t w k ||| tsF t w (f k)) = 1) ∧ ((orF f t w k ||| tsF t w (f k)) = 0 ↔ _)
    rcases tsF_01 t w (f k) with c | c
    · rcases h1 with d | d
      · rw [c, d]
        refine ⟨Or.inl (by decide), fun _ i hi => ?_, fun _ => by decide⟩
        by_cases e : i = k
        · rw [e]; exact c
        · exact h2.mp d i (by omega)
      · rw [c, d]
        refine ⟨Or.inr (by decide), fun z => absurd z (by decide), fun z => ?_⟩
        have := h2.mpr (fun i hi => z i (by omega))
        rw [d] at this; exact absurd this (by decide)
    · have e : (orF f t w k ||| tsF t w (f k)) = 1 := by
        rcases h1 with d | d <;> rw [c, d] <;> decide
      rw [e]
      refine ⟨Or.inr rfl, fun z => absurd z (by decide), fun z => ?_⟩
      have := z k (by omega)
      rw [c] at this; exact absurd this (by decide)
theorem otF_0 (f : Nat → Int32) (t w : Int32) : ∀ k i, otF f t w k i = 0 ↔ ∀ s, i ≤ s → s < i + k → tsF t w (f s) = 0
  | 0, i => ⟨fun _ s h1 h2 => absurd h2 (by omega), fun _ => rfl⟩
  | k + 1, i => by
    show (if tsF t w (f i) = 0 then otF f t w k (i + 1) else 1) = 0 ↔ _
    by_cases c : tsF t w (f i) = 0
    · rw [if_pos c, otF_0 f t w k (i + 1)]
      refine ⟨fun q j h1 h2 => ?_, fun q j h1 h2 => q j (by omega) (by omega)⟩
      by_cases e : j = i
      · rw [e]; exact c
      · exact q j (by omega) (by omega)
    · rw [if_neg c]
      exact ⟨fun z => absurd z (by decide), fun z => absurd (z i (by omega) (by omega)) c⟩
section MOJ
variable {K : tK} {G : tG} {M : tM} {S : tS} {th : Int32} {post : Int32 → tG → Prop}
theorem m_isAt {pk : Int32 → tG → Prop} {q q' n n2 a : Nat} {f g : Nat → Int32} (hq : G q = some (eI n f)) (hq' : G q' = some (eI n2 g)) (hn : n < 2 ^ 30) (hn2 : n2 < 2 ^ 30) (ha : a < 2 ^ 30) (h : pk (iatF f g n n2 a) G) : w_X3_isAt K pk (some q) (nI a) (some q') G := by
  unfold iatF at h
  refine lenA_i hq' (lenA_i hq ?_)
  have e0 : nI a + nI n2 = nI (a + n2) := nI_add _ _
  by_cases c : a + n2 ≤ n
  · rw [if_pos c] at h
    have main : ∀ k i, i + k = n2 → pk (haF (fun t => f (a + t)) g k i) G → w_X3_isAt_18 K pk (k + 1) (some q) (nI a) (some q') 1 (nI i) G := by
      intro k
      induction k with
      | zero =>
        intro i hi hp
        show w_X3_isAt_18_b K pk (w_X3_isAt_18 K pk 0) (some q) (nI a) (some q') 1 (nI i) G
        exact lenA_i hq' ⟨fun _ => ⟨by decide, hp⟩, fun c => absurd (nI_le (by omega) (by omega)) c⟩
      | succ k ih =>
        intro i hi hp
        show w_X3_isAt_18_b K pk (w_X3_isAt_18 K pk (k + 1)) (some q) (nI a) (some q') 1 (nI i) G
        refine lenA_i hq' ⟨fun c => absurd c (nI_ge (by omega) (by omega)), fun _ => ⟨fun z => absurd z (by decide), fun _ => alI_i hq (nI_add a i) (by omega) (by omega) (alI_i hq' rfl (by omega) (by omega) ⟨fun d => ?_, fun d => ?_⟩)⟩⟩
        · have d : ¬ (fun t => f (a + t)) i = g i := d
          simp only [haF, if_neg d] at hp
          show w_X3_isAt_18_b K pk (w_X3_isAt_18 K pk k) (some q) (nI a) (some q') 0 (nI i + 1) G
          exact lenA_i hq' ⟨fun _ => ⟨by decide, hp⟩, fun _ => ⟨fun _ => ⟨by decide, hp⟩, fun z => absurd rfl z⟩⟩
        · have d : (fun t => f (a + t)) i = g i := d
          simp only [haF, if_pos d] at hp
          show w_X3_isAt_18 K pk (k + 1) (some q) (nI a) (some q') 1 (nI i + 1) G
          rw [nI_1]
          exact ih (i + 1) (by omega) hp
    refine ⟨fun d => ?_, fun _ => ⟨n2 + 1, main n2 0 (by omega) h⟩⟩
    rw [e0] at d
    exact absurd d (nI_nlt (show a + n2 ≤ n from c) (by omega))
  · rw [if_neg c] at h
    refine ⟨fun _ => ⟨1, ?_⟩, fun d => absurd ?_ d⟩
    · show w_X3_isAt_18_b K pk (w_X3_isAt_18 K pk 0) (some q) (nI a) (some q') 0 0 G
      exact lenA_i hq' ⟨fun _ => ⟨by decide, h⟩, fun _ => ⟨fun _ => ⟨by decide, h⟩, fun z => absurd rfl z⟩⟩
    · rw [e0]
      exact nI_lt (show n < a + n2 by omega) (by omega)
theorem iatF_cg {f g f' g' : Nat → Int32} {n n2 a : Nat} (hf : ∀ t, t < n → f t = f' t) (hg : ∀ t, t < n2 → g t = g' t) : iatF f g n n2 a = iatF f' g' n n2 a := by
  unfold iatF
  by_cases c : a + n2 ≤ n
  · rw [if_pos c, if_pos c]
    exact haF_cg n2 0 (fun t _ ht => ⟨hf (a + t) (by omega), hg t (by omega)⟩)
  · rw [if_neg c, if_neg c]
theorem m_areEqual {v w : Int32} (h : MoR G M S th) (hp : mRes M G post (sp_2 S (S_at S v) (S_at S w) fun r b n r2 b2 n2 => (0, if n = n2 then haF (S_v S r b) (S_v S r2 b2) n2 0 else 0, S))) : w_X3_areEqual K post (some M.1.1) v w G := by
  refine m_rcv h (m_isNoPair h (fun c => ?_) (fun j r b n j2 r2 b2 n2 hj ev hs hj2 ew hs2 => ?_))
  · rw [sp_2_bad c] at hp
    exact m_rcv h (m_fails h (fun G1 f1 h1 => ⟨fun _ => ⟨by decide, mr hp f1 h1⟩, fun z => absurd z (by decide)⟩))
  · subst ev; subst ew
    rw [S_at_nI S hj, S_at_nI S hj2, hs, hs2] at hp
    have hn12 := (S_12 h.1 hj hs).2
    have hm12 := (S_12 h.1 hj2 hs2).2
    refine m_rcv h (m_fails h (fun G1 f1 h1 => ⟨fun z => absurd (by decide) z, fun _ => m_len h1 hj hs (m_len h1 hj2 hs2 ⟨fun c => ⟨by decide, ?_⟩, fun c => ?_⟩)⟩))
    · simp only [sp_2, if_neg (fun e : n = n2 => c (by rw [e]))] at hp
      exact mr hp f1 h1
    · have hc := (nI_eq (by omega) (by omega)).mp c
      simp only [sp_2, if_pos hc] at hp
      refine m_rcv h1 (m_all h1 hj hs (fun q f G2 q0 q1 q2 q3 h2 => m_rcv h2 (m_all h2 hj2 hs2 (fun q' f' G3 p0 p1 p2 p3 h3 => ?_))))
      have hne : q ≠ q' := fun c => by rw [← c, q1] at p0; cases p0
      have e3 : G3 q = some (eI n f) := by rw [p3 q hne]; exact q1
      refine m_isAt (a := 0) e3 p1 (by omega) (by omega) (by omega) ?_
      have e4 : iatF f f' n n2 0 = haF (S_v S r b) (S_v S r2 b2) n2 0 := by
        rw [iatF_cg q2 p2]
        unfold iatF
        rw [if_pos (by omega)]
        exact haF_cg n2 0 (fun t _ _ => ⟨by rw [Nat.zero_add], rfl⟩)
      rw [e4]
      have hq := mr hp (fr_al (fr_al f1 q0 q3) p0 p3) h3
      rcases haF_01 (S_v S r b) (S_v S r2 b2) n2 0 with d | d
      · rw [d] at hq ⊢
        exact ⟨fun _ => ⟨by decide, hq⟩, fun z => absurd rfl z⟩
      · rw [d] at hq ⊢
        exact ⟨fun z => absurd z (by decide), fun _ => ⟨by decide, hq⟩⟩
theorem m_indexOfAll {v w : Int32} (h : MoR G M S th) (hp : mRes M G post (sp_2 S (S_at S v) (S_at S w) fun r b n r2 b2 n2 => (0, iaF (S_v S r b) (S_v S r2 b2) n2 (n + 1 - n2) 0, S))) : w_X3_indexOfAll K post (some M.1.1) v w G := by
  refine m_rcv h (m_isNoPair h (fun c => ?_) (fun j r b n j2 r2 b2 n2 hj ev hs hj2 ew hs2 => ?_))
  · rw [sp_2_bad c] at hp
    exact m_rcv h (m_fails h (fun G1 f1 h1 => ⟨fun z => absurd z (by decide), fun _ => mr hp f1 h1⟩))
  · subst ev; subst ew
    rw [S_at_nI S hj, S_at_nI S hj2, hs, hs2] at hp
    have hn12 := (S_12 h.1 hj hs).2
    have hm12 := (S_12 h.1 hj2 hs2).2
    refine m_rcv h (m_fails h (fun G1 f1 h1 => ⟨fun _ => ?_, fun z => absurd (by decide) z⟩))
    have hp2 : ∀ G', fr (moW M) G G' → MoR G' M S 0 → post (ixF (S_v S r b) (S_v S r2 b2) n n2 (n + 1) 0) G' := fun G' f' h' => by
      rw [ixF_ia (S_v S r b) (S_v S r2 b2) n n2 (n + 1) 0 (by omega)]
      exact mr hp f' h'
    have main : ∀ k i G2, i + k = n + 1 → fr (moW M) G G2 → MoR G2 M S 0 → (∀ G', fr (moW M) G G' → MoR G' M S 0 → post (ixF (S_v S r b) (S_v S r2 b2) n n2 k i) G') → w_X3_indexOfAll_18 K post (k + 1) (2 * i) (24 * i) (some M.1.1) (nI j) (nI j2) (nI i) G2 := by
      intro k
      induction k with
      | zero =>
        intro i G2 hi f2 h2 hq
        show w_X3_indexOfAll_18_b K post (w_X3_indexOfAll_18 K post 0) (2 * i) (24 * i) (some M.1.1) (nI j) (nI j2) (nI i) G2
        exact m_len h2 hj hs ⟨fun _ => hq G2 f2 h2, fun c => absurd (nI_lt (by omega) (by omega)) c⟩
      | succ k ih =>
        intro i G2 hi f2 h2 hq
        show w_X3_indexOfAll_18_b K post (w_X3_indexOfAll_18 K post (k + 1)) (2 * i) (24 * i) (some M.1.1) (nI j) (nI j2) (nI i) G2
        refine m_len h2 hj hs ⟨fun c => absurd c (nI_nlt (by omega) (by omega)), fun _ => ⟨⟨by omega, by omega⟩, m_rcv h2 (m_all h2 hj hs (fun q f G3 q0 q1 q2 q3 h3 => ⟨⟨by omega, by omega⟩, m_rcv h3 (m_all h3 hj2 hs2 (fun q' f' G4 p0 p1 p2 p3 h4 => ?_))⟩))⟩⟩
        have hne : q ≠ q' := fun c => by rw [← c, q1] at p0; cases p0
        have e4 : G4 q = some (eI n f) := by rw [p3 q hne]; exact q1
        have f4 := fr_al (fr_al f2 q0 q3) p0 p3
        refine m_isAt e4 p1 (by omega) (by omega) (by omega) ?_
        rw [iatF_cg q2 p2]
        refine ⟨fun d => ?_, fun d => ?_⟩
        · simp only [ixF, if_pos d] at hq
          rw [nI_1, show 2 * i + 1 + 1 = 2 * (i + 1) by omega, show 24 * i + 12 + 12 = 24 * (i + 1) by omega]
          exact ih (i + 1) G4 (by omega) f4 h4 hq
        · simp only [ixF, if_neg d] at hq
          exact hq G4 f4 h4
    exact ⟨n + 1 + 1, main (n + 1) 0 G1 (by omega) f1 h1 hp2⟩
theorem m_tested {pk : Int32 → tG → Prop} {x t w : Int32} (h : pk (tsF t w x) G) : w_X3_tested K pk t x w G := by
  unfold tsF at h
  refine ⟨fun c => ⟨fun c1 => ⟨fun d => ⟨by decide, ?_⟩, fun d => ⟨fun d2 => ⟨by decide, ?_⟩, fun d2 => ⟨by decide, ?_⟩⟩⟩, fun c1 => ⟨fun d => ⟨by decide, ?_⟩, fun d => ⟨by decide, ?_⟩⟩⟩, fun c => ⟨fun d => ⟨by decide, ?_⟩, fun d => ⟨by decide, ?_⟩⟩⟩
  · rw [if_neg c, if_neg c1, if_pos d] at h; exact h
  · rw [if_neg c, if_neg c1, if_neg d, if_pos d2] at h; exact h
  · rw [if_neg c, if_neg c1, if_neg d, if_neg d2] at h; exact h
  · rw [if_neg c, if_pos c1, if_neg d] at h; exact h
  · rw [if_neg c, if_pos c1, if_pos d] at h; exact h
  · rw [if_pos c, if_neg d] at h; exact h
  · rw [if_pos c, if_pos d] at h; exact h
theorem orF_cg {f g : Nat → Int32} {t w : Int32} : ∀ k, (∀ s, s < k → f s = g s) → orF f t w k = orF g t w k
  | 0, _ => rfl
  | k + 1, h => by
    show (orF f t w k ||| tsF t w (f k)) = (orF g t w k ||| tsF t w (g k))
    rw [h k (by omega), orF_cg k (fun t ht => h t (by omega))]
theorem m_removeIf {v t w : Int32} (h : MoR G M S th) (hp : mRes M G post (sp_li S (S_at S v) fun r b n => if inR t 0 2 ∧ inR w (-99) 99 then (if otF (S_v S r b) t w n 0 = 0 then (0, 0, S) else (0, -9, S_ref S)) else (2, 0, S))) : w_X3_removeIf K post (some M.1.1) v t w G := by
  refine m_rcv h (m_isNoList h (fun c => ?_) (fun j r b n hj ev hs => ?_))
  · rw [c] at hp
    have hbad : ∀ u, w_X3_removeIf_31 K post (some M.1.1) v t w (some M.1.1) 1 u G := fun u => m_rcv h (m_fails h (fun G1 f1 h1 => ⟨fun z => absurd (show (1 : Int32) = 0 from z) (by decide), fun _ => mr (a := (1, 0, S)) hp f1 h1⟩))
    exact m_isIn (fun _ => ⟨fun z => absurd z (by decide), fun _ => m_isIn (fun _ => ⟨fun _ => hbad 0, fun z => absurd z (by decide)⟩) (fun _ => ⟨fun z => absurd rfl z, fun _ => hbad 1⟩)⟩) (fun _ => ⟨fun _ => hbad 1, fun z => absurd rfl z⟩)
  · subst ev
    rw [S_at_nI S hj, hs] at hp
    have hn12 := (S_12 h.1 hj hs).2
    have hbad : ¬ (inR t 0 2 ∧ inR w (-99) 99) → w_X3_removeIf_31 K post (some M.1.1) (nI j) t w (some M.1.1) 0 1 G := fun q => by
      simp only [sp_li, if_neg q] at hp
      exact m_rcv h (m_fails h (fun G1 f1 h1 => ⟨fun z => absurd z (by decide), fun _ => mr hp f1 h1⟩))
    refine m_isIn (fun ht => ⟨fun z => absurd z (by decide), fun _ => m_isIn (fun hw => ⟨fun _ => ?_, fun z => absurd z (by decide)⟩) (fun hw => ⟨fun z => absurd rfl z, fun _ => hbad (fun z => hw z.2)⟩)⟩) (fun ht => ⟨fun _ => hbad (fun z => ht z.1), fun z => absurd rfl z⟩)
    simp only [sp_li, if_pos (And.intro ht hw)] at hp
    refine m_rcv h (m_fails h (fun G1 f1 h1 => ⟨fun _ => m_rcv h1 (m_all h1 hj hs (fun q f G2 q0 q1 q2 q3 h2 => lenA_i q1 ?_)), fun z => absurd (by decide) z⟩))
    have hot := otF_0 (S_v S r b) t w n 0
    have hor := (orF_01 (S_v S r b) t w n).2
    have main : ∀ k i, i + k = n → w_X3_removeIf_57 K post (k + 1) (some M.1.1) t w (orF f t w i) (some q) (nI n) (nI i) G2 := by
      intro k
      induction k with
      | zero =>
        intro i hi
        show w_X3_removeIf_57_b K post (w_X3_removeIf_57 K post 0) (some M.1.1) t w (orF f t w i) (some q) (nI n) (nI i) G2
        have e : i = n := by omega
        subst e
        refine ⟨fun _ => ?_, fun c => absurd (nI_le (by omega) (by omega)) c⟩
        rw [orF_cg i q2]
        refine m_rcv h2 (m_refusedIf h2 (fun c => ?_) (fun c G3 f3 h3 => ?_))
        · rw [if_pos (hot.mpr (fun s _ hs => hor.mp c s (by omega)))] at hp
          exact mr hp (fr_al f1 q0 q3) h2
        · rw [if_neg (fun z => c (hor.mpr (fun s hs => hot.mp z s (by omega) (by omega))))] at hp
          exact mr hp (fr_tr (fr_al f1 q0 q3) f3) h3
      | succ k ih =>
        intro i hi
        show w_X3_removeIf_57_b K post (w_X3_removeIf_57 K post (k + 1)) (some M.1.1) t w (orF f t w i) (some q) (nI n) (nI i) G2
        refine ⟨fun c => absurd c (nI_ge (by omega) (by omega)), fun _ => alI_i q1 rfl (by omega) (by omega) (m_tested ?_)⟩
        rw [nI_1]
        exact ih (i + 1) (by omega)
    exact ⟨n + 1, main n 0 (by omega)⟩
end MOJ
end
section
/-! the model: the whole -/
section MOK
variable {K : tK} {G : tG} {M : tM} {S : tS} {th : Int32} {post : Int32 → tG → Prop}
theorem m_kn {P : Int32 → Prop} (h : MoR G M S th) (hp : P S.2.2.1) : gfI G (some M.1.1) 5 4 P := by
  obtain ⟨-, ⟨sm, h2⟩, -⟩ := h
  exact gfI_i h2 rfl hp
theorem m_rf {P : Int32 → Prop} (h : MoR G M S th) (hp : P S.2.2.2) : gfI G (some M.1.1) 5 5 P := by
  obtain ⟨-, ⟨sm, h2⟩, -⟩ := h
  exact gfI_i h2 rfl hp
theorem m_rlen {P : Int32 → Prop} {r : Nat} (h : MoR G M S th) (hr : r < 3) (hp : P (nI (lnF (S.1 r)))) : gfR G (some M.1.1) 5 0 (fun x => alR G x (nI r) (.array .int) (fun y => lenA G y P)) := by
  refine m_rows h hr ?_
  obtain ⟨n, d1, d2⟩ := h.1.1 r hr
  obtain ⟨f, g1, g2, g3⟩ := m_rowA h hr d1
  refine lenA_i g1 ?_
  rw [d1] at hp
  exact hp
theorem m_houseNow {pk : Int32 → tG → Prop} {w : Nat} (hw : w < 4) (h : MoR G M S th) (hp : ∀ q G', G q = none → (∀ a, a ≠ q → G' a = G a) → MoR G' M S th → pk (hoF S (nI w)) G') : w_X3_houseNow K pk (some M.1.1) (nI w) G := by
  have main : ∀ k i, i + k = 4 → w_X3_houseNow_4 K pk (k + 1) (some M.1.1) (nI w) (paF S i) (nI (3 + i)) G := by
    intro k
    induction k with
    | zero =>
      intro i hi
      show w_X3_houseNow_4_b K pk (w_X3_houseNow_4 K pk 0) (some M.1.1) (nI w) (paF S i) (nI (3 + i)) G
      have e : i = 4 := by omega
      subst e
      refine ⟨fun _ => ⟨4, rfl, by omega, fun q hq => ?_⟩, fun c => absurd (by decide) c⟩
      have fr1 : ∀ {G1 : tG}, (∀ a, a ≠ q → G1 a = G a) → MoR G1 M S th := fun hk => MoR_fresh h hq hk
      have k1 : ∀ {G1 : tG} {e : tE}, (∀ a, a ≠ q → G1 a = G a) → ∀ a, a ≠ q → tg_up G1 q e a = G a := fun hk a ha => by rw [tg_n _ _ ha]; exact hk a ha
      have kA : ∀ {e : tE}, ∀ a, a ≠ q → tg_up G q e a = G a := fun a ha => tg_n _ _ ha
      refine m_kn (fr1 kA) (asI_i (j := 0) (tg_s _ _ _) rfl (by omega) (by omega) ?_)
      refine m_rf (fr1 (k1 kA)) (asI_i (j := 1) (tg_s _ _ _) rfl (by omega) (by omega) ?_)
      refine asI_i (j := 2) (tg_s _ _ _) rfl (by omega) (by omega) ?_
      refine m_rlen (r := 0) (fr1 (k1 (k1 (k1 kA)))) (by omega) ?_
      refine m_rlen (r := 1) (fr1 (k1 (k1 (k1 kA)))) (by omega) ?_
      refine m_rlen (r := 2) (fr1 (k1 (k1 (k1 kA)))) (by omega) ?_
      refine asI_i (j := 3) (tg_s _ _ _) rfl (by omega) (by omega) ?_
      refine alI_i (tg_s _ _ _) rfl hw (by omega) ?_
      have hf : ∀ G' : tG, (∀ a, a ≠ q → G' a = G a) → pk (hoF S (nI w)) G' := fun G' hk => hp q G' hq hk (fr1 hk)
      have e3 : prF S 3 = nI (lnF (S.1 0)) + nI (lnF (S.1 1)) + nI (lnF (S.1 2)) := by
        show 0 + nI (lnF (S.1 0)) + nI (lnF (S.1 1)) + nI (lnF (S.1 2)) = _
        rw [Int32.zero_add]
      rcases (show w = 0 ∨ w = 1 ∨ w = 2 ∨ w = 3 by omega) with rfl | rfl | rfl | rfl
      · exact hf _ (k1 (k1 (k1 (k1 kA))))
      · exact hf _ (k1 (k1 (k1 (k1 kA))))
      · exact hf _ (k1 (k1 (k1 (k1 kA))))
      · have e4 : hoF S (nI 3) = prF S 3 := rfl
        rw [e4, e3] at hf
        exact hf _ (k1 (k1 (k1 (k1 kA))))
    | succ k ih =>
      intro i hi
      show w_X3_houseNow_4_b K pk (w_X3_houseNow_4 K pk (k + 1)) (some M.1.1) (nI w) (paF S i) (nI (3 + i)) G
      have hi2 := ih (i + 1) (by omega)
      refine ⟨fun c => absurd (show nI 7 ≤ nI (3 + i) from c) (nI_ge (by omega) (by omega)), fun _ => ?_⟩
      cases hq : S.1 (3 + i) with
      | none =>
        have e : paF S (i + 1) = paF S i + 0 := by show _ + (if _ then _ else _) = _; rw [if_pos hq]
        rw [e] at hi2
        refine m_rowN h (by omega) hq ⟨fun _ => m_one (fun _ => ?_) (fun z => absurd rfl z), fun z => absurd rfl z⟩
        rw [nI_1]; exact hi2
      | some s =>
        obtain ⟨r, b, n⟩ := s
        have e : paF S (i + 1) = paF S i + 1 := by show _ + (if _ then _ else _) = _; rw [if_neg (by rw [hq]; exact fun z => by cases z)]
        rw [e] at hi2
        have hr := (S_12 h.1 (show 3 + i < 7 by omega) hq).1
        refine m_row h (by omega) hq ⟨fun z => ?_, fun _ => m_one (fun z => absurd z (by decide)) (fun _ => ?_)⟩
        · exact absurd (show nI r < 0 by rw [z]; decide) (nI_pos (by omega))
        · rw [nI_1]; exact hi2
  exact ⟨5, main 4 0 (by omega)⟩
theorem m_house {v : Int32} (h : MoR G M S th) (hp : mRes M G post (if inR v 0 3 then (0, hoF S v, S) else (1, 0, S))) : w_X3_house K post (some M.1.1) v G := by
  refine m_isIn (fun q => ⟨fun _ => ?_, fun z => absurd z (by decide)⟩) (fun q => ⟨fun z => absurd rfl z, fun _ => ?_⟩)
  · rw [if_pos q] at hp
    obtain ⟨w, hw, rfl⟩ := nI_of2 (M := 3) (n := 3) rfl q.1 q.2
    exact m_rcv h (m_fails h (fun G1 f1 h1 => ⟨fun _ => m_rcv h1 (m_houseNow (by omega) h1 (fun q G2 q0 q3 h2 => mr hp (fr_al f1 q0 q3) h2)), fun z => absurd (by decide) z⟩))
  · rw [if_neg q] at hp
    exact m_rcv h (m_fails h (fun G1 f1 h1 => ⟨fun z => absurd z (by decide), fun _ => mr hp f1 h1⟩))
theorem m_rowOf {v : Int32} (h : MoR G M S th) (hp : mRes M G post (if inR v 0 6 then (0, ro1 (S_at S v), S) else (1, 0, S))) : w_X3_rowOf K post (some M.1.1) v G := by
  refine m_isIn (fun q => ⟨fun _ => ?_, fun z => absurd z (by decide)⟩) (fun q => ⟨fun z => absurd rfl z, fun _ => ?_⟩)
  · rw [if_pos q] at hp
    obtain ⟨w, hw, rfl⟩ := nI_of2 (M := 6) (n := 6) rfl q.1 q.2
    rw [S_at_nI S (by omega)] at hp
    refine m_rcv h (m_fails h (fun G1 f1 h1 => ⟨fun _ => ?_, fun z => absurd (by decide) z⟩))
    cases hq : S.1 w with
    | none =>
      rw [hq] at hp
      exact m_rowN h1 (by omega) hq (mr hp f1 h1)
    | some s =>
      obtain ⟨r, b, n⟩ := s
      rw [hq] at hp
      exact m_row h1 (by omega) hq (mr hp f1 h1)
  · rw [if_neg q] at hp
    exact m_rcv h (m_fails h (fun G1 f1 h1 => ⟨fun z => absurd z (by decide), fun _ => mr hp f1 h1⟩))
theorem m_beginNow {pk : Int32 → tG → Prop} {j : Nat} (hj : j < 7) (h : MoR G M S th) (hp : pk (be1 (S.1 j)) G) : w_X3_beginNow K pk (some M.1.1) (nI j) G := by
  cases hq : S.1 j with
  | none =>
    rw [hq] at hp
    exact m_rowN h hj hq ⟨fun z => absurd rfl z, fun _ => hp⟩
  | some s =>
    obtain ⟨r, b, n⟩ := s
    rw [hq] at hp
    have hr := (S_12 h.1 hj hq).1
    refine m_row h hj hq ⟨fun _ => m_beg h hj hq hp, fun z => ?_⟩
    exact absurd (show nI r < 0 by rw [z]; decide) (nI_pos (by omega))
theorem m_begin {v : Int32} (h : MoR G M S th) (hp : mRes M G post (if inR v 0 6 then (0, be1 (S_at S v), S) else (1, 0, S))) : w_X3_begin K post (some M.1.1) v G := by
  refine m_isIn (fun q => ⟨fun _ => ?_, fun z => absurd z (by decide)⟩) (fun q => ⟨fun z => absurd rfl z, fun _ => ?_⟩)
  · rw [if_pos q] at hp
    obtain ⟨w, hw, rfl⟩ := nI_of2 (M := 6) (n := 6) rfl q.1 q.2
    rw [S_at_nI S (by omega)] at hp
    exact m_rcv h (m_fails h (fun G1 f1 h1 => ⟨fun _ => m_rcv h1 (m_beginNow (by omega) h1 (mr hp f1 h1)), fun z => absurd (by decide) z⟩))
  · rw [if_neg q] at hp
    exact m_rcv h (m_fails h (fun G1 f1 h1 => ⟨fun z => absurd z (by decide), fun _ => mr hp f1 h1⟩))
theorem m_isSound {pk : Int32 → tG → Prop} (h : MoR G M S th) (hp : ∀ G', fr (moW M) G G' → MoR G' M S 0 → pk 1 G') : w_X3_isSound K pk (some M.1.1) G := by
  obtain ⟨-, ⟨sm, h2⟩, -⟩ := id h
  exact pfV_i h2 (Nat.le_of_ble_eq_true rfl) ⟨by decide, hp _ (fr_up _ (Or.inl rfl)) (MoR_own h S.2.2.1 S.2.2.2 0 sm)⟩
/-- with the model's running sum -/
def MoS (G : tG) (M : tM) (S : tS) (th : Int32) (sm : Int64) : Prop := MoR G M S th ∧ G M.1.1 = some (oMo M S.2.2.1 S.2.2.2 th sm)
theorem m_add_ {pv : tG → Prop} {sm x : Int64} (h : MoS G M S th sm) (hp : ∀ G', fr (moW M) G G' → MoS G' M S th (mxF sm x) → pv G') : w_X3_add_ K pv (some M.1.1) x G := by
  refine gfL_i h.2 rfl (pfV_i h.2 (Nat.le_of_ble_eq_true rfl) ?_)
  exact hp _ (fr_up _ (Or.inl rfl)) ⟨MoR_own h.1 S.2.2.1 S.2.2.2 th _, tg_s _ _ _⟩
theorem MoS_R {sm : Int64} (h : MoS G M S th sm) : MoR G M S th := h.1
theorem MoS_fr {G1 : tG} {sm : Int64} (h : MoS G M S th sm) {q : Nat} (hq : G q = none) (hk : ∀ a, a ≠ q → G1 a = G a) : MoS G1 M S th sm := by
  refine ⟨MoR_fresh h.1 hq hk, ?_⟩
  rw [hk _ (fun c => by rw [← c, h.2] at hq; cases hq)]; exact h.2
end MOK
end
section
/-! the model: digest -/
section MOL
variable {K : tK} {G : tG} {M : tM} {S : tS} {th : Int32}
theorem m_digest {pk : Int64 → tG → Prop} (h : MoR G M S th) (hp : ∀ G', fr (moW M) G G' → MoR G' M S 0 → pk (diF S) G') : w_X3_digest K pk (some M.1.1) G := by
  have m3 : ∀ k i nc ns G1, i + k = 7 → nc ≤ 4 + 2 * i → ns ≤ 16 + 24 * i → fr (moW M) G G1 → MoS G1 M S 0 (hd3 S (hd2 S (hd1 S 7778 4) 3) i) → w_X3_digest_110 K pk (k + 1) nc ns (some M.1.1) (nI i) G1 := by
    intro k
    induction k with
    | zero =>
      intro i nc ns G1 hi h1 h2 hf h3
      show w_X3_digest_110_b K pk (w_X3_digest_110 K pk 0) nc ns (some M.1.1) (nI i) G1
      have e : i = 7 := by omega
      subst e
      exact ⟨fun _ => m_rcv h3.1 (m_add_ h3 (fun G2 f2 h4 => gfL_i h4.2 rfl (hp G2 (fr_tr hf f2) h4.1))), fun c => absurd (by decide) c⟩
    | succ k ih =>
      intro i nc ns G1 hi h1 h2 hf h3
      show w_X3_digest_110_b K pk (w_X3_digest_110 K pk (k + 1)) nc ns (some M.1.1) (nI i) G1
      refine ⟨fun c => absurd (show nI 7 ≤ nI i from c) (nI_ge (by omega) (by omega)), fun _ => ?_⟩
      cases hq : S.1 i with
      | none =>
        have e : hd3 S (hd2 S (hd1 S 7778 4) 3) (i + 1) = mxF (mxF (hd3 S (hd2 S (hd1 S 7778 4) 3) i) (-1 : Int32).toInt64) (-1 : Int32).toInt64 := by
          show mlF S _ i = _
          unfold mlF; rw [hq]
        refine m_rowN h3.1 (by omega) hq (m_rcv h3.1 (m_add_ h3 (fun G2 f2 h4 => m_rcv h4.1 (m_beginNow (by omega) h4.1 (m_rcv h4.1 ?_)))))
        rw [hq]
        refine m_add_ h4 (fun G3 f3 h5 => m_rowN h5.1 (by omega) hq ⟨fun z => absurd rfl z, fun _ => ?_⟩)
        show w_X3_digest_110 K pk (k + 1) nc ns (some M.1.1) (nI i + 1) G3
        rw [nI_1]
        exact ih (i + 1) nc ns G3 (by omega) (by omega) (by omega) (fr_tr hf (fr_tr f2 f3)) (by rw [e]; exact h5)
      | some s =>
        obtain ⟨r, b, n⟩ := s
        have hr := (S_12 h.1 (show i < 7 by omega) hq).1
        have e : hd3 S (hd2 S (hd1 S 7778 4) 3) (i + 1) = mxF (mxF (mxF (mxF (mxF (hd3 S (hd2 S (hd1 S 7778 4) 3) i) (nI r).toInt64) (nI b).toInt64) (nI n).toInt64) (coF (S_v S r b) n).toInt64) (suF (S_v S r b) n).toInt64 := by
          show mlF S _ i = _
          unfold mlF; rw [hq]
        refine m_row h3.1 (by omega) hq (m_rcv h3.1 (m_add_ h3 (fun G2 f2 h4 => m_rcv h4.1 (m_beginNow (by omega) h4.1 (m_rcv h4.1 ?_)))))
        rw [hq]
        refine m_add_ h4 (fun G3 f3 h5 => m_row h5.1 (by omega) hq ⟨fun _ => ?_, fun z => ?_⟩)
        · refine m_len h5.1 (by omega) hq (m_rcv h5.1 (m_add_ h5 (fun G4 f4 h6 => ⟨⟨by omega, by omega⟩, m_rcv h6.1 (m_codeNow h6.1 (by omega) hq (fun q G5 q0 q3 h7 => m_rcv h7 (m_add_ (MoS_fr h6 q0 q3) (fun G6 f6 h8 => ⟨⟨by omega, by omega⟩, m_rcv h8.1 (m_sumNow h8.1 (by omega) hq (fun q' G7 p0 p3 h9 => m_rcv h9 (m_add_ (MoS_fr h8 p0 p3) (fun G8 f8 ha => ?_))))⟩))))⟩)))
          show w_X3_digest_110 K pk (k + 1) (nc + 1 + 1) (ns + 12 + 12) (some M.1.1) (nI i + 1) G8
          rw [nI_1]
          exact ih (i + 1) (nc + 1 + 1) (ns + 12 + 12) G8 (by omega) (by omega) (by omega) (fr_tr hf (fr_tr f2 (fr_tr f3 (fr_tr f4 (fr_tr (fr_al (fr_rf _ _) q0 q3) (fr_tr f6 (fr_tr (fr_al (fr_rf _ _) p0 p3) f8))))))) (by rw [e]; exact ha)
        · exact absurd (show nI r < 0 by rw [z]; decide) (nI_pos (by omega))
  have m2 : ∀ k i nc ns G1, i + k = 3 → nc ≤ 4 → ns ≤ 16 → fr (moW M) G G1 → MoS G1 M S 0 (hd2 S (hd1 S 7778 4) i) → w_X3_digest_45 K pk (k + 1) nc ns (some M.1.1) (some M.1.2.1) 3 (nI i) G1 := by
    intro k
    induction k with
    | zero =>
      intro i nc ns G1 hi h1 h2 hf h3
      show w_X3_digest_45_b K pk (w_X3_digest_45 K pk 0) nc ns (some M.1.1) (some M.1.2.1) 3 (nI i) G1
      have e : i = 3 := by omega
      subst e
      exact ⟨fun _ => ⟨8, m3 7 0 nc ns G1 (by omega) (by omega) (by omega) hf h3⟩, fun c => absurd (by decide) c⟩
    | succ k ih =>
      intro i nc ns G1 hi h1 h2 hf h3
      show w_X3_digest_45_b K pk (w_X3_digest_45 K pk (k + 1)) nc ns (some M.1.1) (some M.1.2.1) 3 (nI i) G1
      refine ⟨fun c => absurd (show nI 3 ≤ nI i from c) (nI_ge (by omega) (by omega)), fun _ => ?_⟩
      obtain ⟨-, -, ⟨mf, k3, k4⟩, -⟩ := id h3.1
      obtain ⟨n, d1, d2⟩ := h3.1.1.1 i (by omega)
      obtain ⟨f, g1, g2, g3⟩ := m_rowA h3.1 (show i < 3 by omega) d1
      refine alR_i k3 rfl (show i < 3 by omega) (by omega) ?_
      rw [k4 i (by omega)]
      refine lenA_i g1 (m_rcv h3.1 (m_add_ h3 (fun G2 f2 h4 => ?_)))
      obtain ⟨f', g1', g2', -⟩ := m_rowA h4.1 (show i < 3 by omega) d1
      refine lenA_i g1' ?_
      have e : hd2 S (hd1 S 7778 4) (i + 1) = mrF (S.2.1 i) (mxF (hd2 S (hd1 S 7778 4) i) (nI n).toInt64) n := by
        show mrF (S.2.1 i) (mxF (hd2 S (hd1 S 7778 4) i) (nI (lnF (S.1 i))).toInt64) (lnF (S.1 i)) = _
        rw [d1]; rfl
      have inner : ∀ k' t G3, t + k' = n → fr (moW M) G G3 → MoS G3 M S 0 (mrF (S.2.1 i) (mxF (hd2 S (hd1 S 7778 4) i) (nI n).toInt64) t) → w_X3_digest_75 K pk (w_X3_digest_45 K pk (k + 1)) (k' + 1) nc ns (some M.1.1) (some M.1.2.1) 3 (nI i) (some (M.2 i)) (nI n) (nI t) G3 := by
        intro k'
        induction k' with
        | zero =>
          intro t G3 ht f3 h5
          show w_X3_digest_75_b K pk (w_X3_digest_45 K pk (k + 1)) (w_X3_digest_75 K pk (w_X3_digest_45 K pk (k + 1)) 0) nc ns (some M.1.1) (some M.1.2.1) 3 (nI i) (some (M.2 i)) (nI n) (nI t) G3
          have et : t = n := by omega
          subst et
          refine ⟨fun _ => ?_, fun c => absurd (nI_le (by omega) (by omega)) c⟩
          rw [nI_1]
          exact ih (i + 1) nc ns G3 (by omega) h1 h2 f3 (by rw [e]; exact h5)
        | succ k' ih' =>
          intro t G3 ht f3 h5
          show w_X3_digest_75_b K pk (w_X3_digest_45 K pk (k + 1)) (w_X3_digest_75 K pk (w_X3_digest_45 K pk (k + 1)) (k' + 1)) nc ns (some M.1.1) (some M.1.2.1) 3 (nI i) (some (M.2 i)) (nI n) (nI t) G3
          refine ⟨fun c => absurd c (nI_ge (by omega) (by omega)), fun _ => ?_⟩
          obtain ⟨f'', e1, e2, -⟩ := m_rowA h5.1 (show i < 3 by omega) d1
          refine alI_i e1 rfl (by omega) (by omega) (m_rcv h5.1 (m_add_ h5 (fun G4 f4 h6 => ?_)))
          rw [nI_1]
          refine ih' (t + 1) G4 (by omega) (fr_tr f3 f4) ?_
          have e3 : f'' t = S.2.1 i t := e2 t (by omega)
          rw [e3] at h6
          exact h6
      exact ⟨n + 1, inner n 0 G2 (by omega) (fr_tr hf f2) h4⟩
  have m1 : ∀ k i nc ns G1, i + k = 4 → nc ≤ i → ns ≤ 4 * i → fr (moW M) G G1 → MoS G1 M S 0 (hd1 S 7778 i) → w_X3_digest_14 K pk (k + 1) nc ns (some M.1.1) (nI i) G1 := by
    intro k
    induction k with
    | zero =>
      intro i nc ns G1 hi h1 h2 hf h3
      show w_X3_digest_14_b K pk (w_X3_digest_14 K pk 0) nc ns (some M.1.1) (nI i) G1
      have e : i = 4 := by omega
      subst e
      obtain ⟨-, -, ⟨mf, k3, k4⟩, -⟩ := id h3.1
      refine ⟨fun _ => gfR_i _ h3.2 rfl (lenA_i k3 ⟨4, m2 3 0 nc ns G1 (by omega) (by omega) (by omega) hf h3⟩), fun c => absurd (by decide) c⟩
    | succ k ih =>
      intro i nc ns G1 hi h1 h2 hf h3
      show w_X3_digest_14_b K pk (w_X3_digest_14 K pk (k + 1)) nc ns (some M.1.1) (nI i) G1
      refine ⟨fun c => absurd (show nI 4 ≤ nI i from c) (nI_ge (by omega) (by omega)), fun _ => ⟨⟨by omega, by omega⟩, m_rcv h3.1 (m_houseNow (by omega) h3.1 (fun q G2 q0 q3 h4 => m_rcv h4 (m_add_ (MoS_fr h3 q0 q3) (fun G3 f3 h5 => ?_))))⟩⟩
      rw [nI_1]
      exact ih (i + 1) (nc + 1) (ns + 4) G3 (by omega) (by omega) (by omega) (fr_tr hf (fr_tr (fr_al (fr_rf _ _) q0 q3) f3)) h5
  obtain ⟨-, ⟨sm, h2⟩, -⟩ := id h
  refine pfV_i h2 (Nat.le_of_ble_eq_true rfl) (pfV_i (tg_s _ _ _) (Nat.le_of_ble_eq_true rfl) ⟨5, ?_⟩)
  have h3 := MoR_own (MoR_own h S.2.2.1 S.2.2.2 0 sm) S.2.2.1 S.2.2.2 0 7778
  exact m1 4 0 0 0 _ (by omega) (by omega) (by omega) (fr_tr (fr_up _ (Or.inl rfl)) (fr_up _ (Or.inl rfl))) ⟨h3, tg_s _ _ _⟩
end MOL
end
section
/-! the model: part, lay -/
def MoC (G : tG) (M : tM) (S : tS) (th : Int32) : Prop := (∃ sm, G M.1.1 = some (oMo M S.2.2.1 S.2.2.2 th sm)) ∧ (∃ mf, G M.1.2.1 = some (eR mf) ∧ ∀ r, r < 3 → mf r = some (M.2 r)) ∧
  (∃ fo fb fl, (G M.1.2.2.1 = some (eI 7 fo) ∧ G M.1.2.2.2.1 = some (eI 7 fb) ∧ G M.1.2.2.2.2 = some (eI 7 fl)) ∧ moL S fo fb fl) ∧
  (∀ r, r < 3 → ∃ f, G (M.2 r) = some (eI (lnF (S.1 r)) f) ∧ ∀ i, i < lnF (S.1 r) → f i = S.2.1 r i) ∧
  (M.1.2.2.1 ≠ M.1.2.2.2.1 ∧ M.1.2.2.1 ≠ M.1.2.2.2.2 ∧ M.1.2.2.2.1 ≠ M.1.2.2.2.2) ∧ (∀ r, r < 3 → M.2 r ≠ M.1.2.2.1 ∧ M.2 r ≠ M.1.2.2.2.1 ∧ M.2 r ≠ M.1.2.2.2.2) ∧ (∀ r r', r < 3 → r' < 3 → M.2 r = M.2 r' → r = r')
theorem MoR_C {G : tG} {M : tM} {S : tS} {th : Int32} (h : MoR G M S th) : MoC G M S th := h.2
theorem MoC_R {G : tG} {M : tM} {S : tS} {th : Int32} (h : MoC G M S th) (hs : S_ok S) : MoR G M S th := ⟨hs, h⟩
theorem MoC_lst {G G1 : tG} {M : tM} {S : tS} {th : Int32} {p : Nat} {q : Option (Nat × Nat × Nat)} {fo fb fl : Nat → Int32} (h : MoC G M S th) (hp : 3 ≤ p) (h5 : G1 M.1.2.2.1 = some (eI 7 fo)) (h6 : G1 M.1.2.2.2.1 = some (eI 7 fb)) (h7 : G1 M.1.2.2.2.2 = some (eI 7 fl)) (hl : moL (S_lst S p q) fo fb fl) (hk : ∀ a, a ≠ M.1.2.2.1 → a ≠ M.1.2.2.2.1 → a ≠ M.1.2.2.2.2 → G1 a = G a) : MoC G1 M (S_lst S p q) th := by
  obtain ⟨⟨sm, h2⟩, ⟨mf, h3, h4⟩, ⟨fo0, fb0, fl0, ⟨g5, g6, g7⟩, -⟩, h9, h10, h11, h12⟩ := h
  refine ⟨⟨sm, ?_⟩, ⟨mf, ?_, h4⟩, ⟨fo, fb, fl, ⟨h5, h6, h7⟩, hl⟩, fun r hr => ?_, h10, h11, h12⟩
  · rw [hk _ (ne_OI h2 g5) (ne_OI h2 g6) (ne_OI h2 g7)]; exact h2
  · rw [hk _ (ne_of_G h3 g5 (fun e => by cases e)) (ne_of_G h3 g6 (fun e => by cases e)) (ne_of_G h3 g7 (fun e => by cases e))]; exact h3
  · obtain ⟨f, e1, e2⟩ := h9 r hr
    have e0 : (S_lst S p q).1 r = S.1 r := by show (if r = p then q else S.1 r) = _; rw [if_neg (by omega)]
    rw [e0]
    refine ⟨f, ?_, e2⟩
    have d := h11 r hr
    rw [hk _ d.1 d.2.1 d.2.2]; exact e1
theorem upd_s {f : Nat → Int32} {j : Nat} {x : Int32} : upd f j x j = x := by simp [upd]
theorem upd_n {f : Nat → Int32} {j k : Nat} {x : Int32} (h : k ≠ j) : upd f j x k = f k := by simp [upd, h]
section MOM
variable {K : tK} {G : tG} {M : tM} {S : tS} {th : Int32} {post : Int32 → tG → Prop}
theorem sp_part_1 {p v x y : Int32} (h : ¬ (3 ≤ p.toInt ∧ p.toInt < 7) ∨ S_at S v = none) : sp_part S p v x y = (1, 0, S) := by
  unfold sp_part
  by_cases c : 3 ≤ p.toInt ∧ p.toInt < 7
  · rw [if_pos c]
    rcases h with d | d
    · exact absurd c d
    · rw [d]; rfl
  · rw [if_neg c]
theorem m_part {p v x y : Int32} (h : MoR G M S th) (hp : mRes M G post (sp_part S p v x y)) : w_X3_part K post (some M.1.1) p v x y G := by
  have bad1 : sp_part S p v x y = (1, 0, S) → w_X3_part_18 K post (some M.1.1) p v x y G := fun e => by
    rw [e] at hp
    refine ⟨fun _ => m_rcv h (m_fails h (fun G1 f1 h1 => ⟨fun z => absurd z (by decide), fun _ => mr hp f1 h1⟩)), fun z => absurd z (by decide)⟩
  have e3 : (3 : Int32).toInt = 3 := rfl
  have e6 : (6 : Int32).toInt = 6 := rfl
  refine m_isIn (fun q => ⟨fun z => absurd z (by decide), fun _ => ?_⟩) (fun q => ⟨fun _ => bad1 (sp_part_1 (Or.inl (fun z => q ⟨by rw [i32_lt]; omega, by rw [i32_le]; omega⟩))), fun z => absurd rfl z⟩)
  refine m_rcv h (m_isNoList h (fun c => ⟨fun z => absurd z (by decide), fun _ => bad1 (sp_part_1 (Or.inr c))⟩) (fun j r b n hj ev hs => ⟨fun _ => ?_, fun z => absurd rfl z⟩))
  subst ev
  have hn12 := (S_12 h.1 hj hs).2
  have q1 := q.1
  have q2 := q.2
  rw [i32_lt] at q1
  rw [i32_le] at q2
  have hpn : ∃ p0, 3 ≤ p0 ∧ p0 < 7 ∧ p = nI p0 := by
    obtain ⟨w, hw, e⟩ := nI_of (x := p) (by rw [i32_lt]; have : (0 : Int32).toInt = 0 := rfl; omega)
    subst e
    rw [nI_toInt hw] at q1 q2
    exact ⟨w, by omega, by omega, rfl⟩
  obtain ⟨p0, hp3, hp7, ep⟩ := hpn
  subst ep
  unfold sp_part at hp
  rw [nI_toInt (by omega), if_pos (by omega), S_at_nI S hj, hs] at hp
  have bad2 : ¬ (inR y 0 (nI n) ∧ inR x 0 y) → w_X3_part_62 K post (some M.1.1) (nI p0) (nI j) x y (some M.1.1) 0 G := fun e => by
    simp only [sp_li, if_neg e] at hp
    exact m_rcv h (m_fails h (fun G1 f1 h1 => ⟨fun z => absurd z (by decide), fun _ => mr hp f1 h1⟩))
  have e0 : (0 : Int32).toInt = 0 := rfl
  refine ⟨fun z => absurd rfl z, fun _ => m_len h hj hs (m_isIn (fun hx => ⟨fun z => absurd z (by decide), fun _ => m_len h hj hs (m_isIn (fun hy => ⟨fun _ => ?_, fun z => absurd z (by decide)⟩) (fun hy => ⟨fun z => absurd rfl z, fun _ => bad2 (fun z => hy ?_)⟩))⟩) (fun hx => ⟨fun _ => bad2 (fun z => hx ?_), fun z => absurd rfl z⟩))⟩
  · obtain ⟨a, ha, rfl⟩ := nI_of2 (nI_toInt (n := n) (by omega)) hx.1 hx.2
    have hy1 := hy.1
    have hy2 := hy.2
    rw [i32_lt, nI_toInt (by omega)] at hy1
    rw [i32_le, nI_toInt (by omega)] at hy2
    obtain ⟨e, he, rfl⟩ : ∃ e, e < 2 ^ 31 ∧ y = nI e := nI_of (by rw [i32_lt]; omega)
    rw [nI_toInt he] at hy1 hy2
    have hgood : inR (nI e) 0 (nI n) ∧ inR (nI a) 0 (nI e) := ⟨⟨nI_pos he, nI_le (by omega) (by omega)⟩, ⟨nI_pos (by omega), nI_le (by omega) (by omega)⟩⟩
    simp only [sp_li, if_pos hgood, nI_nat he, nI_nat (show a < 2 ^ 31 by omega)] at hp
    refine m_rcv h (m_fails h (fun G1 f1 h1 => ⟨fun _ => m_row h1 hj hs (m_beg h1 hj hs ?_), fun z => absurd (by decide) z⟩))
    obtain ⟨⟨sm, h2⟩, hrows, ⟨fo, fb, fl, ⟨h5, h6, h7⟩, h8⟩, h9, ⟨n1, n2, n3⟩, h11, h12⟩ := MoR_C h1
    refine gfR_i _ h2 rfl (asI_i h5 rfl hp7 (by omega) ?_)
    refine gfR_i _ (tg_keep h2 (ne_OI h2 h5)) rfl (asI_i (tg_keep h6 (fun e => n1 e.symm)) rfl hp7 (by omega) ?_)
    refine gfR_i _ (tg_keep (tg_keep h2 (ne_OI h2 h5)) (ne_OI h2 h6)) rfl (asI_i (tg_keep (tg_keep h7 (fun e => n2 e.symm)) (fun e => n3 e.symm)) rfl hp7 (by omega) ?_)
    rw [nI_subN (by omega), nI_add]
    refine mr hp (fr_tr f1 (fr_tr (fr_up _ (Or.inr (Or.inr (Or.inl rfl)))) (fr_tr (fr_up _ (Or.inr (Or.inr (Or.inr (Or.inl rfl))))) (fr_up _ (Or.inr (Or.inr (Or.inr (Or.inr (Or.inl rfl))))))))) ?_
    refine MoC_R (MoC_lst (MoR_C h1) hp3 (tg_keep (tg_keep (tg_s _ _ _) n1) n2) (tg_keep (tg_s _ _ _) n3) (tg_s _ _ _) (fun t ht => ?_) (fun t t1 t2 t3 => by rw [tg_n _ _ t3, tg_n _ _ t2, tg_n _ _ t1])) (S_part_ok h.1 hp3 hj hs (by omega) (by omega))
    by_cases c : t = p0
    · subst c
      refine Or.inr ⟨r, b + a, e - a, ?_, upd_s, upd_s, upd_s⟩
      show (if t = t then _ else _) = _
      rw [if_pos rfl]
    · rw [upd_n c, upd_n c, upd_n c]
      show (((if t = p0 then _ else S.1 t) = none ∧ _) ∨ ∃ r' b' n', (if t = p0 then _ else S.1 t) = _ ∧ _)
      rw [if_neg c]
      exact h8 t ht
  · obtain ⟨⟨z1, z2⟩, z3, z4⟩ := z
    exact ⟨by rw [i32_lt]; rw [i32_le] at z4; omega, z2⟩
  · obtain ⟨⟨z1, z2⟩, z3, z4⟩ := z
    exact ⟨z3, by rw [i32_le] at z2 z4 ⊢; omega⟩
end MOM
theorem S_map_v (S : tS) (r b : Nat) (F : Nat → Int32 → Int32) : ∀ k r' i, (S_map S r b F k).2.1 r' i = if r' = r ∧ b ≤ i ∧ i < b + k then F (i - b) (S.2.1 r i) else S.2.1 r' i
  | 0, r', i => by rw [if_neg (by omega)]; rfl
  | k + 1, r', i => by
    show (if r' = r then upd ((S_map S r b F k).2.1 r) (b + k) (F k ((S_map S r b F k).2.1 r (b + k))) else (S_map S r b F k).2.1 r') i = _
    by_cases c : r' = r
    · subst c
      rw [if_pos rfl]
      by_cases d : i = b + k
      · subst d
        rw [upd_s, S_map_v S r' b F k, if_neg (by omega), if_pos (by omega), show b + k - b = k by omega]
      · rw [upd_n d, S_map_v S r' b F k]
        by_cases e : b ≤ i ∧ i < b + k
        · rw [if_pos ⟨rfl, e⟩, if_pos (by omega)]
        · rw [if_neg (fun z => e z.2), if_neg (by omega)]
    · rw [if_neg c, S_map_v S r b F k, if_neg (fun z => c z.1), if_neg (fun z => c z.1)]
section MON
variable {K : tK} {G : tG} {M : tM} {S : tS} {th : Int32} {post : Int32 → tG → Prop}
theorem m_dropPartsOf {pk : Int32 → tG → Prop} {row : Nat} {v : Int32} (hv : v = nI row) (hrow : row < 3) (hb : ∀ j r b n, j < 7 → S.1 j = some (r, b, n) → r < 3) (h : MoC G M S th) (hp : ∀ G', fr (moW M) G G' → MoC G' M (dpF S row 4).1 th → pk (dpF S row 4).2 G') : ∃ n : Nat, w_X3_lay_59 K pk n (some M.1.1) v 0 3 G := by
  subst hv
  have main : ∀ k i G1, i + k = 4 → fr (moW M) G G1 → MoC G1 M (dpF S row i).1 th → w_X3_lay_59 K pk (k + 1) (some M.1.1) (nI row) (dpF S row i).2 (nI (3 + i)) G1 := by
    intro k
    induction k with
    | zero =>
      intro i G1 hi hf h1
      show w_X3_lay_59_b K pk (w_X3_lay_59 K pk 0) (some M.1.1) (nI row) (dpF S row i).2 (nI (3 + i)) G1
      have e : i = 4 := by omega
      subst e
      exact ⟨fun _ => hp G1 hf h1, fun c => absurd (by decide) c⟩
    | succ k ih =>
      intro i G1 hi hf h1
      show w_X3_lay_59_b K pk (w_X3_lay_59 K pk (k + 1)) (some M.1.1) (nI row) (dpF S row i).2 (nI (3 + i)) G1
      obtain ⟨⟨sm, h2⟩, hrows, ⟨fo, fb, fl, ⟨h5, h6, h7⟩, h8⟩, h9, ⟨n1, n2, n3⟩, h11, h12⟩ := id h1
      refine ⟨fun c => absurd (show nI 7 ≤ nI (3 + i) from c) (nI_ge (by omega) (by omega)), fun _ => gfR_i _ h2 rfl (alI_i h5 rfl (j := 3 + i) (by omega) (by omega) ?_)⟩
      rcases h8 (3 + i) (by omega) with ⟨e1, e2⟩ | ⟨r, b, n, e1, e2, e3, e4⟩
      · rw [e2]
        have hne : ¬ (-1 : Int32) = nI row := fun z => absurd (show nI row < 0 by rw [← z]; decide) (nI_pos (by omega))
        refine ⟨fun _ => ?_, fun z => absurd z hne⟩
        show w_X3_lay_59 K pk (k + 1) (some M.1.1) (nI row) (dpF S row i).2 (nI (3 + i) + 1) G1
        rw [nI_1]
        have := ih (i + 1) G1 (by omega) hf (by rw [dp_none e1]; exact h1)
        rw [dp_none e1] at this
        exact this
      · rw [e2]
        have hr3 : r < 3 := by
          rcases ((dp_sub S row i).2 (3 + i)).1 with q | q
          · rw [q] at e1; exact hb (3 + i) r b n (by omega) e1
          · rw [q.1] at e1; cases e1
        refine ⟨fun c => ?_, fun c => ?_⟩
        · have hne : ¬ r = row := fun q => c (by rw [q])
          show w_X3_lay_59 K pk (k + 1) (some M.1.1) (nI row) (dpF S row i).2 (nI (3 + i) + 1) G1
          rw [nI_1]
          have := ih (i + 1) G1 (by omega) hf (by rw [dp_no e1 hne]; exact h1)
          rw [dp_no e1 hne] at this
          exact this
        · have heq : r = row := (nI_eq (by omega) (by omega)).mp c
          refine gfR_i _ h2 rfl (asI_i (j := 3 + i) h5 rfl (by omega) (by omega) ?_)
          show w_X3_lay_59 K pk (k + 1) (some M.1.1) (nI row) ((dpF S row i).2 + 1) (nI (3 + i) + 1) _
          rw [nI_1]
          have := ih (i + 1) (tg_up G1 M.1.2.2.1 (eI 7 (upd fo (3 + i) (-1)))) (by omega) (fr_tr hf (fr_up _ (Or.inr (Or.inr (Or.inl rfl))))) (by
            rw [dp_yes e1 heq]
            refine MoC_lst h1 (by omega) (tg_s _ _ _) (tg_keep h6 (fun e => n1 e.symm)) (tg_keep h7 (fun e => n2 e.symm)) (fun t ht => ?_) (fun t t1 _ _ => tg_n _ _ t1)
            by_cases c : t = 3 + i
            · subst c
              refine Or.inl ⟨?_, upd_s⟩
              show (if 3 + i = 3 + i then none else _) = none
              rw [if_pos rfl]
            · rw [upd_n c]
              show (((if t = 3 + i then none else (dpF S row i).1.1 t) = none ∧ _) ∨ ∃ r' b' n', (if t = 3 + i then none else (dpF S row i).1.1 t) = _ ∧ _)
              rw [if_neg c]
              exact h8 t ht)
          rw [dp_yes e1 heq] at this
          exact this
  exact ⟨5, main 4 0 G (by omega) (fr_rf _ _) h⟩
end MON
end
section
/-! the model: lay -/
theorem S_map_ok {S : tS} (h : S_ok S) (r b : Nat) {x : Int32} (hx : okV x) : ∀ k, S_ok (S_map S r b (fun _ _ => x) k)
  | 0 => h
  | k + 1 => S_put_ok (S_map_ok h r b hx k) r (b + k) hx
section MOO
variable {K : tK} {G : tG} {M : tM} {S : tS} {th : Int32} {post : Int32 → tG → Prop}
theorem MoC_some (h : MoC G M S th) {x : Nat} (hx : moW M x) : ∃ e, G x = some e := by
  obtain ⟨⟨sm, h2⟩, ⟨mf, h3, -⟩, ⟨fo, fb, fl, ⟨h5, h6, h7⟩, -⟩, h9, -⟩ := h
  rcases hx with e | e | e | e | e | e | e | e <;> subst e
  · exact ⟨_, h2⟩
  · exact ⟨_, h3⟩
  · exact ⟨_, h5⟩
  · exact ⟨_, h6⟩
  · exact ⟨_, h7⟩
  · obtain ⟨f, g, -⟩ := h9 0 (by omega); exact ⟨_, g⟩
  · obtain ⟨f, g, -⟩ := h9 1 (by omega); exact ⟨_, g⟩
  · obtain ⟨f, g, -⟩ := h9 2 (by omega); exact ⟨_, g⟩
theorem MoC_no (h : MoC G M S th) {x : Nat} (hx : G x = none) : ¬ moW M x := fun c => by
  obtain ⟨e, he⟩ := MoC_some h c
  rw [hx] at he; cases he
/-- a row's new array is laid -/
theorem MoC_lay {r n m q : Nat} {G4 : tG} {mf : Nat → Option Nat} {fo fb fl : Nat → Int32} {sm : Int64} (h : MoR G M S th) (hr : r < 3) (hs : S.1 r = some (r, 0, n)) (hq : G q = none) (e2 : G4 M.1.1 = some (oMo M S.2.2.1 S.2.2.2 th sm)) (e3 : G4 M.1.2.1 = some (eR (va_up mf r (some q)))) (hmf : ∀ t, t < 3 → mf t = some (M.2 t)) (e5 : G4 M.1.2.2.1 = some (eI 7 fo)) (e6 : G4 M.1.2.2.2.1 = some (eI 7 fb)) (e7 : G4 M.1.2.2.2.2 = some (eI 7 (upd fl r (nI m)))) (hl : moL S fo fb fl) (eq : G4 q = some (eI m fun _ => 0)) (hk : ∀ t, t < 3 → G4 (M.2 t) = G (M.2 t)) : MoC G4 (M.1, fun t => if t = r then q else M.2 t) (S_lay S r m) th := by
  have hno := MoC_no (MoR_C h) hq
  obtain ⟨-, -, -, h9, n1, h11, h12⟩ := MoR_C h
  have e22 : (S_lay S r m).2.2 = S.2.2 := (S_map_1 S r 0 _ m).2
  have e1 : ∀ j, (S_lay S r m).1 j = if j = r then some (r, 0, m) else S.1 j := fun j => by
    show (if j = r then _ else (S_map S r 0 (fun _ _ => 0) m).1 j) = _
    rw [(S_map_1 S r 0 (fun _ _ => 0) m).1]
  have ev : ∀ r' i, (S_lay S r m).2.1 r' i = if r' = r ∧ 0 ≤ i ∧ i < 0 + m then 0 else S.2.1 r' i := fun r' i => S_map_v S r 0 (fun _ _ => 0) m r' i
  refine ⟨⟨sm, ?_⟩, ⟨_, e3, fun t ht => ?_⟩, ⟨fo, fb, _, ⟨e5, e6, e7⟩, fun j hj => ?_⟩, fun t ht => ?_, n1, fun t ht => ?_, fun t t' ht ht' e => ?_⟩
  · rw [e22]; exact e2
  · show va_up mf r (some q) t = some (if t = r then q else M.2 t)
    by_cases c : t = r
    · rw [c, va_up_s, if_pos rfl]
    · rw [va_up_n _ _ c, if_neg c]; exact hmf t ht
  · rw [e1]
    by_cases c : j = r
    · subst c
      rw [if_pos rfl]
      rcases hl j hj with ⟨z, -⟩ | ⟨r', b', n', c1, c2, c3, -⟩
      · rw [hs] at z; cases z
      · rw [hs] at c1; cases c1
        exact Or.inr ⟨j, 0, m, rfl, c2, c3, upd_s⟩
    · rw [if_neg c, upd_n c]
      exact hl j hj
  · show ∃ f, G4 (if t = r then q else M.2 t) = some (eI (lnF ((S_lay S r m).1 t)) f) ∧ ∀ i, i < lnF ((S_lay S r m).1 t) → f i = (S_lay S r m).2.1 t i
    rw [e1]
    by_cases c : t = r
    · subst c
      rw [if_pos rfl, if_pos rfl]
      refine ⟨_, eq, fun i hi => ?_⟩
      have hi : i < m := hi
      rw [ev, if_pos ⟨rfl, by omega, by omega⟩]
    · rw [if_neg c, if_neg c]
      obtain ⟨f, g1, g2⟩ := h9 t ht
      refine ⟨f, by rw [hk t ht]; exact g1, fun i hi => ?_⟩
      rw [ev, if_neg (fun z => c z.1)]; exact g2 i hi
  · show (if t = r then q else M.2 t) ≠ _ ∧ (if t = r then q else M.2 t) ≠ _ ∧ (if t = r then q else M.2 t) ≠ _
    by_cases c : t = r
    · rw [if_pos c]
      exact ⟨fun z => hno (Or.inr (Or.inr (Or.inl z))), fun z => hno (Or.inr (Or.inr (Or.inr (Or.inl z)))), fun z => hno (Or.inr (Or.inr (Or.inr (Or.inr (Or.inl z)))))⟩
    · rw [if_neg c]; exact h11 t ht
  · have e : (if t = r then q else M.2 t) = (if t' = r then q else M.2 t') := e
    by_cases c : t = r
    · by_cases c' : t' = r
      · rw [c, c']
      · rw [if_pos c, if_neg c'] at e
        exact absurd (e ▸ moW_r ht') hno
    · by_cases c' : t' = r
      · rw [if_neg c, if_pos c'] at e
        exact absurd (e ▸ moW_r ht) hno
      · rw [if_neg c, if_neg c'] at e
        exact h12 t t' ht ht' e
theorem m_lay {v w : Int32} (h : MoR G M S th) (hp : mRes M G post (sp_lay S v w)) : w_X3_lay K post (some M.1.1) v w G := by
  have e2 : (2 : Int32).toInt = 2 := rfl
  have e0 : (0 : Int32).toInt = 0 := rfl
  unfold sp_lay at hp
  refine m_isIn (fun q => ⟨fun _ => ?_, fun z => absurd z (by decide)⟩) (fun q => ⟨fun z => absurd rfl z, fun _ => ?_⟩)
  · obtain ⟨r, hr, rfl⟩ := nI_of2 (M := 2) (n := 2) rfl q.1 q.2
    obtain ⟨n, d1, d2⟩ := h.1.1 r (by omega)
    rw [S_tw_nI (by omega), d1] at hp
    refine m_isIn (fun hw => ⟨fun _ => ?_, fun z => absurd z (by decide)⟩) (fun hw => ⟨fun z => absurd rfl z, fun _ => ?_⟩)
    · simp only [if_pos hw] at hp
      obtain ⟨m, hm, rfl⟩ := nI_of2 (M := 12) (n := 12) rfl hw.1 hw.2
      rw [nI_nat (by omega)] at hp
      refine m_rcv h (m_fails h (fun G1 f1 h1 => ⟨fun _ => ?_, fun z => absurd (by decide) z⟩))
      obtain ⟨⟨sm, h2⟩, ⟨mf, h3, h4⟩, ⟨fo, fb, fl, ⟨h5, h6, h7⟩, h8⟩, h9, ⟨n1, n2, n3⟩, h11, h12⟩ := MoR_C h1
      refine gfR_i _ h2 rfl ⟨m, nI_toInt (by omega), by omega, fun q hq => ⟨(fun z => (by cases z)), ?_⟩⟩
      have hno := MoC_no (MoR_C h1) hq
      have k0 : ∀ {a : Nat} {e : tE}, G1 a = some e → a ≠ q := fun he c => by rw [c, hq] at he; cases he
      refine asR_i (j := r) (tg_keep h3 (k0 h3)) rfl (by omega) (by omega) (Or.inr ⟨q, _, rfl, tg_s _ _ _, ⟨_, rfl⟩⟩) ?_
      have d13 : M.1.1 ≠ M.1.2.1 := ne_OI h2 h3
      refine gfR_i _ (tg_keep (tg_keep h2 (k0 h2)) d13) rfl ?_
      have d73 : M.1.2.2.2.2 ≠ M.1.2.1 := ne_of_G h7 h3 (fun e => by cases e)
      have d63 : M.1.2.2.2.1 ≠ M.1.2.1 := ne_of_G h6 h3 (fun e => by cases e)
      have d53 : M.1.2.2.1 ≠ M.1.2.1 := ne_of_G h5 h3 (fun e => by cases e)
      refine asI_i (j := r) (tg_keep (tg_keep h7 (k0 h7)) d73) rfl (by omega) (by omega) ?_
      have dq3 : q ≠ M.1.2.1 := fun c => hno (Or.inr (Or.inl c))
      have dq7 : q ≠ M.1.2.2.2.2 := fun c => hno (Or.inr (Or.inr (Or.inr (Or.inr (Or.inl c)))))
      have hC := MoC_lay (m := m) (G4 := tg_up (tg_up (tg_up G1 q (eI m fun _ => 0)) M.1.2.1 (eR (va_up mf r (some q)))) M.1.2.2.2.2 (eI 7 (upd fl r (nI m)))) h1 (show r < 3 by omega) d1 hq (tg_keep (tg_keep (tg_keep h2 (k0 h2)) d13) (ne_OI h2 h7)) (tg_keep (tg_s _ _ _) d73.symm) h4 (tg_keep (tg_keep (tg_keep h5 (k0 h5)) d53) n2) (tg_keep (tg_keep (tg_keep h6 (k0 h6)) d63) n3) (tg_s _ _ _) h8 (tg_keep (tg_keep (tg_s _ _ _) dq3) dq7) (fun t ht => by
        obtain ⟨f, g1, -⟩ := h9 t ht
        rw [tg_n _ _ (h11 t ht).2.2, tg_n _ _ (ne_of_G g1 h3 (fun e => by cases e)), tg_n _ _ (k0 g1)])
      refine m_dropPartsOf (M := (M.1, fun t => if t = r then q else M.2 t)) rfl (show r < 3 by omega) (fun j r' b' n' hj e => ?_) hC (fun G5 f5 h5' => ?_)
      · have e : (if j = r then some (r, 0, m) else (S_map S r 0 (fun _ _ => 0) m).1 j) = some (r', b', n') := e
        by_cases c : j = r
        · rw [if_pos c] at e; cases e; omega
        · rw [if_neg c, (S_map_1 S r 0 (fun _ _ => 0) m).1] at e
          exact (h.1.2.1 j r' b' n' hj e).1
      · have hmw : ∀ x, moW (M.1, fun t => if t = r then q else M.2 t) x → moW M x ∨ x = q := by
          have hrow : ∀ t, t < 3 → ∀ x, x = (if t = r then q else M.2 t) → moW M x ∨ x = q := fun t ht x e => by
            by_cases c : t = r
            · rw [if_pos c] at e; exact Or.inr e
            · rw [if_neg c] at e; exact Or.inl (e ▸ moW_r ht)
          rintro x (e | e | e | e | e | e | e | e)
          · exact Or.inl (Or.inl e)
          · exact Or.inl (Or.inr (Or.inl e))
          · exact Or.inl (Or.inr (Or.inr (Or.inl e)))
          · exact Or.inl (Or.inr (Or.inr (Or.inr (Or.inl e))))
          · exact Or.inl (Or.inr (Or.inr (Or.inr (Or.inr (Or.inl e)))))
          · exact hrow 0 (by omega) x e
          · exact hrow 1 (by omega) x e
          · exact hrow 2 (by omega) x e
        have hGq : G q = none := fr_none f1 hq hno
        refine hp G5 (M.1, fun t => if t = r then q else M.2 t) rfl ?_ (fun x hx => (hmw x hx).elim Or.inl (fun e => Or.inr (e ▸ hGq))) (MoC_R h5' (S_lay_ok h.1 (S_map_ok h.1 r 0 (Or.inr ⟨by decide, by decide⟩) m) (by omega) hm))
        intro x e hx hn
        have hxq : x ≠ q := fun c => by rw [c, hGq] at hx; cases hx
        have hx1 := f1 x e hx hn
        have hx4 : tg_up (tg_up (tg_up G1 q (eI m fun _ => 0)) M.1.2.1 (eR (va_up mf r (some q)))) M.1.2.2.2.2 (eI 7 (upd fl r (nI m))) x = some e := by
          rw [tg_n _ _ (fun c => hn (Or.inr (Or.inr (Or.inr (Or.inr (Or.inl c)))))), tg_n _ _ (fun c => hn (Or.inr (Or.inl c))), tg_n _ _ hxq]
          exact hx1
        exact f5 x e hx4 (fun c => (hmw x c).elim hn hxq)
    · simp only [if_neg hw] at hp
      exact m_rcv h (m_fails h (fun G1 f1 h1 => ⟨fun z => absurd z (by decide), fun _ => mr hp f1 h1⟩))
  · have hc : S_tw S v = none := by
      unfold S_tw
      rw [if_neg]
      intro z
      exact q ⟨by rw [i32_lt]; omega, by rw [i32_le]; omega⟩
    rw [hc] at hp
    have hbad : ∀ u, w_X3_lay_30 K post (some M.1.1) v w (some M.1.1) 1 u G := fun u => m_rcv h (m_fails h (fun G1 f1 h1 => ⟨fun z => absurd (show (1 : Int32) = 0 from z) (by decide), fun _ => mr (a := (1, 0, S)) hp f1 h1⟩))
    exact m_isIn (fun hw => ⟨fun _ => hbad 0, fun z => absurd z (by decide)⟩) (fun hw => ⟨fun z => absurd rfl z, fun _ => hbad 1⟩)
end MOO
end
section
/-! the model: what changes values -/
theorem S_put_v (S : tS) (r k : Nat) (x : Int32) (r' i : Nat) : (S_put S r k x).2.1 r' i = if r' = r ∧ i = k then x else S.2.1 r' i := by
  show (if r' = r then upd (S.2.1 r) k x else S.2.1 r') i = _
  by_cases c : r' = r
  · subst c
    rw [if_pos rfl]
    by_cases d : i = k
    · subst d; rw [upd_s, if_pos ⟨rfl, rfl⟩]
    · rw [upd_n d, if_neg (fun z => d z.2)]
  · rw [if_neg c, if_neg (fun z => c z.1)]
theorem S_eq_of {S S' : tS} (h1 : S.1 = S'.1) (h2 : ∀ r i, S.2.1 r i = S'.2.1 r i) (h3 : S.2.2 = S'.2.2) : S_eq S S' := ⟨fun j _ => by rw [h1], fun r i _ _ => h2 r i, h3⟩
theorem roF_1 (S : tS) (r b : Nat) (old x : Int32) : ∀ k, (roF S r b old x k).1.1 = S.1 ∧ (roF S r b old x k).1.2.2 = S.2.2
  | 0 => ⟨rfl, rfl⟩
  | k + 1 => by
    have ih := roF_1 S r b old x k
    show (if _ then _ else _ : tS × Int32).1.1 = S.1 ∧ (if _ then _ else _ : tS × Int32).1.2.2 = S.2.2
    split
    · exact ih
    · exact ih
theorem roF_v (S : tS) (r b : Nat) (old x : Int32) : ∀ k, (∀ r' i, (roF S r b old x k).1.2.1 r' i = if r' = r ∧ (b ≤ i ∧ i < b + k) ∧ S.2.1 r i = old then x else S.2.1 r' i) ∧ (roF S r b old x k).2 = if cnF (S_v S r b) old k = 0 then 0 else 1
  | 0 => ⟨fun r' i => by rw [if_neg (by omega)]; rfl, rfl⟩
  | k + 1 => by
    obtain ⟨h1, h2⟩ := roF_v S r b old x k
    have e0 : (roF S r b old x k).1.2.1 r (b + k) = S.2.1 r (b + k) := by rw [h1, if_neg (by omega)]
    have ec : cnF (S_v S r b) old (k + 1) = cnF (S_v S r b) old k + (if S.2.1 r (b + k) = old then 1 else 0) := rfl
    by_cases c : S.2.1 r (b + k) = old
    · have e : roF S r b old x (k + 1) = (S_put (roF S r b old x k).1 r (b + k) x, 1) := by show (if _ then _ else _) = _; rw [if_pos (by rw [e0]; exact c)]
      rw [e]
      refine ⟨fun r' i => ?_, ?_⟩
      · show (S_put (roF S r b old x k).1 r (b + k) x).2.1 r' i = _
        rw [S_put_v]
        by_cases d : r' = r ∧ i = b + k
        · obtain ⟨d1, d2⟩ := d
          subst d1; subst d2
          rw [if_pos ⟨rfl, rfl⟩, if_pos ⟨rfl, by omega, c⟩]
        · rw [if_neg d, h1]
          by_cases d2 : r' = r ∧ (b ≤ i ∧ i < b + k) ∧ S.2.1 r i = old
          · rw [if_pos d2, if_pos ⟨d2.1, by omega, d2.2.2⟩]
          · rw [if_neg d2, if_neg]
            rintro ⟨z1, z2, z3⟩
            exact d2 ⟨z1, by have : i ≠ b + k := fun q => d ⟨z1, q⟩
                             omega, z3⟩
      · show (1 : Int32) = _
        rw [ec, if_pos c, if_neg (by omega)]
    · have e : roF S r b old x (k + 1) = roF S r b old x k := by show (if _ then _ else _) = _; rw [if_neg (by rw [e0]; exact c)]
      rw [e]
      refine ⟨fun r' i => ?_, ?_⟩
      · rw [h1]
        by_cases d2 : r' = r ∧ (b ≤ i ∧ i < b + k) ∧ S.2.1 r i = old
        · rw [if_pos d2, if_pos ⟨d2.1, by omega, d2.2.2⟩]
        · rw [if_neg d2, if_neg]
          rintro ⟨z1, z2, z3⟩
          refine d2 ⟨z1, ?_, z3⟩
          have : i ≠ b + k := fun q => c (q ▸ z3)
          omega
      · rw [ec, if_neg c, Nat.add_zero]; exact h2
theorem roF_ok {S : tS} (h : S_ok S) (r b : Nat) (old : Int32) {x : Int32} (hx : okV x) : ∀ k, S_ok (roF S r b old x k).1
  | 0 => h
  | k + 1 => by
    show S_ok (if _ then _ else _ : tS × Int32).1
    split
    · exact S_put_ok (roF_ok h r b old hx k) r (b + k) hx
    · exact roF_ok h r b old hx k
section MOP
variable {K : tK} {G : tG} {M : tM} {S : tS} {th : Int32} {post : Int32 → tG → Prop}
/-- an array's values are written behind one another -/
theorem m_writeAll {pv : tG → Prop} {j r b n q : Nat} {f : Nat → Int32} (h : MoR G M S th) (hj : j < 7) (hs : S.1 j = some (r, b, n)) (hq : G q = some (eI n f)) (hqm : ¬ moW M q) (hf : ∀ i, i < n → okV (f i)) (hp : ∀ G', fr (moW M) G G' → MoR G' M (S_map S r b (fun k _ => f k) n) th → pv G') : w_X3_writeAll K pv (some M.1.1) (nI j) (some q) G := by
  have hn12 := (S_12 h.1 hj hs).2
  have main : ∀ k i G1, i + k = n → fr (moW M) G G1 → MoR G1 M (S_map S r b (fun k _ => f k) i) th → w_X3_writeAll_2 K pv (k + 1) (some M.1.1) (nI j) (some q) (nI i) G1 := by
    intro k
    induction k with
    | zero =>
      intro i G1 hi f1 h1
      show w_X3_writeAll_2_b K pv (w_X3_writeAll_2 K pv 0) (some M.1.1) (nI j) (some q) (nI i) G1
      have e : i = n := by omega
      subst e
      exact lenA_i (f1 _ _ hq hqm) ⟨fun _ => hp G1 f1 h1, fun c => absurd (nI_le (by omega) (by omega)) c⟩
    | succ k ih =>
      intro i G1 hi f1 h1
      show w_X3_writeAll_2_b K pv (w_X3_writeAll_2 K pv (k + 1)) (some M.1.1) (nI j) (some q) (nI i) G1
      have hq1 := f1 _ _ hq hqm
      have hs1 : (S_map S r b (fun k _ => f k) i).1 j = some (r, b, n) := by rw [(S_map_1 S r b _ i).1]; exact hs
      refine lenA_i hq1 ⟨fun c => absurd c (nI_ge (by omega) (by omega)), fun _ => alI_i hq1 rfl (by omega) (by omega) (m_rcv h1 (m_write h1 hj hs1 (by omega) (hf i (by omega)) (fun G2 f2 h2 => ?_)))⟩
      rw [nI_1]
      exact ih (i + 1) G2 (by omega) (fr_tr f1 f2) h2
  exact ⟨n + 1, main n 0 G (by omega) (fr_rf _ _) h⟩
def rpF (old x y : Int32) : Int32 := if y = old then x else y
theorem rpF_ok {old x y : Int32} (hx : okV x) (hy : okV y) : okV (rpF old x y) := by
  unfold rpF; split
  · exact hx
  · exact hy
theorem m_replaceOld {v y x : Int32} (h : MoR G M S th) (hp : mRes M G post (sp_li S (S_at S v) fun r b n => if okV y ∧ okV x then (0, (roF S r b y x n).2, (roF S r b y x n).1) else (2, 0, S))) : w_X3_replaceOld K post (some M.1.1) v y x G := by
  refine m_rcv h (m_isNoList h (fun c => ?_) (fun j r b n hj ev hs => ?_))
  · rw [c] at hp
    have hbad : ∀ u, w_X3_replaceOld_25 K post (some M.1.1) v y x (some M.1.1) 1 u G := fun u => m_rcv h (m_fails h (fun G1 f1 h1 => ⟨fun z => absurd (show (1 : Int32) = 0 from z) (by decide), fun _ => mr (a := (1, 0, S)) hp f1 h1⟩))
    exact m_isNoValue (fun _ => ⟨fun _ => hbad 1, fun z => absurd z (by decide)⟩) (fun _ => ⟨fun z => absurd rfl z, fun _ => m_isNoValue (fun _ => ⟨fun z => absurd z (by decide), fun _ => hbad 1⟩) (fun _ => ⟨fun _ => hbad 0, fun z => absurd rfl z⟩)⟩)
  · subst ev
    rw [S_at_nI S hj, hs] at hp
    have hn12 := (S_12 h.1 hj hs).2
    have hr3 := (S_12 h.1 hj hs).1
    have hbad : ¬ (okV y ∧ okV x) → w_X3_replaceOld_25 K post (some M.1.1) (nI j) y x (some M.1.1) 0 1 G := fun e => by
      simp only [sp_li, if_neg e] at hp
      exact m_rcv h (m_fails h (fun G1 f1 h1 => ⟨fun z => absurd z (by decide), fun _ => mr hp f1 h1⟩))
    refine m_isNoValue (fun hy => ⟨fun _ => hbad (fun z => hy z.1), fun z => absurd z (by decide)⟩) (fun hy => ⟨fun z => absurd rfl z, fun _ => m_isNoValue (fun hx => ⟨fun z => absurd z (by decide), fun _ => hbad (fun z => hx z.2)⟩) (fun hx => ⟨fun _ => ?_, fun z => absurd rfl z⟩)⟩)
    simp only [sp_li, if_pos (And.intro hy hx)] at hp
    refine m_rcv h (m_fails h (fun G1 f1 h1 => ⟨fun _ => m_rcv h1 (m_all h1 hj hs (fun q f G2 q0 q1 q2 q3 h2 => m_oftenIn q1 (by omega) ?_)), fun z => absurd (by decide) z⟩))
    rw [cnF_cg n q2]
    have hqm := MoC_no (MoR_C h1) q0
    have main : ∀ k i G3 f', i + k = n → (∀ a, a ≠ q → G3 a = G1 a) → G3 q = some (eI n f') → (∀ t, t < i → f' t = rpF y x (S_v S r b t)) → (∀ t, i ≤ t → t < n → f' t = S_v S r b t) → w_X3_replaceOld_51 K post (k + 1) (some M.1.1) (nI j) y x (some q) (nI (cnF (S_v S r b) y n)) (nI i) G3 := by
      intro k
      induction k with
      | zero =>
        intro i G3 f' hi k3 e3 g1 g2
        show w_X3_replaceOld_51_b K post (w_X3_replaceOld_51 K post 0) (some M.1.1) (nI j) y x (some q) (nI (cnF (S_v S r b) y n)) (nI i) G3
        have e : i = n := by omega
        subst e
        have h3 := MoR_fresh h1 q0 k3
        refine lenA_i e3 ⟨fun _ => m_rcv h3 (m_writeAll h3 hj hs e3 hqm (fun t ht => ?_) (fun G4 f4 h4 => ?_)), fun c => absurd (nI_le (by omega) (by omega)) c⟩
        · rw [g1 t ht]; exact rpF_ok hx (h.1.2.2 r _ hr3 (by omega))
        · have rv := roF_v S r b y x i
          have r1 := roF_1 S r b y x i
          have h5 : MoR G4 M (roF S r b y x i).1 0 := by
            refine MoR_eq h4 (S_eq_of ((S_map_1 S r b _ i).1.trans r1.1.symm) (fun r' p => ?_) ((S_map_1 S r b _ i).2.trans r1.2.symm)) (roF_ok h.1 r b y hx i)
            rw [S_map_v, rv.1]
            by_cases c : r' = r ∧ b ≤ p ∧ p < b + i
            · rw [if_pos c, g1 (p - b) (by omega)]
              have ep : b + (p - b) = p := by omega
              show (if S.2.1 r (b + (p - b)) = y then x else S.2.1 r (b + (p - b))) = _
              rw [ep]
              by_cases d : S.2.1 r p = y
              · rw [if_pos d, if_pos ⟨c.1, c.2, d⟩]
              · rw [if_neg d, if_neg (fun z => d z.2.2), c.1]
            · rw [if_neg c, if_neg (fun z => c ⟨z.1, z.2.1⟩)]
          have hpost := mr hp (fr_tr (fr_al f1 q0 k3) f4) h5
          have hpost : post (roF S r b y x i).2 G4 := hpost
          rw [rv.2] at hpost
          have hle := cnF_le (S_v S r b) y i
          refine ⟨fun c => m_one (fun _ => ?_) (fun z => absurd rfl z), fun c => m_one (fun z => absurd z (by decide)) (fun _ => ?_)⟩
          · have hc : cnF (S_v S r b) y i = 0 := Decidable.byContradiction fun e => nI_nle (by omega) (by omega) c
            rw [if_pos hc] at hpost; exact hpost
          · have hc : ¬ cnF (S_v S r b) y i = 0 := fun e => c (by rw [e]; decide)
            rw [if_neg hc] at hpost; exact hpost
      | succ k ih =>
        intro i G3 f' hi k3 e3 g1 g2
        show w_X3_replaceOld_51_b K post (w_X3_replaceOld_51 K post (k + 1)) (some M.1.1) (nI j) y x (some q) (nI (cnF (S_v S r b) y n)) (nI i) G3
        have hst : ∀ z, rpF y x (S_v S r b i) = z → w_X3_replaceOld_81 K post (w_X3_replaceOld_51 K post (k + 1)) (some M.1.1) (nI j) y x (some q) (nI (cnF (S_v S r b) y n)) (nI i) (some q) (nI i) z G3 := fun z hz => by
          refine asI_i e3 rfl (by omega) (by omega) ?_
          rw [nI_1]
          refine ih (i + 1) _ _ (by omega) (fun a ha => by rw [tg_n _ _ ha]; exact k3 a ha) (tg_s _ _ _) (fun t ht => ?_) (fun t ht ht2 => ?_)
          · by_cases c : t = i
            · rw [c, upd_s]; exact hz.symm
            · rw [upd_n c]; exact g1 t (by omega)
          · rw [upd_n (by omega)]; exact g2 t (by omega) ht2
        have e5 : f' i = S_v S r b i := g2 i (by omega) (by omega)
        refine lenA_i e3 ⟨fun c => absurd c (nI_ge (by omega) (by omega)), fun _ => alI_i e3 rfl (by omega) (by omega) ⟨fun c => alI_i e3 rfl (by omega) (by omega) (hst _ ?_), fun c => hst _ ?_⟩⟩
        · rw [← e5]; unfold rpF; rw [if_neg c]
        · rw [← e5]; unfold rpF; rw [if_pos c]
    exact ⟨n + 1, main n 0 G2 f (by omega) q3 q1 (fun t ht => absurd ht (by omega)) (fun t _ ht => q2 t ht)⟩
theorem m_ruled {pk : Int32 → tG → Prop} {x rule w : Int32} (h : pk (ruF rule w x) G) : w_X3_ruled K pk rule x w G := by
  have h12 : w_X3_ruled_12 K pk rule w (nuF x) G := by
    unfold ruF at h
    refine ⟨fun c => ⟨fun c1 => ⟨fun c2 => ⟨fun d => ?_, fun d => ?_⟩, fun c2 => ?_⟩, fun c1 => ?_⟩, fun c => ?_⟩
    · rw [if_neg c, if_neg c1, if_neg c2, if_neg d] at h; exact h
    · rw [if_neg c, if_neg c1, if_neg c2, if_pos d] at h; exact h
    · rw [if_neg c, if_neg c1, if_pos c2] at h; exact h
    · rw [if_neg c, if_pos c1] at h; exact h
    · rw [if_pos c] at h; exact h
  refine ⟨fun c => ?_, fun c => ?_⟩
  · have e : nuF x = x := by unfold nuF; rw [if_neg c]
    rw [e] at h12; exact h12
  · have e : nuF x = 0 := by unfold nuF; rw [if_pos c]
    rw [e] at h12; exact h12
theorem wrF_1 (S : tS) (r b a : Nat) (back rule w : Int32) : ∀ k, (wrF S r b a back rule w k).1 = S.1 ∧ (wrF S r b a back rule w k).2.2 = S.2.2
  | 0 => ⟨rfl, rfl⟩
  | k + 1 => wrF_1 S r b a back rule w k
/-- a rule in the places from a on, up to e -/
theorem m_ruledAll {pk : Int32 → tG → Prop} {j r b n a e : Nat} {rule w : Int32} (h : MoR G M S th) (hj : j < 7) (hs : S.1 j = some (r, b, n)) (hae : a ≤ e) (hen : e ≤ n) (hw : inR w (-99) 99) (hp : ∀ G', fr (moW M) G G' → MoR G' M (wrF S r b a 0 rule w (e - a)) th → pk (nI (e - a)) G') : w_X3_ruledAll K pk (some M.1.1) (nI j) (nI a) (nI e) rule w G := by
  have hn12 := (S_12 h.1 hj hs).2
  have hr3 := (S_12 h.1 hj hs).1
  have main : ∀ k i G1, i + k = e - a → fr (moW M) G G1 → MoR G1 M (wrF S r b a 0 rule w i) th → w_X3_ruledAll_3 K pk (k + 1) (some M.1.1) (nI j) (nI a) (nI e) rule w (nI (a + i)) G1 := by
    intro k
    induction k with
    | zero =>
      intro i G1 hi f1 h1
      show w_X3_ruledAll_3_b K pk (w_X3_ruledAll_3 K pk 0) (some M.1.1) (nI j) (nI a) (nI e) rule w (nI (a + i)) G1
      have ei : i = e - a := by omega
      subst ei
      refine ⟨fun _ => ?_, fun c => absurd (nI_le (by omega) (by omega)) c⟩
      rw [nI_subN hae]
      exact hp G1 f1 h1
    | succ k ih =>
      intro i G1 hi f1 h1
      show w_X3_ruledAll_3_b K pk (w_X3_ruledAll_3 K pk (k + 1)) (some M.1.1) (nI j) (nI a) (nI e) rule w (nI (a + i)) G1
      have hs1 : (wrF S r b a 0 rule w i).1 j = some (r, b, n) := by rw [(wrF_1 S r b a 0 rule w i).1]; exact hs
      refine ⟨fun c => absurd c (nI_ge (by omega) (by omega)), fun _ => m_rcv h1 (m_value h1 hj hs1 (show a + i < n by omega) (m_ruled (m_rcv h1 (m_write h1 hj hs1 (show a + i < n by omega) (ruF_ok (h1.1.2.2 r _ hr3 (by omega)) hw) (fun G2 f2 h2 => ?_)))))⟩
      rw [nI_1]
      exact ih (i + 1) G2 (by omega) (fr_tr f1 f2) h2
  exact ⟨e - a + 1, main (e - a) 0 G (by omega) (fr_rf _ _) h⟩
theorem wrF_v0 (S : tS) (r b a : Nat) (rule w : Int32) : ∀ k r' i, (wrF S r b a 0 rule w k).2.1 r' i = if r' = r ∧ b + a ≤ i ∧ i < b + a + k then ruF rule w (S.2.1 r i) else S.2.1 r' i
  | 0, r', i => by rw [if_neg (by omega)]; rfl
  | k + 1, r', i => by
    have ih := wrF_v0 S r b a rule w k
    show (S_put (wrF S r b a 0 rule w k) r (b + (a + k)) (ruF rule w ((wrF S r b a 0 rule w k).2.1 r (b + (a + k))))).2.1 r' i = _
    have e0 : (wrF S r b a 0 rule w k).2.1 r (b + (a + k)) = S.2.1 r (b + (a + k)) := by rw [ih, if_neg (by omega)]
    rw [e0, S_put_v]
    by_cases d : r' = r ∧ i = b + (a + k)
    · rw [if_pos d, if_pos ⟨d.1, by omega⟩, d.2]
    · rw [if_neg d, ih]
      by_cases d2 : r' = r ∧ b + a ≤ i ∧ i < b + a + k
      · rw [if_pos d2, if_pos ⟨d2.1, by omega⟩]
      · rw [if_neg d2, if_neg]
        rintro ⟨z1, z2⟩
        have : i ≠ b + (a + k) := fun q => d ⟨z1, q⟩
        exact d2 ⟨z1, by omega⟩
theorem wrF_v1 (S : tS) (r b a : Nat) {back : Int32} (hb : ¬ back = 0) (rule w : Int32) : ∀ k r' i, k ≤ a → (wrF S r b a back rule w k).2.1 r' i = if r' = r ∧ b + (a - k) ≤ i ∧ i < b + a then ruF rule w (S.2.1 r i) else S.2.1 r' i
  | 0, r', i, _ => by rw [if_neg (by omega)]; rfl
  | k + 1, r', i, hk => by
    have ih := wrF_v1 S r b a hb rule w k
    have ep : plF a back k = a - 1 - k := by unfold plF; rw [if_neg hb]
    show (S_put (wrF S r b a back rule w k) r (b + plF a back k) (ruF rule w ((wrF S r b a back rule w k).2.1 r (b + plF a back k)))).2.1 r' i = _
    have e0 : (wrF S r b a back rule w k).2.1 r (b + (a - 1 - k)) = S.2.1 r (b + (a - 1 - k)) := by rw [ih _ _ (by omega), if_neg (by omega)]
    rw [ep, e0, S_put_v]
    by_cases d : r' = r ∧ i = b + (a - 1 - k)
    · rw [if_pos d, if_pos ⟨d.1, by omega⟩, d.2]
    · rw [if_neg d, ih r' i (by omega)]
      by_cases d2 : r' = r ∧ b + (a - k) ≤ i ∧ i < b + a
      · rw [if_pos d2, if_pos ⟨d2.1, by omega⟩]
      · rw [if_neg d2, if_neg]
        rintro ⟨z1, z2⟩
        have : i ≠ b + (a - 1 - k) := fun q => d ⟨z1, q⟩
        exact d2 ⟨z1, by omega⟩
theorem m_replaceAll {v rule w : Int32} (h : MoR G M S th) (hp : mRes M G post (sp_li S (S_at S v) fun r b n => if inR rule 0 3 ∧ inR w (-99) 99 then (0, nI (slF 0 n 0), wrF S r b 0 0 rule w (slF 0 n 0)) else (2, 0, S))) : w_X3_replaceAll K post (some M.1.1) v rule w G := by
  refine m_rcv h (m_isNoList h (fun c => ?_) (fun j r b n hj ev hs => ?_))
  · rw [c] at hp
    exact m_isNoRule (fun _ => m_rcv h (m_fails h (fun G1 f1 h1 => ⟨fun z => absurd z (by decide), fun _ => mr (a := (1, 0, S)) hp f1 h1⟩))) (fun _ _ => m_rcv h (m_fails h (fun G1 f1 h1 => ⟨fun z => absurd z (by decide), fun _ => mr (a := (1, 0, S)) hp f1 h1⟩)))
  · subst ev
    rw [S_at_nI S hj, hs] at hp
    refine m_isNoRule (fun hq => ?_) (fun q1 q2 => ?_)
    · simp only [sp_li, if_neg hq] at hp
      exact m_rcv h (m_fails h (fun G1 f1 h1 => ⟨fun z => absurd z (by decide), fun _ => mr hp f1 h1⟩))
    · simp only [sp_li, if_pos (And.intro q1 q2)] at hp
      exact m_rcv h (m_fails h (fun G1 f1 h1 => ⟨fun _ => m_len h1 hj hs (m_rcv h1 (m_ruledAll (a := 0) h1 hj hs (by omega) (by omega) q2 (fun G2 f2 h2 => mr hp (fr_tr f1 f2) h2))), fun z => absurd (by decide) z⟩))
theorem m_walkSet {v p rule w back : Int32} (h : MoR G M S th) (hp : mRes M G post (sp_li S (S_at S v) fun r b n => if inR p 0 (nI n) ∧ (inR rule 0 3 ∧ inR w (-99) 99) then (0, nI (slF p.toInt.toNat n back), wrF S r b p.toInt.toNat back rule w (slF p.toInt.toNat n back)) else (2, 0, S))) : w_X3_walkSet K post (some M.1.1) v p rule w back G := by
  refine m_rcv h (m_isNoList h (fun c => ?_) (fun j r b n hj ev hs => ?_))
  · rw [c] at hp
    have hbad : ∀ u, w_X3_walkSet_29 K post (some M.1.1) v p rule w back (some M.1.1) 1 u G := fun u => m_rcv h (m_fails h (fun G1 f1 h1 => ⟨fun z => absurd (show (1 : Int32) = 0 from z) (by decide), fun _ => mr (a := (1, 0, S)) hp f1 h1⟩))
    exact m_rcv h (m_isBeyond h (fun _ => ⟨fun z => absurd rfl z, fun _ => m_isNoRule (fun _ => ⟨fun z => absurd z (by decide), fun _ => hbad 1⟩) (fun _ _ => ⟨fun _ => hbad 0, fun z => absurd rfl z⟩)⟩) (fun j r b n hj ev hs _ => by subst ev; rw [S_at_nI S hj, hs] at c; cases c) (fun j r b n hj ev hs _ => by subst ev; rw [S_at_nI S hj, hs] at c; cases c))
  · have ec : S_at S v = some (r, b, n) := by rw [ev, S_at_nI S hj]; exact hs
    rw [ec] at hp
    have hn12 := (S_12 h.1 hj hs).2
    have hbad : ¬ (inR p 0 (nI n) ∧ (inR rule 0 3 ∧ inR w (-99) 99)) → w_X3_walkSet_29 K post (some M.1.1) v p rule w back (some M.1.1) 0 1 G := fun q => by
      simp only [sp_li, if_neg q] at hp
      exact m_rcv h (m_fails h (fun G1 f1 h1 => ⟨fun z => absurd z (by decide), fun _ => mr hp f1 h1⟩))
    have hgood : inR p 0 (nI n) → inR rule 0 3 → inR w (-99) 99 → w_X3_walkSet_29 K post (some M.1.1) v p rule w back (some M.1.1) 0 0 G := fun g1 g2 g3 => by
      simp only [sp_li, if_pos (And.intro g1 (And.intro g2 g3))] at hp
      obtain ⟨a, ha, rfl⟩ := nI_of2 (nI_toInt (n := n) (by omega)) g1.1 g1.2
      rw [nI_nat (by omega)] at hp
      subst ev
      refine m_rcv h (m_fails h (fun G1 f1 h1 => ⟨fun _ => ⟨fun cb => ⟨fun _ => m_len h1 hj hs (m_rcv h1 (m_ruledAll h1 hj hs ha (by omega) g3 (fun G2 f2 h2 => ?_))), fun z => absurd cb z⟩, fun cb => ⟨fun z => absurd z cb, fun _ => m_rcv h1 (m_ruledAll (a := 0) h1 hj hs (by omega) ha g3 (fun G2 f2 h2 => ?_))⟩⟩, fun z => absurd (by decide) z⟩))
      · subst cb
        have e : slF a n 0 = n - a := by unfold slF; rw [if_pos rfl]
        rw [e] at hp
        exact mr hp (fr_tr f1 f2) h2
      · have e : slF a n back = a := by unfold slF; rw [if_neg cb]
        rw [e] at hp
        refine mr hp (fr_tr f1 f2) ?_
        refine MoR_eq h2 (S_eq_of ((wrF_1 S r b 0 0 rule w (a - 0)).1.trans (wrF_1 S r b a back rule w a).1.symm) (fun r' i => ?_) ((wrF_1 S r b 0 0 rule w (a - 0)).2.trans (wrF_1 S r b a back rule w a).2.symm)) ?_
        · show _ = (wrF S r b a back rule w a).2.1 r' i
          rw [wrF_v0, wrF_v1 S r b a cb rule w a r' i (Nat.le_refl _)]
          by_cases d : r' = r ∧ b + 0 ≤ i ∧ i < b + 0 + (a - 0)
          · rw [if_pos d, if_pos ⟨d.1, by omega⟩]
          · rw [if_neg d, if_neg (fun z => d ⟨z.1, by omega⟩)]
        · have hr3 := (S_12 h.1 hj hs).1
          have : ∀ k, k ≤ a → S_ok (wrF S r b a back rule w k) := by
            intro k
            induction k with
            | zero => intro _; exact h.1
            | succ k ih =>
              intro hk
              have ep : plF a back k = a - 1 - k := by unfold plF; rw [if_neg cb]
              refine S_put_ok (ih (by omega)) r _ (ruF_ok ((ih (by omega)).2.2 r _ hr3 ?_) g3)
              rw [ep]; omega
          exact this a (Nat.le_refl _)
    have other : ∀ {j2 r2 b2 n2}, j2 < 7 → v = nI j2 → S.1 j2 = some (r2, b2, n2) → n2 = n := fun {j2 r2 b2 n2} hj2 ev2 hs2 => by
      have e2 : S_at S v = some (r2, b2, n2) := by rw [ev2, S_at_nI S hj2]; exact hs2
      rw [ec] at e2; cases e2; rfl
    refine m_rcv h (m_isBeyond h (fun c => ?_) (fun j2 r2 b2 n2 hj2 ev2 hs2 q => ⟨fun _ => hbad (fun z => q ?_), fun z => absurd z (by decide)⟩) (fun j2 r2 b2 n2 hj2 ev2 hs2 q => ⟨fun z => absurd rfl z, fun _ => m_isNoRule (fun hx => ⟨fun z => absurd z (by decide), fun _ => hbad (fun z => hx z.2)⟩) (fun g2 g3 => ⟨fun _ => hgood ?_ g2 g3, fun z => absurd rfl z⟩)⟩))
    · rw [ec] at c; cases c
    · rw [other hj2 ev2 hs2]; exact z.1
    · rw [other hj2 ev2 hs2] at q; exact q
end MOP
end
section
/-! the model: turning -/
theorem S_exch_v (S : tS) (r i j r' p : Nat) : (S_exch S r i j).2.1 r' p = if r' = r ∧ p = j then S.2.1 r i else if r' = r ∧ p = i then S.2.1 r j else S.2.1 r' p := by
  unfold S_exch
  rw [S_put_v, S_put_v]
theorem S_exch_ok {S : tS} (h : S_ok S) {r i j : Nat} (hr : r < 3) (hi : i < 12) (hj : j < 12) : S_ok (S_exch S r i j) :=
  S_put_ok (S_put_ok h r i (h.2.2 r j hr hj)) r j (h.2.2 r i hr hi)
theorem tuF_1 (r b : Nat) : ∀ k i e S, (tuF r b k i e S).1 = S.1 ∧ (tuF r b k i e S).2.2 = S.2.2
  | 0, _, _, _ => ⟨rfl, rfl⟩
  | k + 1, i, e, S => by
    show (if i + 1 < e then tuF r b k (i + 1) (e - 1) (S_exch S r (b + i) (b + (e - 1))) else S).1 = S.1 ∧ (if i + 1 < e then tuF r b k (i + 1) (e - 1) (S_exch S r (b + i) (b + (e - 1))) else S).2.2 = S.2.2
    split
    · have := tuF_1 r b k (i + 1) (e - 1) (S_exch S r (b + i) (b + (e - 1)))
      exact ⟨this.1, this.2⟩
    · exact ⟨rfl, rfl⟩
theorem tuF_ok {r b : Nat} (hr : r < 3) : ∀ k i e S, b + e ≤ 12 → S_ok S → S_ok (tuF r b k i e S)
  | 0, _, _, _, _, h => h
  | k + 1, i, e, S, he, h => by
    show S_ok (if i + 1 < e then tuF r b k (i + 1) (e - 1) (S_exch S r (b + i) (b + (e - 1))) else S)
    split
    · exact tuF_ok hr k (i + 1) (e - 1) _ (by omega) (S_exch_ok h hr (by omega) (by omega))
    · exact h
theorem S_cg {S : tS} {r p p' : Nat} (h : p = p') : S.2.1 r p = S.2.1 r p' := by rw [h]
theorem tuF_v (r b : Nat) : ∀ k i e S r' p, e ≤ i + 2 * k + 1 → (tuF r b k i e S).2.1 r' p = if r' = r ∧ b + i ≤ p ∧ p < b + e then S.2.1 r (b + i + (b + e - 1 - p)) else S.2.1 r' p
  | 0, i, e, S, r', p, h => by
    show S.2.1 r' p = _
    by_cases d : r' = r ∧ b + i ≤ p ∧ p < b + e
    · refine Eq.trans ?_ (if_pos d).symm
      obtain ⟨d1, d2, d3⟩ := d
      subst d1
      exact S_cg (by omega)
    · rw [if_neg d]
  | k + 1, i, e, S, r', p, h => by
    show (if i + 1 < e then tuF r b k (i + 1) (e - 1) (S_exch S r (b + i) (b + (e - 1))) else S).2.1 r' p = _
    by_cases c : i + 1 < e
    · rw [if_pos c, tuF_v r b k (i + 1) (e - 1) _ r' p (by omega)]
      by_cases d : r' = r ∧ b + i ≤ p ∧ p < b + e
      · refine Eq.trans ?_ (if_pos d).symm
        obtain ⟨d1, d2, d3⟩ := d
        subst d1
        by_cases p1 : p = b + i
        · rw [if_neg (by omega), S_exch_v, if_neg (by omega), if_pos ⟨rfl, p1⟩]
          exact S_cg (by omega)
        · by_cases p2 : p = b + (e - 1)
          · rw [if_neg (by omega), S_exch_v, if_pos ⟨rfl, p2⟩]
            exact S_cg (by omega)
          · rw [if_pos ⟨rfl, by omega, by omega⟩, S_exch_v, if_neg (by omega), if_neg (by omega)]
            exact S_cg (by omega)
      · refine Eq.trans ?_ (if_neg d).symm
        rw [if_neg (fun z => d ⟨z.1, by omega⟩), S_exch_v, if_neg (fun z => d ⟨z.1, by omega⟩), if_neg (fun z => d ⟨z.1, by omega⟩)]
    · rw [if_neg c]
      by_cases d : r' = r ∧ b + i ≤ p ∧ p < b + e
      · refine Eq.trans ?_ (if_pos d).symm
        obtain ⟨d1, d2, d3⟩ := d
        subst d1
        exact S_cg (by omega)
      · rw [if_neg d]
/-- values written to given places, one behind another -/
def pcF (S : tS) (r : Nat) (po : Nat → Nat) (f : Nat → Int32) : Nat → tS
  | 0 => S
  | k + 1 => S_put (pcF S r po f k) r (po k) (f k)
theorem pcF_1 (S : tS) (r : Nat) (po : Nat → Nat) (f : Nat → Int32) : ∀ k, (pcF S r po f k).1 = S.1 ∧ (pcF S r po f k).2.2 = S.2.2
  | 0 => ⟨rfl, rfl⟩
  | k + 1 => pcF_1 S r po f k
theorem pcF_miss (S : tS) (r : Nat) (po : Nat → Nat) (f : Nat → Int32) {r' i : Nat} : ∀ k, (r' ≠ r ∨ ∀ t, t < k → i ≠ po t) → (pcF S r po f k).2.1 r' i = S.2.1 r' i
  | 0, _ => rfl
  | k + 1, h => by
    show (S_put (pcF S r po f k) r (po k) (f k)).2.1 r' i = _
    rw [S_put_v, if_neg (fun z => h.elim (fun q => q z.1) (fun q => q k (by omega) z.2))]
    exact pcF_miss S r po f k (h.imp id (fun q t ht => q t (by omega)))
theorem pcF_hit (S : tS) (r : Nat) (po : Nat → Nat) (f : Nat → Int32) {n : Nat} (hi : ∀ t t', t < n → t' < n → po t = po t' → t = t') : ∀ k, k ≤ n → ∀ t, t < k → (pcF S r po f k).2.1 r (po t) = f t
  | 0, _, t, h => absurd h (by omega)
  | k + 1, hk, t, h => by
    show (S_put (pcF S r po f k) r (po k) (f k)).2.1 r (po t) = _
    rw [S_put_v]
    by_cases c : t = k
    · rw [c, if_pos ⟨rfl, rfl⟩]
    · rw [if_neg (fun z => c (hi t k (by omega) (by omega) z.2))]
      exact pcF_hit S r po f hi k (by omega) t (by omega)
def mdF (x y : Int32) : Int32 := ((x - x / y * y) + y) - ((x - x / y * y) + y) / y * y
set_option maxRecDepth 100000 in
theorem md_tab : ((List.range 210).all fun i => (List.range 12).all fun n => decide (mdF (nI i - nI 99) (nI (n + 1)) = nI ((i + 99 * n) % (n + 1)))) = true := by decide +kernel
set_option maxRecDepth 100000 in
theorem fm_tab2 : ((List.range 199).all fun i => (List.range 12).all fun n => decide (fmF (nI i - nI 99) (nI (n + 1)) = nI ((i + 99 * n) % (n + 1)))) = true := by decide +kernel
theorem md_at {x : Int32} {n : Nat} (hx : inR x (-99) 99) (h0 : 0 < n) (hn : n ≤ 12) : ∃ s, s < n ∧ fmF x (nI n) = nI s ∧ ∀ k, k < n → mdF (nI k + x) (nI n) = nI (if k + s < n then k + s else k + s - n) := by
  have e1 : (99 : Int32).toInt = 99 := rfl
  have e2 : (-99 : Int32).toInt = -99 := rfl
  have h1 := hx.1
  have h2 := hx.2
  rw [i32_lt] at h1
  rw [i32_le] at h2
  obtain ⟨i0, hi0, ex⟩ : ∃ i0, i0 < 199 ∧ x = nI i0 - nI 99 := by
    refine ⟨(x.toInt + 99).toNat, by omega, ?_⟩
    apply Int32.toInt_inj.mp
    rw [nI_sub (by omega) (by omega)]
    omega
  subst ex
  have t := List.all_eq_true.mp (List.all_eq_true.mp fm_tab2 i0 (List.mem_range.mpr (by omega))) (n - 1) (List.mem_range.mpr (by omega))
  have t := of_decide_eq_true t
  rw [show n - 1 + 1 = n by omega] at t
  refine ⟨_, Nat.mod_lt _ h0, t, fun k hk => ?_⟩
  have t2 := List.all_eq_true.mp (List.all_eq_true.mp md_tab (k + i0) (List.mem_range.mpr (by omega))) (n - 1) (List.mem_range.mpr (by omega))
  have t2 := of_decide_eq_true t2
  rw [show n - 1 + 1 = n by omega] at t2
  have e3 : nI k + (nI i0 - nI 99) = nI (k + i0) - nI 99 := by
    rw [Int32.sub_eq_add_neg, ← Int32.add_assoc, nI_add, ← Int32.sub_eq_add_neg]
  rw [e3, t2]
  congr 1
  have hs := Nat.mod_lt (i0 + 99 * (n - 1)) h0
  have e4 : (k + i0 + 99 * (n - 1)) % n = (k + (i0 + 99 * (n - 1)) % n) % n := by
    rw [show k + i0 + 99 * (n - 1) = k + (i0 + 99 * (n - 1)) by omega, Nat.add_mod, Nat.add_mod k ((i0 + 99 * (n - 1)) % n), Nat.mod_mod]
  rw [e4]
  by_cases c : k + (i0 + 99 * (n - 1)) % n < n
  · rw [if_pos c, Nat.mod_eq_of_lt c]
  · rw [if_neg c, Nat.mod_eq_sub_mod (by omega), Nat.mod_eq_of_lt (by omega)]
def poF (b n s k : Nat) : Nat := b + (if k + s < n then k + s else k + s - n)
theorem poF_inj {b n s : Nat} (hs : s < n) : ∀ t t', t < n → t' < n → poF b n s t = poF b n s t' → t = t' := by
  intro t t' ht ht' e
  unfold poF at e
  split at e <;> split at e <;> omega
section MOQ
variable {K : tK} {G : tG} {M : tM} {S : tS} {th : Int32} {post : Int32 → tG → Prop}
theorem m_reverse {v : Int32} (h : MoR G M S th) (hp : mRes M G post (sp_li S (S_at S v) fun r b n => (0, nI n, tuF r b n 0 n S))) : w_X3_reverse K post (some M.1.1) v G := by
  refine m_rcv h (m_isNoList h (fun c => ?_) (fun j r b n hj ev hs => ?_))
  · rw [c] at hp
    exact m_rcv h (m_fails h (fun G1 f1 h1 => ⟨fun z => absurd z (by decide), fun _ => mr (a := (1, 0, S)) hp f1 h1⟩))
  · subst ev
    rw [S_at_nI S hj, hs] at hp
    have hn12 := (S_12 h.1 hj hs).2
    have hr3 := (S_12 h.1 hj hs).1
    refine m_rcv h (m_fails h (fun G1 f1 h1 => ⟨fun _ => m_rcv h1 (m_all h1 hj hs (fun q f G2 q0 q1 q2 q3 h2 => ?_)), fun z => absurd (by decide) z⟩))
    have hqm := MoC_no (MoR_C h1) q0
    have main : ∀ k i G3, i + k = n → fr (moW M) G2 G3 → MoR G3 M (pcF S r (fun k => b + (n - 1 - k)) f i) 0 → w_X3_reverse_23 K post (k + 1) (some M.1.1) (nI j) (some q) (nI i) G3 := by
      intro k
      induction k with
      | zero =>
        intro i G3 hi f3 h3
        show w_X3_reverse_23_b K post (w_X3_reverse_23 K post 0) (some M.1.1) (nI j) (some q) (nI i) G3
        have e : i = n := by omega
        subst e
        have e3 := f3 _ _ q1 hqm
        refine lenA_i e3 ⟨fun _ => lenA_i e3 (mr hp (fr_tr (fr_al f1 q0 q3) f3) ?_), fun c => absurd (nI_le (by omega) (by omega)) c⟩
        refine MoR_eq h3 ⟨fun j' _ => ?_, fun r' p _ _ => ?_, (pcF_1 S r _ f i).2.trans (tuF_1 r b i 0 i S).2.symm⟩ (tuF_ok hr3 i 0 i S hn12 h.1)
        · rw [(pcF_1 S r _ f i).1]; show _ = (tuF r b i 0 i S).1 j'; rw [(tuF_1 r b i 0 i S).1]
        · show _ = (tuF r b i 0 i S).2.1 r' p
          rw [tuF_v r b i 0 i S r' p (by omega)]
          by_cases d : r' = r ∧ b + 0 ≤ p ∧ p < b + i
          · rw [if_pos d]
            obtain ⟨d1, d2, d3⟩ := d
            subst d1
            have hinj : ∀ t t', t < i → t' < i → (fun k => b + (i - 1 - k)) t = (fun k => b + (i - 1 - k)) t' → t = t' := fun t t' ht ht' e => by
              have e : b + (i - 1 - t) = b + (i - 1 - t') := e
              omega
            have hh := pcF_hit S r' (fun k => b + (i - 1 - k)) f hinj i (Nat.le_refl _) (b + i - 1 - p) (by omega)
            have ep : b + (i - 1 - (b + i - 1 - p)) = p := by omega
            have hh : (pcF S r' (fun k => b + (i - 1 - k)) f i).2.1 r' (b + (i - 1 - (b + i - 1 - p))) = f (b + i - 1 - p) := hh
            rw [ep] at hh
            rw [hh, q2 _ (by omega)]
            show S.2.1 r' (b + (b + i - 1 - p)) = _
            exact S_cg (by omega)
          · rw [if_neg d, pcF_miss]
            by_cases c : r' = r
            · exact Or.inr (fun t ht z => d ⟨c, by omega, by omega⟩)
            · exact Or.inl c
      | succ k ih =>
        intro i G3 hi f3 h3
        show w_X3_reverse_23_b K post (w_X3_reverse_23 K post (k + 1)) (some M.1.1) (nI j) (some q) (nI i) G3
        have e3 := f3 _ _ q1 hqm
        have hs3 : (pcF S r (fun k => b + (n - 1 - k)) f i).1 j = some (r, b, n) := by rw [(pcF_1 S r _ f i).1]; exact hs
        have eq : nI n - 1 = nI (n - 1) := by
          have q2 : n = n - 1 + 1 := by omega
          rw [q2, nI_pred]; congr 1
        refine lenA_i e3 ⟨fun c => absurd c (nI_ge (by omega) (by omega)), fun _ => lenA_i e3 (alI_i e3 rfl (by omega) (by omega) (m_rcv h3 ?_))⟩
        show w_X3_write K _ (some M.1.1) (nI j) (nI n - 1 - nI i) (f i) G3
        rw [eq, nI_subN (by omega)]
        refine m_write h3 hj hs3 (show n - 1 - i < n by omega) (by rw [q2 i (by omega)]; exact h.1.2.2 r _ hr3 (by omega)) (fun G4 f4 h4 => ?_)
        rw [nI_1]
        exact ih (i + 1) G4 (by omega) (fr_tr f3 f4) h4
    exact ⟨n + 1, main n 0 G2 (by omega) (fr_rf _ _) h2⟩
theorem roS_v {r b n s : Nat} (hs : s < n) (r' p : Nat) : (roS S r b n s).2.1 r' p = if r' = r ∧ b ≤ p ∧ p < b + n then (if p < b + s then S.2.1 r (p + (n - s)) else S.2.1 r (p - s)) else S.2.1 r' p := by
  unfold roS
  rw [tuF_v r b n s n _ r' p (by omega)]
  by_cases d : r' = r ∧ b ≤ p ∧ p < b + n
  · refine Eq.trans ?_ (if_pos d).symm
    obtain ⟨d1, d2, d3⟩ := d
    subst d1
    by_cases c : p < b + s
    · refine Eq.trans ?_ (if_pos c).symm
      rw [if_neg (by omega), tuF_v r' b s 0 s _ r' p (by omega), if_pos ⟨rfl, by omega, by omega⟩, tuF_v r' b n 0 n _ _ _ (by omega), if_pos ⟨rfl, by omega, by omega⟩]
      exact S_cg (by omega)
    · refine Eq.trans ?_ (if_neg c).symm
      rw [if_pos ⟨rfl, by omega, by omega⟩, tuF_v r' b s 0 s _ _ _ (by omega), if_neg (by omega), tuF_v r' b n 0 n _ _ _ (by omega), if_pos ⟨rfl, by omega, by omega⟩]
      exact S_cg (by omega)
  · refine Eq.trans ?_ (if_neg d).symm
    rw [if_neg (fun z => d ⟨z.1, by omega⟩), tuF_v r b s 0 s _ r' p (by omega), if_neg (fun z => d ⟨z.1, by omega⟩), tuF_v r b n 0 n _ r' p (by omega), if_neg (fun z => d ⟨z.1, by omega⟩)]
theorem roS_1 (r b n s : Nat) : (roS S r b n s).1 = S.1 ∧ (roS S r b n s).2.2 = S.2.2 := by
  unfold roS
  exact ⟨(tuF_1 r b n s n _).1.trans ((tuF_1 r b s 0 s _).1.trans (tuF_1 r b n 0 n S).1), (tuF_1 r b n s n _).2.trans ((tuF_1 r b s 0 s _).2.trans (tuF_1 r b n 0 n S).2)⟩
theorem roS_ok (h : S_ok S) {r b n s : Nat} (hr : r < 3) (hn : b + n ≤ 12) (hs : s ≤ n) : S_ok (roS S r b n s) :=
  tuF_ok hr n s n _ hn (tuF_ok hr s 0 s _ (by omega) (tuF_ok hr n 0 n S hn h))
theorem m_rotate {v x : Int32} (h : MoR G M S th) (hp : mRes M G post (sp_li S (S_at S v) fun r b n => if inR x (-99) 99 then (0, nI n, if n = 0 then S else roS S r b n (fmF x (nI n)).toInt.toNat) else (2, 0, S))) : w_X3_rotate K post (some M.1.1) v x G := by
  refine m_rcv h (m_isNoList h (fun c => ?_) (fun j r b n hj ev hs => ?_))
  · rw [c] at hp
    have hbad : ∀ u, w_X3_rotate_22 K post (some M.1.1) v x (some M.1.1) 1 u G := fun u => m_rcv h (m_fails h (fun G1 f1 h1 => ⟨fun z => absurd (show (1 : Int32) = 0 from z) (by decide), fun _ => mr (a := (1, 0, S)) hp f1 h1⟩))
    exact m_isIn (fun _ => ⟨fun _ => hbad 0, fun z => absurd z (by decide)⟩) (fun _ => ⟨fun z => absurd rfl z, fun _ => hbad 1⟩)
  · subst ev
    rw [S_at_nI S hj, hs] at hp
    have hn12 := (S_12 h.1 hj hs).2
    have hr3 := (S_12 h.1 hj hs).1
    refine m_isIn (fun hx => ⟨fun _ => ?_, fun z => absurd z (by decide)⟩) (fun hx => ⟨fun z => absurd rfl z, fun _ => ?_⟩)
    · simp only [sp_li, if_pos hx] at hp
      refine m_rcv h (m_fails h (fun G1 f1 h1 => ⟨fun _ => m_rcv h1 (m_all h1 hj hs (fun q f G2 q0 q1 q2 q3 h2 => ?_)), fun z => absurd (by decide) z⟩))
      have hqm := MoC_no (MoR_C h1) q0
      by_cases hn : n = 0
      · rw [if_pos hn] at hp
        subst hn
        refine ⟨1, ?_⟩
        show w_X3_rotate_39_b K post (w_X3_rotate_39 K post 0) (some M.1.1) (nI j) x (some q) 0 G2
        exact lenA_i q1 ⟨fun _ => lenA_i q1 (mr hp (fr_al f1 q0 q3) h2), fun c => absurd (show nI 0 ≤ 0 by decide) c⟩
      · rw [if_neg hn] at hp
        obtain ⟨s, hsn, es, emd⟩ := md_at hx (by omega) (show n ≤ 12 by omega)
        rw [es, nI_nat (by omega)] at hp
        have main : ∀ k i G3, i + k = n → fr (moW M) G2 G3 → MoR G3 M (pcF S r (poF b n s) f i) 0 → w_X3_rotate_39 K post (k + 1) (some M.1.1) (nI j) x (some q) (nI i) G3 := by
          intro k
          induction k with
          | zero =>
            intro i G3 hi f3 h3
            show w_X3_rotate_39_b K post (w_X3_rotate_39 K post 0) (some M.1.1) (nI j) x (some q) (nI i) G3
            have e : i = n := by omega
            subst e
            have e3 := f3 _ _ q1 hqm
            refine lenA_i e3 ⟨fun _ => lenA_i e3 (mr hp (fr_tr (fr_al f1 q0 q3) f3) ?_), fun c => absurd (nI_le (by omega) (by omega)) c⟩
            refine MoR_eq h3 ⟨fun j' _ => ?_, fun r' p _ _ => ?_, (pcF_1 S r _ f i).2.trans (roS_1 r b i s).2.symm⟩ (roS_ok h.1 hr3 hn12 (by omega))
            · rw [(pcF_1 S r _ f i).1]; show _ = (roS S r b i s).1 j'; rw [(roS_1 r b i s).1]
            · show _ = (roS S r b i s).2.1 r' p
              rw [roS_v hsn]
              by_cases d : r' = r ∧ b ≤ p ∧ p < b + i
              · rw [if_pos d]
                obtain ⟨d1, d2, d3⟩ := d
                subst d1
                have hh := fun t ht => pcF_hit S r' (poF b i s) f (n := i) (poF_inj hsn) i (Nat.le_refl _) t ht
                by_cases c : p < b + s
                · rw [if_pos c]
                  have hh := hh (p - b + (i - s)) (by omega)
                  have ep : poF b i s (p - b + (i - s)) = p := by unfold poF; rw [if_neg (by omega)]; omega
                  rw [ep] at hh
                  rw [hh, q2 _ (by omega)]
                  show S.2.1 r' (b + (p - b + (i - s))) = _
                  exact S_cg (by omega)
                · rw [if_neg c]
                  have hh := hh (p - b - s) (by omega)
                  have ep : poF b i s (p - b - s) = p := by unfold poF; rw [if_pos (by omega)]; omega
                  rw [ep] at hh
                  rw [hh, q2 _ (by omega)]
                  show S.2.1 r' (b + (p - b - s)) = _
                  exact S_cg (by omega)
              · rw [if_neg d, pcF_miss]
                by_cases c : r' = r
                · refine Or.inr (fun t ht z => d ⟨c, ?_⟩)
                  unfold poF at z
                  split at z <;> omega
                · exact Or.inl c
          | succ k ih =>
            intro i G3 hi f3 h3
            show w_X3_rotate_39_b K post (w_X3_rotate_39 K post (k + 1)) (some M.1.1) (nI j) x (some q) (nI i) G3
            have e3 := f3 _ _ q1 hqm
            have hs3 : (pcF S r (poF b n s) f i).1 j = some (r, b, n) := by rw [(pcF_1 S r _ f i).1]; exact hs
            refine lenA_i e3 ⟨fun c => absurd c (nI_ge (by omega) (by omega)), fun _ => lenA_i e3 ⟨nI_ne0 (by omega) (by omega), lenA_i e3 (lenA_i e3 ⟨nI_ne0 (by omega) (by omega), alI_i e3 rfl (by omega) (by omega) (m_rcv h3 ?_)⟩)⟩⟩
            show w_X3_write K _ (some M.1.1) (nI j) (mdF (nI i + x) (nI n)) (f i) G3
            rw [emd i (by omega)]
            refine m_write h3 hj hs3 (show (if i + s < n then i + s else i + s - n) < n by split <;> omega) (by rw [q2 i (by omega)]; exact h.1.2.2 r _ hr3 (by omega)) (fun G4 f4 h4 => ?_)
            rw [nI_1]
            exact ih (i + 1) G4 (by omega) (fr_tr f3 f4) h4
        exact ⟨n + 1, main n 0 G2 (by omega) (fr_rf _ _) h2⟩
    · simp only [sp_li, if_neg hx] at hp
      exact m_rcv h (m_fails h (fun G1 f1 h1 => ⟨fun z => absurd z (by decide), fun _ => mr hp f1 h1⟩))
end MOQ
end
section
/-! sorting: what the class's steps come to -/
def leF (fall x y : Int32) : Prop := if fall = 0 then x.toInt ≤ y.toInt else y.toInt ≤ x.toInt
theorem leF_tr {fall x y z : Int32} (h1 : leF fall x y) (h2 : leF fall y z) : leF fall x z := by
  unfold leF at *
  by_cases c : fall = 0
  · rw [if_pos c] at *; omega
  · rw [if_neg c] at *; omega
theorem goF_t {fall x y : Int32} (h : goF fall x y = true) : leF fall x y := by
  unfold goF at h; unfold leF
  by_cases c : fall = 0
  · rw [if_pos c] at *
    have := of_decide_eq_true h
    rw [i32_lt] at this; omega
  · rw [if_neg c] at *
    have := of_decide_eq_true h
    rw [i32_lt] at this; omega
theorem goF_f {fall x y : Int32} (h : ¬ goF fall x y = true) : leF fall y x := by
  unfold goF at h; unfold leF
  by_cases c : fall = 0
  · rw [if_pos c] at *
    have h : ¬ x < y := fun z => h (decide_eq_true z)
    rw [i32_lt] at h; omega
  · rw [if_neg c] at *
    have h : ¬ y < x := fun z => h (decide_eq_true z)
    rw [i32_lt] at h; omega
theorem ex_p (S : tS) (r b p : Nat) : S_v (S_exch S r (b + (p + 1)) (b + p)) r b p = S_v S r b (p + 1) ∧ S_v (S_exch S r (b + (p + 1)) (b + p)) r b (p + 1) = S_v S r b p ∧ ∀ t, t ≠ p → t ≠ p + 1 → S_v (S_exch S r (b + (p + 1)) (b + p)) r b t = S_v S r b t := by
  refine ⟨?_, ?_, fun t h1 h2 => ?_⟩
  · show (S_exch S r (b + (p + 1)) (b + p)).2.1 r (b + p) = _
    rw [S_exch_v, if_pos ⟨rfl, rfl⟩]
  · show (S_exch S r (b + (p + 1)) (b + p)).2.1 r (b + (p + 1)) = _
    rw [S_exch_v, if_neg (by omega), if_pos ⟨rfl, rfl⟩]
  · show (S_exch S r (b + (p + 1)) (b + p)).2.1 r (b + t) = _
    rw [S_exch_v, if_neg (by omega), if_neg (by omega)]
theorem skF_sorted (r b : Nat) (fall : Int32) (e : Nat) : ∀ p S, p ≤ e → (∀ i j, i < j → j ≤ e → i ≠ p → j ≠ p → leF fall (S_v S r b i) (S_v S r b j)) → (∀ j, p < j → j ≤ e → leF fall (S_v S r b p) (S_v S r b j)) → ∀ i j, i < j → j ≤ e → leF fall (S_v (skF r b fall p S) r b i) (S_v (skF r b fall p S) r b j)
  | 0, S, _, h1, h2, i, j, hij, hj => by
    show leF fall (S_v S r b i) (S_v S r b j)
    by_cases c : i = 0
    · subst c; exact h2 j hij hj
    · exact h1 i j hij hj c (by omega)
  | p + 1, S, hp, h1, h2, i, j, hij, hj => by
    show leF fall (S_v (if goF fall (S.2.1 r (b + (p + 1))) (S.2.1 r (b + p)) then skF r b fall p (S_exch S r (b + (p + 1)) (b + p)) else S) r b i) (S_v (if goF fall (S.2.1 r (b + (p + 1))) (S.2.1 r (b + p)) then skF r b fall p (S_exch S r (b + (p + 1)) (b + p)) else S) r b j)
    by_cases c : goF fall (S.2.1 r (b + (p + 1))) (S.2.1 r (b + p)) = true
    · rw [if_pos c]
      have hle : leF fall (S_v S r b (p + 1)) (S_v S r b p) := goF_t c
      obtain ⟨x1, x2, x3⟩ := ex_p S r b p
      refine skF_sorted r b fall e p _ (by omega) (fun i j hij hj hi hjp => ?_) (fun j hpj hj => ?_) i j hij hj
      · by_cases c1 : i = p + 1
        · rw [c1, x2, x3 j hjp (by omega)]
          exact h1 p j (by omega) hj (by omega) (by omega)
        · by_cases c2 : j = p + 1
          · rw [c2, x2, x3 i hi c1]
            exact h1 i p (by omega) (by omega) c1 (by omega)
          · rw [x3 i hi c1, x3 j hjp c2]
            exact h1 i j hij hj c1 c2
      · rw [x1]
        by_cases c2 : j = p + 1
        · rw [c2, x2]; exact hle
        · rw [x3 j (by omega) c2]
          exact h2 j (by omega) hj
    · rw [if_neg c]
      have hle : leF fall (S_v S r b p) (S_v S r b (p + 1)) := goF_f c
      by_cases c1 : i = p + 1
      · rw [c1]; exact h2 j (by omega) hj
      · by_cases c2 : j = p + 1
        · rw [c2]
          by_cases c3 : i = p
          · rw [c3]; exact hle
          · exact leF_tr (h1 i p (by omega) (by omega) c1 (by omega)) hle
        · exact h1 i j hij hj c1 c2
theorem soF_sorted (r b : Nat) (fall : Int32) (S : tS) : ∀ k i j, i < j → j ≤ k → leF fall (S_v (soF r b fall S k) r b i) (S_v (soF r b fall S k) r b j)
  | 0, i, j, h1, h2 => absurd h1 (by omega)
  | k + 1, i, j, h1, h2 => by
    refine skF_sorted r b fall (k + 1) (k + 1) (soF r b fall S k) (Nat.le_refl _) (fun i j hij hj _ hj2 => ?_) (fun j hj hj2 => absurd hj (by omega)) i j h1 h2
    exact soF_sorted r b fall S k i j hij (by omega)
theorem cn_swap {f g : Nat → Int32} {x : Int32} {p : Nat} (h1 : g p = f (p + 1)) (h2 : g (p + 1) = f p) (h3 : ∀ t, t ≠ p → t ≠ p + 1 → g t = f t) : ∀ n, p + 1 < n → cnF g x n = cnF f x n
  | 0, h => absurd h (by omega)
  | n + 1, h => by
    by_cases c : n = p + 1
    · subst c
      have e := cnF_cg (f := g) (g := f) (x := x) p (fun t ht => h3 t (by omega) (by omega))
      show cnF g x p + (if g p = x then 1 else 0) + (if g (p + 1) = x then 1 else 0) = cnF f x p + (if f p = x then 1 else 0) + (if f (p + 1) = x then 1 else 0)
      rw [h1, h2, e, Nat.add_right_comm]
    · show cnF g x n + (if g n = x then 1 else 0) = cnF f x n + (if f n = x then 1 else 0)
      rw [cn_swap h1 h2 h3 n (by omega), h3 n (by omega) c]
theorem skF_cn (r b : Nat) (fall x : Int32) (n : Nat) : ∀ p S, p < n → cnF (S_v (skF r b fall p S) r b) x n = cnF (S_v S r b) x n
  | 0, _, _ => rfl
  | p + 1, S, h => by
    show cnF (S_v (if goF fall (S.2.1 r (b + (p + 1))) (S.2.1 r (b + p)) then skF r b fall p (S_exch S r (b + (p + 1)) (b + p)) else S) r b) x n = _
    by_cases c : goF fall (S.2.1 r (b + (p + 1))) (S.2.1 r (b + p)) = true
    · rw [if_pos c, skF_cn r b fall x n p _ (by omega)]
      obtain ⟨x1, x2, x3⟩ := ex_p S r b p
      exact cn_swap x1 x2 x3 n h
    · rw [if_neg c]
theorem soF_cn (r b : Nat) (fall x : Int32) (S : tS) (n : Nat) : ∀ k, k < n ∨ k = 0 → cnF (S_v (soF r b fall S k) r b) x n = cnF (S_v S r b) x n
  | 0, _ => rfl
  | k + 1, h => by
    show cnF (S_v (skF r b fall (k + 1) (soF r b fall S k)) r b) x n = _
    rw [skF_cn r b fall x n (k + 1) _ (by omega), soF_cn r b fall x S n k (by omega)]
theorem skF_1 (r b : Nat) (fall : Int32) : ∀ p S, (skF r b fall p S).1 = S.1 ∧ (skF r b fall p S).2.2 = S.2.2 ∧ ∀ r' i, r' ≠ r → (skF r b fall p S).2.1 r' i = S.2.1 r' i
  | 0, _ => ⟨rfl, rfl, fun _ _ _ => rfl⟩
  | p + 1, S => by
    show (if goF fall (S.2.1 r (b + (p + 1))) (S.2.1 r (b + p)) then skF r b fall p (S_exch S r (b + (p + 1)) (b + p)) else S).1 = S.1 ∧ (if goF fall (S.2.1 r (b + (p + 1))) (S.2.1 r (b + p)) then skF r b fall p (S_exch S r (b + (p + 1)) (b + p)) else S).2.2 = S.2.2 ∧ ∀ r' i, r' ≠ r → (if goF fall (S.2.1 r (b + (p + 1))) (S.2.1 r (b + p)) then skF r b fall p (S_exch S r (b + (p + 1)) (b + p)) else S).2.1 r' i = S.2.1 r' i
    split
    · obtain ⟨h1, h2, h3⟩ := skF_1 r b fall p (S_exch S r (b + (p + 1)) (b + p))
      refine ⟨h1, h2, fun r' i hr => ?_⟩
      rw [h3 r' i hr, S_exch_v, if_neg (fun z => hr z.1), if_neg (fun z => hr z.1)]
    · exact ⟨rfl, rfl, fun _ _ _ => rfl⟩
theorem soF_1 (r b : Nat) (fall : Int32) (S : tS) : ∀ k, (soF r b fall S k).1 = S.1 ∧ (soF r b fall S k).2.2 = S.2.2 ∧ ∀ r' i, r' ≠ r → (soF r b fall S k).2.1 r' i = S.2.1 r' i
  | 0 => ⟨rfl, rfl, fun _ _ _ => rfl⟩
  | k + 1 => by
    obtain ⟨h1, h2, h3⟩ := skF_1 r b fall (k + 1) (soF r b fall S k)
    obtain ⟨g1, g2, g3⟩ := soF_1 r b fall S k
    exact ⟨h1.trans g1, h2.trans g2, fun r' i hr => (h3 r' i hr).trans (g3 r' i hr)⟩
theorem skF_ok {r b : Nat} (fall : Int32) (hr : r < 3) : ∀ p S, b + p < 12 → S_ok S → S_ok (skF r b fall p S)
  | 0, _, _, h => h
  | p + 1, S, hp, h => by
    show S_ok (if goF fall (S.2.1 r (b + (p + 1))) (S.2.1 r (b + p)) then skF r b fall p (S_exch S r (b + (p + 1)) (b + p)) else S)
    split
    · exact skF_ok fall hr p _ (by omega) (S_exch_ok h hr (by omega) (by omega))
    · exact h
theorem soF_ok {r b : Nat} (fall : Int32) {S : tS} (hr : r < 3) (h : S_ok S) : ∀ k, b + k < 12 ∨ k = 0 → S_ok (soF r b fall S k)
  | 0, _ => h
  | k + 1, hk => skF_ok fall hr (k + 1) _ (by omega) (soF_ok fall hr h k (by omega))
/-! counting up to a value -/
def ltF (f : Nat → Int32) (X : Int) : Nat → Nat
  | 0 => 0
  | k + 1 => ltF f X k + (if (f k).toInt < X then 1 else 0)
theorem ltF_le (f : Nat → Int32) (X : Int) : ∀ k, ltF f X k ≤ k
  | 0 => Nat.le_refl _
  | k + 1 => by
    have := ltF_le f X k
    show ltF f X k + (if (f k).toInt < X then 1 else 0) ≤ k + 1
    split <;> omega
theorem ltF_all {f : Nat → Int32} {X : Int} : ∀ k, (∀ t, t < k → (f t).toInt < X) → ltF f X k = k
  | 0, _ => rfl
  | k + 1, h => by
    show ltF f X k + (if (f k).toInt < X then 1 else 0) = k + 1
    rw [if_pos (h k (by omega)), ltF_all k (fun t ht => h t (by omega))]
theorem ltF_none {f : Nat → Int32} {X : Int} : ∀ k, (∀ t, t < k → ¬ (f t).toInt < X) → ltF f X k = 0
  | 0, _ => rfl
  | k + 1, h => by
    show ltF f X k + (if (f k).toInt < X then 1 else 0) = 0
    rw [if_neg (h k (by omega)), ltF_none k (fun t ht => h t (by omega))]
theorem ltF_at {f : Nat → Int32} {X : Int} : ∀ n, (∀ i j, i < j → j < n → (f i).toInt ≤ (f j).toInt) → ∀ t, t < n → (t < ltF f X n ↔ (f t).toInt < X)
  | 0, _, t, h => absurd h (by omega)
  | n + 1, hs, t, ht => by
    show t < ltF f X n + (if (f n).toInt < X then 1 else 0) ↔ _
    have ih := ltF_at (f := f) (X := X) n (fun i j hij hj => hs i j hij (by omega))
    by_cases c : (f n).toInt < X
    · have hall : ∀ t, t < n → (f t).toInt < X := fun t ht => by have := hs t n ht (by omega); omega
      rw [if_pos c, ltF_all n hall]
      refine ⟨fun _ => ?_, fun _ => ht⟩
      by_cases e : t = n
      · rw [e]; exact c
      · exact hall t (by omega)
    · rw [if_neg c, Nat.add_zero]
      by_cases e : t = n
      · subst e
        have := ltF_le f X t
        exact ⟨fun z => absurd z (by omega), fun z => absurd z c⟩
      · exact ih t (by omega)
theorem ltF_succ {f : Nat → Int32} {X : Int} {x : Int32} (hx : x.toInt = X) : ∀ k, ltF f (X + 1) k = ltF f X k + cnF f x k
  | 0 => rfl
  | k + 1 => by
    have ih := ltF_succ (f := f) hx k
    show ltF f (X + 1) k + (if (f k).toInt < X + 1 then 1 else 0) = ltF f X k + (if (f k).toInt < X then 1 else 0) + (cnF f x k + (if f k = x then 1 else 0))
    rw [ih]
    by_cases c : f k = x
    · rw [if_pos c, if_pos (by rw [c]; omega), if_neg (by rw [c]; omega)]; omega
    · have c2 : (f k).toInt ≠ X := fun z => c (Int32.toInt_inj.mp (z.trans hx.symm))
      rw [if_neg c]
      by_cases d : (f k).toInt < X
      · rw [if_pos d, if_pos (by omega)]; omega
      · rw [if_neg d, if_neg (by omega)]; omega
theorem cn_front (f : Nat → Int32) (x : Int32) : ∀ n, cnF f x (n + 1) = (if f 0 = x then 1 else 0) + cnF (fun t => f (t + 1)) x n
  | 0 => by
    show 0 + (if f 0 = x then 1 else 0) = (if f 0 = x then 1 else 0) + 0
    rw [Nat.zero_add, Nat.add_zero]
  | n + 1 => by
    show cnF f x (n + 1) + (if f (n + 1) = x then 1 else 0) = (if f 0 = x then 1 else 0) + (cnF (fun t => f (t + 1)) x n + (if f (n + 1) = x then 1 else 0))
    rw [cn_front f x n, Nat.add_assoc]
theorem cn_rev (f : Nat → Int32) (x : Int32) : ∀ n, cnF (fun t => f (n - 1 - t)) x n = cnF f x n
  | 0 => rfl
  | n + 1 => by
    rw [cn_front]
    show (if f (n + 1 - 1 - 0) = x then 1 else 0) + cnF (fun t => f (n + 1 - 1 - (t + 1))) x n = cnF f x n + (if f n = x then 1 else 0)
    have e := cnF_cg (f := fun t => f (n + 1 - 1 - (t + 1))) (g := fun t => f (n - 1 - t)) (x := x) n (fun t ht => by
      show f (n + 1 - 1 - (t + 1)) = f (n - 1 - t)
      rw [show n + 1 - 1 - (t + 1) = n - 1 - t by omega])
    rw [e, cn_rev f x n, show n + 1 - 1 - 0 = n by omega, Nat.add_comm]
end
section
/-! the model: sort -/
/-- the sorted values in rising order, and where each goes -/
def rsF (S : tS) (r : Nat) (fall : Int32) (n t : Nat) : Int32 := if fall = 0 then S_v S r 0 t else S_v S r 0 (n - 1 - t)
def psF (fall : Int32) (n t : Nat) : Nat := if fall = 0 then t else n - 1 - t
theorem rs_facts {S : tS} {r n : Nat} (fall : Int32) (h : S_ok S) (hr : r < 3) (hn : n ≤ 12) : (∀ i j, i < j → j < n → (rsF (soF r 0 fall S (n - 1)) r fall n i).toInt ≤ (rsF (soF r 0 fall S (n - 1)) r fall n j).toInt) ∧ (∀ x, cnF (rsF (soF r 0 fall S (n - 1)) r fall n) x n = cnF (S_v S r 0) x n) ∧ (∀ t, t < n → okV (rsF (soF r 0 fall S (n - 1)) r fall n t)) := by
  have hs := soF_sorted r 0 fall S (n - 1)
  have hok := soF_ok (r := r) (b := 0) fall hr h (n - 1) (by omega)
  refine ⟨fun i j hij hj => ?_, fun x => ?_, fun t ht => ?_⟩
  · unfold rsF
    by_cases c : fall = 0
    · rw [if_pos c, if_pos c]
      have := hs i j hij (by omega)
      unfold leF at this
      rw [if_pos c] at this; exact this
    · rw [if_neg c, if_neg c]
      have := hs (n - 1 - j) (n - 1 - i) (by omega) (by omega)
      unfold leF at this
      rw [if_neg c] at this; exact this
  · have e := soF_cn r 0 fall x S n (n - 1) (by omega)
    rw [← e]
    by_cases c : fall = 0
    · exact cnF_cg n (fun t _ => by unfold rsF; rw [if_pos c])
    · rw [← cn_rev (S_v (soF r 0 fall S (n - 1)) r 0) x n]
      exact cnF_cg n (fun t _ => by unfold rsF; rw [if_neg c])
  · unfold rsF
    split
    · exact hok.2.2 r _ hr (by omega)
    · exact hok.2.2 r _ hr (by omega)
theorem okV_rng {x : Int32} (h : okV x) : -1000 ≤ x.toInt ∧ x.toInt ≤ 99 := by
  have e1 : (99 : Int32).toInt = 99 := rfl
  have e2 : (-99 : Int32).toInt = -99 := rfl
  have e3 : (-1000 : Int32).toInt = -1000 := rfl
  rcases h with h | ⟨h1, h2⟩
  · rw [h, e3]; omega
  · rw [i32_lt] at h1; rw [i32_le] at h2; omega
theorem v_int {i : Nat} (h : i < 2000) : (nI i - nI 1000).toInt = (i : Int) - 1000 := nI_sub (by omega) (by omega)
theorem v_succ (i : Nat) : nI i - nI 1000 + 1 = nI (i + 1) - nI 1000 := by
  rw [Int32.sub_eq_add_neg, Int32.sub_eq_add_neg, Int32.add_assoc, Int32.add_comm (-nI 1000), ← Int32.add_assoc, nI_1]
section MOR
variable {K : tK} {G : tG} {M : tM} {S : tS} {th : Int32} {post : Int32 → tG → Prop}
theorem m_sort {v fall : Int32} (h : MoR G M S th) (hp : mRes M G post (sp_li S (S_tw S v) fun r b n => (0, nI n, soF r b fall S (n - 1)))) : w_X3_sort K post (some M.1.1) v fall G := by
  have e2 : (2 : Int32).toInt = 2 := rfl
  have e0 : (0 : Int32).toInt = 0 := rfl
  refine m_isIn (fun q => ⟨fun _ => ?_, fun z => absurd z (by decide)⟩) (fun q => ⟨fun z => absurd rfl z, fun _ => ?_⟩)
  · obtain ⟨r, hr2, rfl⟩ := nI_of2 (M := 2) (n := 2) rfl q.1 q.2
    have hr : r < 3 := by omega
    obtain ⟨n, hs, hn⟩ := h.1.1 r hr
    rw [S_tw_nI hr, hs] at hp
    have hp : mRes M G post (0, nI n, soF r 0 fall S (n - 1)) := hp
    obtain ⟨hsort, hcn, hrok⟩ := rs_facts (S := S) (r := r) (n := n) fall h.1 hr hn
    generalize hc : rsF (soF r 0 fall S (n - 1)) r fall n = c at hsort hcn hrok
    refine m_rcv h (m_fails h (fun G1 f1 h1 => ⟨fun _ => m_rcv h1 (m_all h1 (show r < 7 by omega) hs (fun q f G2 q0 q1 q2 q3 h2 => ?_)), fun z => absurd (by decide) z⟩))
    have hqm := MoC_no (MoR_C h1) q0
    have hpos : ∀ t, t < n → psF fall n t < n := fun t ht => by unfold psF; split <;> omega
    have hinj : ∀ t t', t < n → t' < n → psF fall n t = psF fall n t' → t = t' := fun t t' ht ht' e => by
      unfold psF at e
      split at e <;> omega
    have hs3 : ∀ k, (pcF S r (psF fall n) c k).1 r = some (r, 0, n) := fun k => by rw [(pcF_1 S r _ c k).1]; exact hs
    have outer : ∀ (k i : Nat) (G3 : tG), i + k = 1100 → fr (moW M) G2 G3 → MoR G3 M (pcF S r (psF fall n) c (ltF c ((i : Int) - 1000) n)) 0 → w_X3_sort_38 K post (k + 1) (some M.1.1) (nI r) fall (some q) (nI (ltF c ((i : Int) - 1000) n)) (nI i - nI 1000) G3 := by
      intro k
      induction k with
      | zero =>
        intro i G3 hi f3 h3
        show w_X3_sort_38_b K post (w_X3_sort_38 K post 0) (some M.1.1) (nI r) fall (some q) (nI (ltF c ((i : Int) - 1000) n)) (nI i - nI 1000) G3
        have e : i = 1100 := by omega
        subst e
        have e3 := f3 _ _ q1 hqm
        refine ⟨fun _ => lenA_i e3 (mr hp (fr_tr (fr_al f1 q0 q3) f3) ?_), fun z => absurd (by decide) z⟩
        have hall : ltF c (((1100 : Nat) : Int) - 1000) n = n := ltF_all n (fun t ht => by have := (okV_rng (hrok t ht)).2; omega)
        rw [hall] at h3
        obtain ⟨g1, g2, g3⟩ := soF_1 r 0 fall S (n - 1)
        refine MoR_eq h3 ⟨fun j' _ => ?_, fun r' p _ hpl => ?_, (pcF_1 S r _ c n).2.trans g2.symm⟩ (soF_ok fall hr h.1 (n - 1) (by omega))
        · rw [(pcF_1 S r _ c n).1]; show _ = (soF r 0 fall S (n - 1)).1 j'; rw [g1]
        · show _ = (soF r 0 fall S (n - 1)).2.1 r' p
          by_cases d : r' = r
          · subst d
            rw [hs3 n] at hpl
            have hpl : p < n := hpl
            have hh := fun t ht => pcF_hit S r' (psF fall n) c (n := n) hinj n (Nat.le_refl _) t ht
            by_cases cf : fall = 0
            · have hh := hh p hpl
              have e1 : psF fall n p = p := by unfold psF; rw [if_pos cf]
              rw [e1] at hh
              rw [hh, ← hc]
              unfold rsF
              rw [if_pos cf]
              show (soF r' 0 fall S (n - 1)).2.1 r' (0 + p) = _
              rw [Nat.zero_add]
            · have hh := hh (n - 1 - p) (by omega)
              have e1 : psF fall n (n - 1 - p) = p := by unfold psF; rw [if_neg cf]; omega
              rw [e1] at hh
              rw [hh, ← hc]
              unfold rsF
              rw [if_neg cf]
              show (soF r' 0 fall S (n - 1)).2.1 r' (0 + (n - 1 - (n - 1 - p))) = _
              exact S_cg (by omega)
          · rw [g3 r' p d, pcF_miss _ _ _ _ n (Or.inl d)]
      | succ k ih =>
        intro i G3 hi f3 h3
        show w_X3_sort_38_b K post (w_X3_sort_38 K post (k + 1)) (some M.1.1) (nI r) fall (some q) (nI (ltF c ((i : Int) - 1000) n)) (nI i - nI 1000) G3
        have e3 := f3 _ _ q1 hqm
        have vi := v_int (i := i) (by omega)
        have hsu := ltF_succ (f := c) (X := (i : Int) - 1000) vi n
        refine ⟨fun z => ?_, fun _ => m_oftenIn e3 (by omega) ?_⟩
        · rw [i32_lt, vi] at z
          have : (99 : Int32).toInt = 99 := rfl
          omega
        · rw [cnF_cg n q2, ← hcn]
          have inner : ∀ (m d : Nat) (G4 : tG), d + m = cnF c (nI i - nI 1000) n → fr (moW M) G2 G4 → MoR G4 M (pcF S r (psF fall n) c (ltF c ((i : Int) - 1000) n + d)) 0 → w_X3_sort_53 K post (w_X3_sort_38 K post (k + 1)) (m + 1) (some M.1.1) (nI r) fall (some q) (nI (ltF c ((i : Int) - 1000) n + d)) (nI i - nI 1000) (nI m) G4 := by
            intro m
            induction m with
            | zero =>
              intro d G4 hd f4 h4
              show w_X3_sort_53_b K post (w_X3_sort_38 K post (k + 1)) (w_X3_sort_53 K post (w_X3_sort_38 K post (k + 1)) 0) (some M.1.1) (nI r) fall (some q) (nI (ltF c ((i : Int) - 1000) n + d)) (nI i - nI 1000) (nI 0) G4
              refine ⟨fun _ => ?_, fun z => absurd (by decide) z⟩
              have ed : ltF c ((i : Int) - 1000) n + d = ltF c (((i + 1 : Nat) : Int) - 1000) n := by
                rw [show (((i + 1 : Nat) : Int) - 1000) = (i : Int) - 1000 + 1 by omega, hsu]; omega
              rw [ed] at h4 ⊢
              rw [v_succ]
              exact ih (i + 1) G4 (by omega) f4 h4
            | succ m ihm =>
              intro d G4 hd f4 h4
              show w_X3_sort_53_b K post (w_X3_sort_38 K post (k + 1)) (w_X3_sort_53 K post (w_X3_sort_38 K post (k + 1)) (m + 1)) (some M.1.1) (nI r) fall (some q) (nI (ltF c ((i : Int) - 1000) n + d)) (nI i - nI 1000) (nI (m + 1)) G4
              have hle := ltF_le c ((i : Int) - 1000 + 1) n
              have e4 := f4 _ _ q1 hqm
              have hat : ltF c ((i : Int) - 1000) n + d < n := by omega
              have hcn12 := cnF_le c (nI i - nI 1000) n
              have hca : c (ltF c ((i : Int) - 1000) n + d) = nI i - nI 1000 := by
                have a1 := (ltF_at (X := (i : Int) - 1000) n hsort _ hat)
                have a2 := (ltF_at (X := (i : Int) - 1000 + 1) n hsort _ hat)
                have b1 : ¬ (c (ltF c ((i : Int) - 1000) n + d)).toInt < (i : Int) - 1000 := fun z => absurd (a1.mpr z) (by omega)
                have b2 := a2.mp (by omega)
                apply Int32.toInt_inj.mp
                rw [vi]; omega
              have step : ∀ u, u = nI (psF fall n (ltF c ((i : Int) - 1000) n + d)) → w_X3_sort_76 K post (w_X3_sort_38 K post (k + 1)) (w_X3_sort_53 K post (w_X3_sort_38 K post (k + 1)) (m + 1)) (some M.1.1) (nI r) fall (some q) (nI (ltF c ((i : Int) - 1000) n + d)) (nI i - nI 1000) (nI (m + 1)) (some M.1.1) (nI r) u G4 := fun u hu => by
                subst hu
                refine m_rcv h4 (m_write h4 (show r < 7 by omega) (hs3 _) (hpos _ hat) (by rw [← hca]; exact hrok _ hat) (fun G5 f5 h5 => ?_))
                rw [nI_1, nI_m1, nI_pred]
                refine ihm (d + 1) G5 (by omega) (fr_tr f4 f5) ?_
                rw [Nat.zero_add, ← hca] at h5
                exact h5
              refine ⟨fun z => absurd z (nI_nle (by omega) (by omega)), fun _ => ⟨fun cf => step _ ?_, fun cf => lenA_i e4 (step _ ?_)⟩⟩
              · unfold psF; rw [if_pos cf]
              · unfold psF; rw [if_neg cf]
                have eq : nI n - 1 = nI (n - 1) := by
                  have q2 : n = n - 1 + 1 := by omega
                  rw [q2, nI_pred]; congr 1
                show nI n - 1 - nI (ltF c ((i : Int) - 1000) n + d) = _
                rw [eq, nI_subN (by omega)]
          exact ⟨_, inner (cnF c (nI i - nI 1000) n) 0 G3 (by omega) f3 h3⟩
    have h0 : ltF c (((0 : Nat) : Int) - 1000) n = 0 := ltF_none n (fun t ht => by have := (okV_rng (hrok t ht)).1; omega)
    have fin := outer 1100 0 G2 (by omega) (fr_rf _ _) (by rw [h0]; exact h2)
    rw [h0] at fin
    exact ⟨_, fin⟩
  · have hc : S_tw S v = none := by
      unfold S_tw
      rw [if_neg]
      intro z
      exact q ⟨by rw [i32_lt]; omega, by rw [i32_le]; omega⟩
    rw [hc] at hp
    exact m_rcv h (m_fails h (fun G1 f1 h1 => ⟨fun z => absurd z (by decide), fun _ => mr (a := (1, 0, S)) hp f1 h1⟩))
end MOR
end
section
/-! texts: what is made on the way, by bounds -/
def ext (G0 G : tG) : Prop := ∀ (q : Nat) (e : tE), G0 q = some e → G q = some e
theorem ext_rf (G : tG) : ext G G := fun _ _ h => h
theorem ext_tr {G1 G2 G3 : tG} (h : ext G1 G2) (h2 : ext G2 G3) : ext G1 G3 := fun q e hq => h2 q e (h q e hq)
theorem ext_up {G0 G : tG} (h : ext G0 G) {a : Nat} (e : tE) (ha : G0 a = none) : ext G0 (tg_up G a e) := fun q e' hq => by
  rw [tg_n _ _ (fun c => by rw [c, ha] at hq; cases hq)]; exact h q e' hq
theorem ext_none {G0 G : tG} (h : ext G0 G) {a : Nat} (ha : G a = none) : G0 a = none := by
  cases e : G0 a with
  | none => rfl
  | some x => rw [h a x e] at ha; cases ha
theorem ext_fr {G0 G : tG} (h : ext G0 G) (P : Nat → Prop) : fr P G0 G := fun q e hq _ => h q e hq
theorem fr_ext {G0 G G' : tG} {P : Nat → Prop} (h : ext G0 G) (hf : fr P G G') (hp : ∀ q, P q → G0 q = none) : ext G0 G' := fun q e hq =>
  hf q e (h q e hq) (fun c => by rw [hp q c] at hq; cases hq)
abbrev eB (c : Nat) (f : Nat → Int32) : tE := .inl (.byte, c, .inl f)
abbrev oSB (v : Nat) (fl : Int32) (k : Nat) : tE := .inr (1, [.ref v, .int 0, .int fl, .int (nI k)])
def bOK (f : Nat → Int32) (n : Nat) : Prop := ∀ i, i < n → fits .byte (.int (f i)) = true
theorem fit_nar (x : Int32) : fits .byte (.int (vp_nar .byte x)) = true := by
  rw [vp_nar_byte]
  show (decide ((-128 : Int32) ≤ x.toInt8.toInt32) && decide (x.toInt8.toInt32 ≤ 127)) = true
  have h0 : x.toInt8.toInt32.toInt = x.toInt8.toInt := Int8.toInt_toInt32 _
  have h1 := Int8.le_toInt x.toInt8
  have h2 := Int8.toInt_lt x.toInt8
  have e1 : (-128 : Int32).toInt = -128 := rfl
  have e2 : (127 : Int32).toInt = 127 := rfl
  rw [Bool.and_eq_true]
  refine ⟨decide_eq_true ?_, decide_eq_true ?_⟩
  · rw [i32_le, h0, e1]; omega
  · rw [i32_le, h0, e2]; omega
theorem bOK_0 (n : Nat) : bOK (fun _ => 0) n := fun _ _ => (show fits .byte (.int 0) = true by decide)
theorem bOK_upd {f : Nat → Int32} {n : Nat} (h : bOK f n) (j : Nat) {x : Int32} (hx : fits .byte (.int x) = true) : bOK (upd f j x) n := fun i hi => by
  by_cases c : i = j
  · rw [c, upd_s]; exact hx
  · rw [upd_n c]; exact h i hi
theorem bOK_cpy {f g : Nat → Int32} {sp dp n N : Nat} (hf : ∀ i, i < n → fits .byte (.int (f (sp + i))) = true) (hg : bOK g N) : bOK (va_cpy f g sp dp n) N := fun i hi => by
  unfold va_cpy
  by_cases c : dp ≤ i ∧ i < dp + n
  · rw [if_pos c]; exact hf (i - dp) (by omega)
  · rw [if_neg c]; exact hg i hi
theorem shr0 (x : Int32) : x >>> ((0 : Int32) &&& 31) = x := by
  rw [show ((0 : Int32) &&& 31) = 0 by decide]; exact Int32.shiftRight_zero
theorem shl0 (x : Int32) : x <<< ((0 : Int32) &&& 31) = x := by
  rw [show ((0 : Int32) &&& 31) = 0 by decide]; exact Int32.shiftLeft_zero
theorem nI_le0 {m c : Nat} (h : m ≤ c) (hc : c < 2 ^ 30) : nI m - nI c ≤ 0 := by
  rw [i32_le, nI_sub (by omega) hc]
  have : (0 : Int32).toInt = 0 := rfl
  omega
theorem nI_nle0 {m c : Nat} (h : c < m) (hm : m < 2 ^ 30) : ¬ nI m - nI c ≤ 0 := by
  rw [i32_le, nI_sub hm (by omega)]
  have : (0 : Int32).toInt = 0 := rfl
  omega
/-- a builder: its object and its array, both made since G0; its capacity, its length -/
def SB (G0 G : tG) (o v c k : Nat) : Prop := (G0 o = none ∧ G0 v = none) ∧ (∃ fl, G o = some (oSB v fl k)) ∧ (∃ f, G v = some (eB c f) ∧ bOK f c) ∧ k ≤ c
theorem SB_ext {G0 G G' : tG} {o v c k : Nat} (h : SB G0 G o v c k) (he : ext G G') : SB G0 G' o v c k := by
  obtain ⟨h1, ⟨fl, h2⟩, ⟨f, h3, h4⟩, h5⟩ := h
  exact ⟨h1, ⟨fl, he _ _ h2⟩, ⟨f, he _ _ h3, h4⟩, h5⟩
def capF (c m : Nat) : Nat := if m ≤ c then c else max m (2 * c + 2)
def groF (c m : Nat) : Nat := if m ≤ c then 0 else max m (2 * c + 2)
theorem cap_facts (c m : Nat) : m ≤ capF c m ∧ c ≤ capF c m ∧ groF c m + 2 * c ≤ 2 * capF c m ∧ (∀ B, c ≤ B → 2 * m ≤ B → capF c m ≤ B) := by
  unfold capF groF
  by_cases h : m ≤ c
  · rw [if_pos h, if_pos h]
    exact ⟨h, by omega, by omega, fun B h1 h2 => h1⟩
  · rw [if_neg h, if_neg h]
    exact ⟨by omega, by omega, by omega, fun B h1 h2 => by omega⟩
section STA
variable {K : tK} {G0 G : tG}
theorem cpB_i {r r2 : Option Nat} {sp dp n : Int32} {a n0 b n1 sp' dp' n' : Nat} {f g : Nat → Int32} {P : tG → Prop} (hr : r = some a) (ha : G a = some (eB n0 f) ∨ K.2.1 a = some (n0, f)) (hr2 : r2 = some b) (hb : G b = some (eB n1 g)) (hsp : sp = nI sp') (hdp : dp = nI dp') (hn : n = nI n') (h1 : sp' + n' ≤ n0) (h2 : dp' + n' ≤ n1) (h3 : n0 < 2 ^ 30) (h4 : n1 < 2 ^ 30) (hf : ∀ i, i < n' → fits .byte (.int (f (sp' + i))) = true) (hp : P (tg_up G b (eB n1 (va_cpy f g sp' dp' n')))) : cpB K G r sp r2 dp n P :=
  ⟨a, n0, f, b, n1, g, sp', dp', n', hr, ha, hr2, hb, by rw [hsp]; exact nI_toInt (by omega), by rw [hdp]; exact nI_toInt (by omega), by rw [hn]; exact nI_toInt (by omega), h1, h2, hf, hp⟩
theorem a_newLength {post : Int32 → tG → Prop} {c a b : Nat} (hc : c + a + b < 1000000) (h0 : 0 < c + max a b) (h : post (nI (c + max a b)) G) : w_J8_newLength_cabcc K post (nI c) (nI a) (nI b) G := by
  have e : nI c + (if nI a < nI b then nI b else nI a) = nI (c + max a b) := by
    by_cases q : a < b
    · rw [if_pos (nI_lt q (by omega)), nI_add, Nat.max_eq_right (by omega)]
    · rw [if_neg (nI_nlt (by omega) (by omega)), nI_add, Nat.max_eq_left (by omega)]
  unfold w_J8_newLength_cabcc
  rw [e]
  refine ⟨fun q => absurd q (nI_nle h0 (by omega)), fun _ => ⟨fun q => ?_, fun _ => h⟩⟩
  rw [i32_lt, nI_toInt (by omega)] at q
  have : (2147483639 : Int32).toInt = 2147483639 := rfl
  omega
theorem a_copyOf {post : Option Nat → tG → Prop} {v c N mc ms : Nat} {f : Nat → Int32} (hv : G v = some (eB c f)) (hf : bOK f c) (hN : c < N) (hN2 : N ≤ 65536) (hmc : 1 ≤ mc) (hms : N ≤ ms) (hp : ∀ q f' G', G q = none → G' q = some (eB N f') → bOK f' N → (∀ a, a ≠ q → G' a = G a) → post (some q) G') : w_J7_copyOf_9075b K mc ms post (some v) (nI N) G := by
  refine lenA_i hv ⟨fun _ => ⟨N, hN2, ⟨by omega, by omega⟩, N, nI_toInt (by omega), Nat.le_refl _, fun q hq => ?_⟩, fun z => ?_⟩
  · have hne : v ≠ q := fun z => by rw [z, hq] at hv; cases hv
    have hv2 : tg_up G q (eB N fun _ => 0) v = some (eB c f) := tg_keep hv hne
    refine lenA_i hv2 (cpB_i (n' := c) (sp' := 0) (dp' := 0) rfl (Or.inl hv2) rfl (tg_s _ _ _) rfl rfl ?_ (by omega) (by omega) (by omega) (by omega) (fun i hi => by rw [Nat.zero_add]; exact hf i hi) ?_)
    · show (if nI N < nI c then nI N else nI c) = nI c
      rw [if_neg (nI_nlt (by omega) (by omega))]
    · refine hp q _ _ hq (tg_s _ _ _) (bOK_cpy (fun i hi => by rw [Nat.zero_add]; exact hf i hi) (bOK_0 N)) (fun a ha => by rw [tg_n _ _ ha, tg_n _ _ ha])
  · have z : nI N = nI c := z
    rw [nI_eq (by omega) (by omega)] at z
    omega
theorem a_ensure {post : tG → Prop} {o v c k m mc ms : Nat} (h0 : ext G0 G) (h : SB G0 G o v c k) (hc : c < 10000) (hm : m < 10000) (hmc : 1 ≤ mc) (hms : groF c m ≤ ms) (hp : ∀ G' v', ext G0 G' → fr (fun q => q = o) G G' → SB G0 G' o v' (capF c m) k → post G') : w_J5_ensureCapacityInternal_d00df K mc ms post (some o) (nI m) G := by
  have hSB := h
  obtain ⟨⟨n1, n2⟩, ⟨fl, ho⟩, ⟨f, hv, hf⟩, hk⟩ := h
  refine gfR_i v ho rfl (lenA_i hv (gfI_i ho rfl ?_))
  show (nI m - (nI c >>> ((0 : Int32) &&& 31)) ≤ 0 → _) ∧ (¬ nI m - (nI c >>> ((0 : Int32) &&& 31)) ≤ 0 → _)
  rw [shr0]
  unfold groF at hms
  unfold capF at hp
  by_cases cm : m ≤ c
  · rw [if_pos cm] at hp
    exact ⟨fun _ => hp G v h0 (fr_rf _ _) hSB, fun q => absurd (nI_le0 cm (by omega)) q⟩
  · rw [if_neg cm] at hp hms
    refine ⟨fun q => absurd q (nI_nle0 (by omega) (by omega)), fun _ => gfR_i v ho rfl (rcv_i ho ?_)⟩
    refine gfR_i v ho rfl (lenA_i hv (gfI_i ho rfl (gfI_i ho rfl ?_)))
    show w_J8_newLength_cabcc K _ (nI c) ((nI m <<< ((0 : Int32) &&& 31)) - nI c) (nI c + ((2 : Int32) <<< ((0 : Int32) &&& 31))) G
    rw [shl0, shl0, nI_subN (by omega), show nI c + (2 : Int32) = nI (c + 2) from nI_add c 2]
    refine a_newLength (by omega) (by omega) ?_
    have eN : c + max (m - c) (c + 2) = max m (2 * c + 2) := by omega
    rw [eN]
    refine ⟨fun _ => gfI_i ho rfl ?_, fun z => ?_⟩
    · rw [shr0]
      refine gfI_i ho rfl ⟨mc, ms, by omega, by omega, ?_⟩
      rw [shl0]
      refine a_copyOf hv hf (by omega) (by omega) hmc hms (fun q f' G' q0 q1 q2 q3 => ?_)
      have hoq : o ≠ q := fun z => by rw [z, q0] at ho; cases ho
      have ho' : G' o = some (oSB v fl k) := by rw [q3 o hoq]; exact ho
      refine pfV_i ho' (Nat.le_of_ble_eq_true rfl) (hp _ q ?_ ?_ ?_)
      · exact ext_up (fun a e ha => by rw [q3 a (fun z => by rw [z, ext_none h0 q0] at ha; cases ha)]; exact h0 a e ha) _ n1
      · exact fr_tr (fr_fresh q0 q3 _) (fr_up _ rfl)
      · exact ⟨⟨n1, ext_none h0 q0⟩, ⟨fl, tg_s _ _ _⟩, ⟨f', tg_keep q1 (fun z => hoq z.symm), q2⟩, by omega⟩
    · exfalso
      have e := congrArg Int32.toInt z
      rw [nI_toInt (by omega)] at e
      have : (2147483647 : Int32).toInt = 2147483647 := rfl
      omega
/-- how many signs a number takes -/
def szF (x : Int32) : Nat := (if (if x < 0 then x else -x) ≤ -10 then 2 else 1) + (if x < 0 then 1 else 0)
theorem szF_in (x : Int32) : 1 ≤ szF x ∧ szF x ≤ 3 := by
  unfold szF
  split <;> split <;> omega
set_option maxRecDepth 100000 in
theorem neg_tab : ((List.range 100).all fun i => decide (¬ (-nI i) ≤ -100) && decide (-(-nI i) = nI i) && decide ((-(nI i : Int32) < 0) ↔ ¬ i = 0)) = true := by decide +kernel
theorem a_size {post : Int32 → tG → Prop} {x : Int32} (hx : inR x (-99) 99) (h : post (nI (szF x)) G) : w_J6_stringSize_0f7a4 K post x G := by
  have main : ∀ (y : Int32) (d : Nat), ¬ y ≤ -100 → post (nI ((if y ≤ -10 then 2 else 1) + d)) G → w_J6_stringSize_0f7a4_11 K post y (nI d) G := by
    intro y d hy hp
    refine ⟨3, ?_⟩
    show w_J6_stringSize_0f7a4_16_b K post (w_J6_stringSize_0f7a4_16 K post 2) y (nI d) (-10) 1 G
    refine ⟨fun z => absurd z (by decide), fun _ => ⟨fun c => ?_, fun c => ?_⟩⟩
    · rw [if_pos c] at hp
      show w_J6_stringSize_0f7a4_16_b K post (w_J6_stringSize_0f7a4_16 K post 1) y (nI d) (-100) 2 G
      refine ⟨fun z => absurd z (by decide), fun _ => ⟨fun c => absurd c hy, fun _ => ?_⟩⟩
      rw [show (2 : Int32) + nI d = nI (2 + d) from nI_add 2 d]; exact hp
    · rw [if_neg c] at hp
      rw [show (1 : Int32) + nI d = nI (1 + d) from nI_add 1 d]; exact hp
  have h1 := hx.1
  have h2 := hx.2
  rw [i32_lt] at h1
  rw [i32_le] at h2
  have e1 : (99 : Int32).toInt = 99 := rfl
  have e2 : (-99 : Int32).toInt = -99 := rfl
  have e3 : (-100 : Int32).toInt = -100 := rfl
  have e0 : (0 : Int32).toInt = 0 := rfl
  unfold szF at h
  refine ⟨fun c => ?_, fun c => ?_⟩
  · rw [if_pos c, if_pos c] at h
    exact main x 1 (by rw [i32_le]; omega) h
  · rw [if_neg c, if_neg c] at h
    refine main (-x) 0 ?_ h
    obtain ⟨j, hj, rfl⟩ := nI_of c
    rw [nI_toInt hj] at h2
    have t := List.all_eq_true.mp neg_tab j (List.mem_range.mpr (by omega))
    rw [Bool.and_eq_true, Bool.and_eq_true] at t
    exact of_decide_eq_true t.1.1
end STA
end
section
/-! texts: numbers, signs and texts behind a builder's content -/
theorem neg_at : ∀ i, i < 100 → (-100 : Int32) < -nI i ∧ -(-nI i) = nI i ∧ ((-9 : Int32) ≤ -nI i ↔ i ≤ 9) ∧ (-nI i ≤ (-10 : Int32) ↔ ¬ i ≤ 9) := by decide +kernel
theorem num_of {x : Int32} (hx : inR x (-99) 99) : ∃ j d : Nat, j < 100 ∧ ((d = 0 ∧ ¬ x < 0 ∧ x = nI j) ∨ (d = 1 ∧ x < 0 ∧ x = -nI j)) ∧ szF x = (if j ≤ 9 then 1 else 2) + d := by
  have h1 := hx.1
  have h2 := hx.2
  rw [i32_lt] at h1
  rw [i32_le] at h2
  have e1 : (99 : Int32).toInt = 99 := rfl
  have e2 : (-99 : Int32).toInt = -99 := rfl
  have e0 : (0 : Int32).toInt = 0 := rfl
  by_cases c : x < 0
  · have c' := c
    rw [i32_lt] at c'
    have ex : x = -nI (-x.toInt).toNat := by
      apply Int32.toInt_inj.mp
      have := nI_sub (a := 0) (b := (-x.toInt).toNat) (by omega) (by omega)
      rw [nI_0, Int32.zero_sub] at this
      omega
    refine ⟨(-x.toInt).toNat, 1, by omega, Or.inr ⟨rfl, c, ex⟩, ?_⟩
    have t := (neg_at (-x.toInt).toNat (by omega)).2.2.2
    rw [← ex] at t
    unfold szF
    rw [if_pos c, if_pos c]
    by_cases d : (-x.toInt).toNat ≤ 9
    · rw [if_pos d, if_neg (fun z => (t.mp z) d)]
    · rw [if_neg d, if_pos (t.mpr d)]
  · obtain ⟨j, hj, rfl⟩ := nI_of c
    rw [nI_toInt hj] at h2
    refine ⟨j, 0, by omega, Or.inl ⟨rfl, c, rfl⟩, ?_⟩
    have t := (neg_at j (by omega)).2.2.2
    unfold szF
    rw [if_neg c, if_neg c]
    by_cases d : j ≤ 9
    · rw [if_pos d, if_neg (fun z => (t.mp z) d)]
    · rw [if_neg d, if_pos (t.mpr d)]
theorem nI_dec {a : Nat} (h : 0 < a) : nI a + (-1 : Int32) = nI (a - 1) := by
  rw [nI_m1]
  have e : a = a - 1 + 1 := by omega
  rw [e, nI_pred]
  congr 1
/-- a text, in any state: its bytes -/
def STR (K : tK) (G : tG) (r : Option Nat) (n : Nat) : Prop := (∃ (a w : Nat) (f : Nat → Int32) (x y : Value), r = some a ∧ G a = some (.inr (0, [.ref w, .int 0, x, y])) ∧ G w = some (eB n f) ∧ bOK f n) ∨ (∃ (a w : Nat) (f : Nat → Int32), r = some a ∧ K.1 a = some w ∧ K.2.1 w = some (n, f) ∧ bOK f n)
theorem STR_ext {K : tK} {G G' : tG} {r : Option Nat} {n : Nat} (h : STR K G r n) (he : ext G G') : STR K G' r n := by
  rcases h with ⟨a, w, f, x, y, h1, h2, h3, h4⟩ | h
  · exact Or.inl ⟨a, w, f, x, y, h1, he _ _ h2, he _ _ h3, h4⟩
  · exact Or.inr h
theorem STR_fr {K : tK} {G G' : tG} {r : Option Nat} {n o : Nat} {fs : List Value} (h : STR K G r n) (ho : G o = some (.inr (1, fs))) (he : fr (fun q => q = o) G G') : STR K G' r n := by
  rcases h with ⟨a, w, f, x, y, h1, h2, h3, h4⟩ | h
  · refine Or.inl ⟨a, w, f, x, y, h1, he _ _ h2 (fun c => ?_), he _ _ h3 (fun c => ?_), h4⟩
    · rw [c, ho] at h2; cases h2
    · rw [c, ho] at h3; cases h3
  · exact Or.inr h
def KS (K : tK) (t n : Nat) : Prop := ∃ (w : Nat) (f : Nat → Int32), K.1 (K.2.2 t) = some w ∧ K.2.1 w = some (n, f) ∧ bOK f n
def KOK (K : tK) : Prop := KS K 5 1 ∧ KS K 6 0 ∧ KS K 7 1 ∧ KS K 8 1 ∧ (∃ f, K.2.1 (K.2.2 20) = some (100, f)) ∧ (∃ f, K.2.1 (K.2.2 21) = some (100, f))
theorem STR_K {K : tK} {G : tG} {t n : Nat} (h : KS K t n) : STR K G (some (K.2.2 t)) n := by
  obtain ⟨w, f, h1, h2, h3⟩ := h
  exact Or.inr ⟨_, w, f, rfl, h1, h2, h3⟩
section STB
variable {K : tK} {G0 G : tG}
theorem s_rcv {P : Prop} {r : Option Nat} {n : Nat} (h : STR K G r n) (hp : P) : rcvS K G r 0 P := by
  rcases h with ⟨a, w, f, x, y, h1, h2, h3, h4⟩ | ⟨a, w, f, h1, h2, h3, h4⟩
  · exact ⟨a, h1, Or.inl ⟨_, h2⟩, hp⟩
  · exact ⟨a, h1, Or.inr ⟨w, h2⟩, hp⟩
theorem s_val {P : Option Nat → Prop} {r : Option Nat} {n : Nat} (h : STR K G r n) (hp : ∀ w f, (G w = some (eB n f) ∨ K.2.1 w = some (n, f)) → bOK f n → P (some w)) : gsV K G r 0 P := by
  rcases h with ⟨a, w, f, x, y, h1, h2, h3, h4⟩ | ⟨a, w, f, h1, h2, h3, h4⟩
  · subst h1
    exact Or.inl (gfR_i w h2 rfl (hp w f (Or.inl h3) h4))
  · exact Or.inr ⟨a, w, h1, h2, hp w f (Or.inr h3) h4⟩
theorem s_lenK {P : Int32 → Prop} {w n : Nat} {f : Nat → Int32} (h : G w = some (eB n f) ∨ K.2.1 w = some (n, f)) (hp : P (nI n)) : lenK K G (some w) P := by
  rcases h with h | h
  · exact Or.inl (lenA_i h hp)
  · exact Or.inr ⟨w, n, f, rfl, h, hp⟩
theorem s_coder {post : Int32 → tG → Prop} {r : Option Nat} {n : Nat} (h : STR K G r n) (hp : post 0 G) : w_J0_coder_7d493 K post r G := by
  refine ⟨fun z => absurd z (by decide), fun _ => ?_⟩
  rcases h with ⟨a, w, f, x, y, h1, h2, h3, h4⟩ | ⟨a, w, f, h1, h2, h3, h4⟩
  · subst h1
    exact Or.inl (gfI_i h2 rfl ⟨by decide, hp⟩)
  · exact Or.inr ⟨a, w, h1, h2, by decide, hp⟩
theorem s_length {post : Int32 → tG → Prop} {r : Option Nat} {n : Nat} (h : STR K G r n) (hp : post (nI n) G) : w_J0_length_8abf5 K post r G := by
  refine s_val h (fun w f hw _ => s_lenK hw (s_rcv h (s_coder h ?_)))
  show post (nI n >>> ((0 : Int32) &&& 31)) G
  rw [shr0]; exact hp
theorem s_isEmpty {post : Int32 → tG → Prop} {r : Option Nat} {n : Nat} (h : STR K G r n) (hn : n < 2 ^ 30) (hp : post (if n = 0 then 1 else 0) G) : w_J0_isEmpty_aae02 K post r G := by
  refine s_val h (fun w f hw _ => s_lenK hw ⟨fun c => ⟨by decide, ?_⟩, fun c => ⟨by decide, ?_⟩⟩)
  · have hc : ¬ n = 0 := fun e => c (by rw [e]; rfl)
    rw [if_neg hc] at hp; exact hp
  · have hc : n = 0 := Decidable.byContradiction fun e => nI_ne0 (by omega) (by omega) c
    rw [if_pos hc] at hp; exact hp
theorem a_latin {post : Int32 → tG → Prop} {o v k : Nat} {fl : Int32} (ho : G o = some (oSB v fl k)) (h : post 1 G) : w_J5_isLatin1_aae02 K post (some o) G :=
  ⟨fun z => absurd z (by decide), fun _ => gfI_i ho rfl ⟨fun z => absurd rfl z, fun _ => ⟨by decide, h⟩⟩⟩
theorem asB_i {v c j : Nat} {f : Nat → Int32} {i x : Int32} {P : tG → Prop} (hv : G v = some (eB c f)) (hi : i = nI j) (hj : j < c) (hc : c < 2 ^ 31) (h : P (tg_up G v (eB c (upd f j x)))) : asI G (some v) i .byte x P := asI_i hv hi hj hc h
theorem a_getChars {post : Int32 → tG → Prop} {x : Int32} {v c idx : Nat} {f : Nat → Int32} (hK : KOK K) (hx : inR x (-99) 99) (hv : G v = some (eB c f)) (hf : bOK f c) (hi : szF x ≤ idx) (hic : idx ≤ c) (hc : c < 10000) (hp : ∀ y G' f', G' v = some (eB c f') → bOK f' c → (∀ a, a ≠ v → G' a = G a) → post y G') : w_J6_getChars_ba4f3 K post x (nI idx) (some v) G := by
  obtain ⟨-, -, -, -, ⟨ft, kt⟩, ⟨fo, ko⟩⟩ := hK
  obtain ⟨j, d, hj, hjd, hsz⟩ := num_of hx
  rw [hsz] at hi
  have t := neg_at j hj
  have key : ∀ (z : Int32) (G1 : tG) (f1 : Nat → Int32) (i1 : Nat), G1 v = some (eB c f1) → bOK f1 c → (∀ a, a ≠ v → G1 a = G a) → i1 ≤ c → ((z = 0 ∧ 0 ≤ i1) ∨ (z = 1 ∧ 1 ≤ i1)) → w_J6_getChars_ba4f3_104 K post (some v) (nI i1) z G1 := by
    intro z G1 f1 i1 g1 g2 g3 g4 g5
    refine ⟨fun _ => hp _ G1 f1 g1 g2 g3, fun hz => ?_⟩
    have hi1 : 1 ≤ i1 := by
      rcases g5 with q | q
      · exact absurd q.1 hz
      · exact q.2
    rw [nI_dec (by omega)]
    exact asB_i g1 rfl (by omega) (by omega) (hp _ _ _ (tg_s _ _ _) (bOK_upd g2 _ (fit_nar _)) (fun a ha => by rw [tg_n _ _ ha]; exact g3 a ha))
  have main : ∀ z : Int32, ((z = 0 ∧ d = 0) ∨ (z = 1 ∧ d = 1)) → ∃ n : Nat, w_J6_getChars_ba4f3_22 K post n (-nI j) (some v) (nI idx) z G := by
    intro z hz
    refine ⟨1, ?_⟩
    show w_J6_getChars_ba4f3_22_b K post (w_J6_getChars_ba4f3_22 K post 0) (-nI j) (some v) (nI idx) z G
    refine ⟨fun _ => ⟨_, 100, fo, j, rfl, ko, by rw [t.2.1]; exact nI_toInt (by omega), hj, ?_⟩, fun q => absurd t.1 q⟩
    have hidx : 0 < idx := by
      split at hi <;> omega
    rw [nI_dec hidx]
    refine asB_i hv rfl (by omega) (by omega) ⟨fun q => ?_, fun q => ⟨_, 100, ft, j, rfl, kt, by rw [t.2.1]; exact nI_toInt (by omega), hj, ?_⟩⟩
    · have q9 := t.2.2.1.mp q
      rw [if_pos q9] at hi
      exact key z _ _ _ (tg_s _ _ _) (bOK_upd hf _ (fit_nar _)) (fun a ha => tg_n _ _ ha) (by omega) (hz.elim (fun h => Or.inl ⟨h.1, by omega⟩) (fun h => Or.inr ⟨h.1, by omega⟩))
    · have q9 : ¬ j ≤ 9 := fun z => q (t.2.2.1.mpr z)
      rw [if_neg q9] at hi
      rw [nI_dec (by omega)]
      refine asB_i (tg_s _ _ _) rfl (by omega) (by omega) ?_
      exact key z _ _ _ (tg_s _ _ _) (bOK_upd (bOK_upd hf _ (fit_nar _)) _ (fit_nar _)) (fun a ha => by rw [tg_n _ _ ha, tg_n _ _ ha]) (by omega) (hz.elim (fun h => Or.inl ⟨h.1, by omega⟩) (fun h => Or.inr ⟨h.1, by omega⟩))
  have e0 : (0 : Int32).toInt = 0 := rfl
  rcases hjd with ⟨d0, hx0, ex⟩ | ⟨d1, hx0, ex⟩
  · refine ⟨fun _ => ⟨fun z => absurd rfl z, fun _ => ?_⟩, fun q => absurd ?_ q⟩
    · rw [ex]; exact main 0 (Or.inl ⟨rfl, d0⟩)
    · rw [i32_le]; rw [i32_lt] at hx0; omega
  · refine ⟨fun q => absurd hx0 ?_, fun _ => ⟨fun _ => ?_, fun z => absurd z (by decide)⟩⟩
    · rw [i32_lt]; rw [i32_le] at q; omega
    · rw [ex]; exact main 1 (Or.inr ⟨rfl, d1⟩)
/-- StringBuilder.append(int) -/
theorem a_appI {post : Option Nat → tG → Prop} {o v c k mc ms : Nat} {x : Int32} (hK : KOK K) (hx : inR x (-99) 99) (h0 : ext G0 G) (h : SB G0 G o v c k) (hc : c < 5000) (hk : k < 1000) (hmc : 1 ≤ mc) (hms : groF c (k + szF x) ≤ ms) (hp : ∀ G' v', ext G0 G' → SB G0 G' o v' (capF c (k + szF x)) (k + szF x) → post (some o) G') : w_J4_append_bf812 K mc ms post (some o) x G := by
  obtain ⟨⟨n1, n2⟩, ⟨fl, ho⟩, ⟨f, hv, hf⟩, hkc⟩ := id h
  have hz := szF_in x
  refine ⟨mc, ms, by omega, by omega, rcv_i ho (gfI_i ho rfl (a_size hx ⟨mc, ms, by omega, by omega, rcv_i ho ?_⟩))⟩
  rw [nI_add]
  refine a_ensure h0 h (by omega) (by omega) hmc hms (fun G1 v1 x1 f1 h1 => ?_)
  obtain ⟨⟨m1, m2⟩, ⟨fl1, ho1⟩, ⟨g, hv1, hg⟩, hkc1⟩ := h1
  have cf := cap_facts c (k + szF x)
  have hcb : capF c (k + szF x) < 10000 := Nat.lt_of_le_of_lt (cf.2.2.2 (max c (2 * (k + szF x))) (by omega) (by omega)) (by omega)
  refine rcv_i ho1 (a_latin ho1 ⟨fun z => absurd z (by decide), fun _ => gfR_i v1 ho1 rfl ?_⟩)
  refine a_getChars hK hx hv1 hg (by omega) cf.1 hcb (fun y G2 g2 e1 e2 e3 => ?_)
  have hov : o ≠ v1 := ne_OI ho1 hv1
  have ho2 : G2 o = some (oSB v1 fl1 k) := by rw [e3 o hov]; exact ho1
  refine pfV_i ho2 (Nat.le_of_ble_eq_true rfl) (hp _ v1 ?_ ?_)
  · refine ext_up (fun a e ha => ?_) _ m1
    rw [e3 a (fun z => by rw [z, m2] at ha; cases ha)]; exact x1 a e ha
  · exact ⟨⟨m1, m2⟩, ⟨fl1, tg_s _ _ _⟩, ⟨g2, tg_keep e1 (fun z => hov z.symm), e2⟩, cf.1⟩
/-- StringBuilder.append(char), of a sign below 256 -/
theorem a_appC {post : Option Nat → tG → Prop} {o v c k mc ms : Nat} {x : Int32} (hx : ¬ (255 : Int32) < x) (h0 : ext G0 G) (h : SB G0 G o v c k) (hc : c < 5000) (hk : k < 1000) (hmc : 1 ≤ mc) (hms : groF c (k + 1) ≤ ms) (hp : ∀ G' v', ext G0 G' → SB G0 G' o v' (capF c (k + 1)) (k + 1) → post (some o) G') : w_J4_append_cf468 K mc ms post (some o) x G := by
  obtain ⟨⟨n1, n2⟩, ⟨fl, ho⟩, ⟨f, hv, hf⟩, hkc⟩ := id h
  refine ⟨mc, ms, by omega, by omega, rcv_i ho (gfI_i ho rfl ⟨mc, ms, by omega, by omega, rcv_i ho ?_⟩)⟩
  rw [nI_1]
  refine a_ensure h0 h (by omega) (by omega) hmc hms (fun G1 v1 x1 f1 h1 => ?_)
  obtain ⟨⟨m1, m2⟩, ⟨fl1, ho1⟩, ⟨g, hv1, hg⟩, hkc1⟩ := h1
  have cf := cap_facts c (k + 1)
  have hcb : capF c (k + 1) < 10000 := Nat.lt_of_le_of_lt (cf.2.2.2 (max c (2 * (k + 1))) (by omega) (by omega)) (by omega)
  refine rcv_i ho1 (a_latin ho1 ⟨fun z => absurd z (by decide), fun _ => ⟨fun z => absurd z hx, fun _ => ⟨by decide, fun z => absurd z (by decide), fun _ => gfR_i v1 ho1 rfl (gfI_i ho1 rfl (pfV_i ho1 (Nat.le_of_ble_eq_true rfl) ?_))⟩⟩⟩)
  have hov : o ≠ v1 := ne_OI ho1 hv1
  refine asB_i (tg_keep hv1 (fun z => hov z.symm)) rfl (show k < capF c (k + 1) by omega) (by omega) (hp _ v1 ?_ ?_)
  · exact ext_up (ext_up x1 _ m1) _ m2
  · refine ⟨⟨m1, m2⟩, ⟨fl1, ?_⟩, ⟨_, tg_s _ _ _, bOK_upd hg _ (fit_nar _)⟩, cf.1⟩
    refine tg_keep ?_ hov
    show tg_up G1 o (.inr (1, [.ref v1, .int 0, .int fl1, .int (nI k + 1)])) o = _
    rw [tg_s, nI_1]
/-- StringBuilder.append(String) -/
theorem a_appS {post : Option Nat → tG → Prop} {o v c k n mc ms : Nat} {r : Option Nat} (hr : STR K G r n) (hn : n < 1000) (h0 : ext G0 G) (h : SB G0 G o v c k) (hc : c < 5000) (hk : k < 1000) (hmc : 1 ≤ mc) (hms : groF c (k + n) ≤ ms) (hp : ∀ G' v', ext G0 G' → SB G0 G' o v' (capF c (k + n)) (k + n) → post (some o) G') : w_J4_append_15ec4 K mc ms post (some o) r G := by
  obtain ⟨⟨n1, n2⟩, ⟨fl, ho⟩, ⟨f, hv, hf⟩, hkc⟩ := id h
  refine ⟨mc, ms, by omega, by omega, rcv_i ho ⟨fun _ => s_rcv hr (s_length hr (gfI_i ho rfl ⟨mc, ms, by omega, by omega, rcv_i ho ?_⟩)), fun z => ?_⟩⟩
  · rw [nI_add]
    refine a_ensure h0 h (by omega) (by omega) hmc hms (fun G1 v1 x1 f1 h1 => ?_)
    have hr1 := STR_fr hr ho f1
    obtain ⟨⟨m1, m2⟩, ⟨fl1, ho1⟩, ⟨g, hv1, hg⟩, hkc1⟩ := h1
    have cf := cap_facts c (k + n)
    have hcb : capF c (k + n) < 10000 := Nat.lt_of_le_of_lt (cf.2.2.2 (max c (2 * (k + n))) (by omega) (by omega)) (by omega)
    have hov : o ≠ v1 := ne_OI ho1 hv1
    refine gfI_i ho1 rfl (rcv_i ho1 (rcv_i ho1 ⟨fun z => absurd z (by decide), fun _ => gfI_i ho1 rfl (s_rcv hr1 (s_coder hr1 ⟨fun _ => ?_, fun z => absurd rfl z⟩))⟩))
    refine gfR_i v1 ho1 rfl (gfI_i ho1 rfl (s_rcv hr1 (s_rcv hr1 (s_coder hr1 ⟨fun z => absurd rfl z, fun _ => s_val hr1 (fun w fw hw hfw => s_val hr1 (fun w2 fw2 hw2 hfw2 => s_lenK hw2 ?_))⟩))))
    refine cpB_i (sp' := 0) (dp' := k) (n' := n) rfl hw rfl hv1 rfl (shl0 _) rfl (by omega) (by omega) (by omega) (by omega) (fun i hi => by rw [Nat.zero_add]; exact hfw i hi) ?_
    refine gfI_i (tg_keep ho1 hov) rfl (pfV_i (tg_keep ho1 hov) (Nat.le_of_ble_eq_true rfl) (hp _ v1 ?_ ?_))
    · exact ext_up (ext_up x1 _ m2) _ m1
    · refine ⟨⟨m1, m2⟩, ⟨fl1, ?_⟩, ⟨_, tg_keep (tg_s _ _ _) (fun z => hov z.symm), bOK_cpy (fun i hi => by rw [Nat.zero_add]; exact hfw i hi) hg⟩, cf.1⟩
      show tg_up _ o (.inr (1, [.ref v1, .int 0, .int fl1, .int (nI k + nI n)])) o = _
      rw [tg_s, nI_add]
  · rcases hr with ⟨a, w, f', x, y, q, -⟩ | ⟨a, w, f', q, -⟩
    · rw [q] at z; cases z
    · rw [q] at z; cases z
/-- StringBuilder.toString() -/
theorem a_toString {post : Option Nat → tG → Prop} {o v c k mc ms : Nat} (h : SB G0 G o v c k) (hc : c < 10000) (hmc : 2 ≤ mc) (hms : 4 + k ≤ ms) (hp : ∀ s G', ext G G' → STR K G' (some s) k → post (some s) G') : w_J4_toString_0e30d K mc ms post (some o) G := by
  obtain ⟨⟨n1, n2⟩, ⟨fl, ho⟩, ⟨f, hv, hf⟩, hkc⟩ := id h
  refine ⟨⟨by omega, by omega⟩, fun s hs => ⟨1, k, by omega, by omega, ⟨s, rfl⟩, 1, k, by omega, by omega, ⟨s, rfl⟩, ⟨s, rfl⟩, ?_⟩⟩
  have hos : o ≠ s := fun z => by rw [z, hs] at ho; cases ho
  have hvs : v ≠ s := fun z => by rw [z, hs] at hv; cases hv
  have ho1 : tg_up G s (.inr (0, [.null, .int 0, .int 0, .int 0])) o = some (oSB v fl k) := tg_keep ho hos
  refine rcv_i ho1 (gfR_i v ho1 rfl (rcv_i ho1 (rcv_i ho1 (gfI_i ho1 rfl (rcv_i ho1 (a_latin ho1 ⟨fun z => absurd z (by decide), fun _ => pfV_i (tg_s _ _ _) (Nat.le_of_ble_eq_true rfl) ⟨1, k, by omega, by omega, ?_⟩⟩))))))
  have hv2 : ∀ e1 e2 : tE, tg_up (tg_up G s e1) s e2 v = some (eB c f) := fun e1 e2 => tg_keep (tg_keep hv hvs) hvs
  -- what is done with the copy
  have fin : ∀ (q : Nat) (G2 : tG) (g : Nat → Int32), (tg_up (tg_up G s (.inr (0, [.null, .int 0, .int 0, .int 0]))) s (.inr (0, [.null, .int 0, .int 0, .int 0]))) q = none → G2 q = some (eB k g) → bOK g k → (∀ a, a ≠ q → G2 a = (tg_up (tg_up G s (.inr (0, [.null, .int 0, .int 0, .int 0]))) s (.inr (0, [.null, .int 0, .int 0, .int 0]))) a) → pfV G2 (some s) 0 0 (va_rf (some q)) (fun G_35 => w_J0_init_db425_97 K 1 k (fun G_5 => post (some s) G_5) (0 + 1) (0 + k) G_35) := by
    intro q G2 g q0 q1 q2 q3
    have hsq : s ≠ q := fun z => by rw [← z, tg_s] at q0; cases q0
    have hs2 : G2 s = some (.inr (0, [.null, .int 0, .int 0, .int 0])) := by rw [q3 s hsq, tg_s]
    refine pfV_i hs2 (Nat.le_of_ble_eq_true rfl) (hp s _ (fun a e ha => ?_) (Or.inl ⟨s, q, g, .int 0, .int 0, rfl, tg_s _ _ _, tg_keep q1 (fun z => hsq z.symm), q2⟩))
    have has : a ≠ s := fun z => by rw [z, hs] at ha; cases ha
    have haq : a ≠ q := fun z => by
      rw [← z, tg_n _ _ has, tg_n _ _ has] at q0
      rw [q0] at ha; cases ha
    rw [tg_n _ _ has, q3 a haq, tg_n _ _ has, tg_n _ _ has]; exact ha
  refine ⟨fun z => absurd rfl z, fun _ => lenA_i (hv2 _ _) ⟨fun z => ?_, fun z => ?_⟩⟩
  · have z : nI k = nI c := z
    have ek := (nI_eq (by omega) (by omega)).mp z
    subst ek
    refine ⟨k, ⟨by omega, by omega⟩, v, k, f, rfl, hv2 _ _, Nat.le_refl _, hf, fun q hq => ⟨q, _, rfl, tg_s _ _ _, ?_⟩⟩
    exact fin q _ f hq (tg_s _ _ _) hf (fun a ha => tg_n _ _ ha)
  · refine ⟨1, k, by omega, by omega, ⟨fun _ => ⟨k, by omega, ⟨by omega, by omega⟩, k, ?_, Nat.le_refl _, fun q hq => ?_⟩, fun z => absurd (nI_le (a := 0) (b := k) (by omega) (by omega)) z⟩⟩
    · show (nI k - nI 0).toInt = _
      rw [nI_subN (by omega)]; exact nI_toInt (by omega)
    · have hvq : v ≠ q := fun z => by rw [← z] at hq; rw [hv2] at hq; cases hq
      have hv3 : tg_up (tg_up (tg_up G s (.inr (0, [.null, .int 0, .int 0, .int 0]))) s (.inr (0, [.null, .int 0, .int 0, .int 0]))) q (eB k fun _ => 0) v = some (eB c f) := tg_keep (hv2 _ _) hvq
      refine lenA_i hv3 (cpB_i (sp' := 0) (dp' := 0) (n' := k) rfl (Or.inl hv3) rfl (tg_s _ _ _) rfl rfl ?_ (by omega) (by omega) (by omega) (by omega) (fun i hi => by rw [Nat.zero_add]; exact hf i (by omega)) ?_)
      · show (if nI k - nI 0 < nI c - nI 0 then nI k - nI 0 else nI c - nI 0) = nI k
        rw [nI_subN (by omega), nI_subN (by omega)]
        by_cases q9 : k < c
        · rw [if_pos (nI_lt (by omega) (by omega))]; rfl
        · rw [if_neg (nI_nlt (by omega) (by omega))]; congr 1; omega
      · exact fin q _ _ hq (tg_s _ _ _) (bOK_cpy (fun i hi => by rw [Nat.zero_add]; exact hf i (by omega)) (bOK_0 k)) (fun a ha => by rw [tg_n _ _ ha, tg_n _ _ ha]; rfl)
/-- a new builder -/
theorem a_init {pv : tG → Prop} {o mc ms : Nat} (hG0 : G0 o = none) (he : ∀ a, a ≠ o → G a = G0 a) (ho : G o = some (.inr (1, [.null, .int 0, .int 0, .int 0]))) (hmc : 1 ≤ mc) (hms : 16 ≤ ms) (hp : ∀ G' v', ext G0 G' → SB G0 G' o v' 16 0 → pv G') : w_J4_init_da8c8 K mc ms pv (some o) G := by
  refine ⟨1, 16, by omega, by omega, ⟨o, rfl⟩, ⟨o, rfl⟩, fun z => absurd z (by decide), fun _ => ⟨16, by omega, ⟨by omega, by omega⟩, 16, rfl, Nat.le_refl _, fun v hv => ?_⟩⟩
  have hov : o ≠ v := fun z => by rw [z, hv] at ho; cases ho
  have hv0 : G0 v = none := by rw [← he v (fun z => hov z.symm)]; exact hv
  refine pfV_i (tg_keep ho hov) (Nat.le_of_ble_eq_true rfl) (pfV_i (tg_s _ _ _) (Nat.le_of_ble_eq_true rfl) (hp _ v ?_ ?_))
  · refine ext_up (ext_up (ext_up (fun a e ha => ?_) _ hv0) _ hG0) _ hG0
    rw [he a (fun z => by rw [z, hG0] at ha; cases ha)]; exact ha
  · exact ⟨⟨hG0, hv0⟩, ⟨0, tg_s _ _ _⟩, ⟨_, tg_keep (tg_keep (tg_s _ _ _) (fun z => hov z.symm)) (fun z => hov z.symm), bOK_0 16⟩, by omega⟩
end STB
end
section
/-! texts: the model's and the class -/
theorem groF_0 {c m : Nat} (h : m ≤ c) : groF c m = 0 := if_pos h
theorem capF_same {c m : Nat} (h : m ≤ c) : capF c m = c := if_pos h
theorem SB_rcv {G0 G : tG} {o v c k : Nat} {P : Prop} (h : SB G0 G o v c k) (hp : P) : rcv G (some o) 1 P := by
  obtain ⟨-, ⟨fl, ho⟩, -, -⟩ := h
  exact rcv_i ho hp
theorem TwR_ext {G G' : tG} {L : tL} {S : tS} (h : TwR G L S) (he : ext G G') : TwR G' L S := TwR_fr (P := fun _ => False) h (ext_fr he _) (fun _ _ z => z) (fun _ _ z => z.elim)
theorem MoR_ext {G G' : tG} {M : tM} {S : tS} {th : Int32} (h : MoR G M S th) (he : ext G G') : MoR G' M S th := MoR_fr (P := fun _ => False) h (ext_fr he _) (fun _ _ z => z)
section STC
variable {K : tK} {G : tG} {M : tM} {S : tS} {th : Int32}
theorem a_shown {post : Option Nat → tG → Prop} {x : Int32} {mc ms : Nat} (hK : KOK K) (hx : okV x) (hmc : 6 ≤ mc) (hms : 27 ≤ ms) (hp : ∀ r G' n, ext G G' → STR K G' r n → n ≤ 3 → post r G') : w_X3_shown K mc ms post x G := by
  refine ⟨fun c => ?_, fun _ => hp _ G 1 (ext_rf _) (STR_K hK.1) (by omega)⟩
  have hz := szF_in x
  refine ⟨⟨by omega, by omega⟩, fun o ho => ⟨1, 16, by omega, by omega, ⟨o, rfl⟩, a_init (G0 := G) ho (fun a ha => tg_n _ _ ha) (tg_s _ _ _) (Nat.le_refl _) (Nat.le_refl _) (fun G1 v1 x1 h1 => ?_)⟩⟩
  refine ⟨1, 0, by omega, by omega, SB_rcv h1 (a_appS (STR_K hK.2.1) (by omega) x1 h1 (by omega) (by omega) (Nat.le_refl _) (Nat.le_of_eq (groF_0 (by omega))) (fun G2 v2 x2 h2 => ?_))⟩
  rw [capF_same (by omega)] at h2
  refine ⟨1, 0, by omega, by omega, SB_rcv h2 (a_appI hK (hx.resolve_left c) x2 h2 (by omega) (by omega) (Nat.le_refl _) (Nat.le_of_eq (groF_0 (by omega))) (fun G3 v3 x3 h3 => ?_))⟩
  rw [capF_same (by omega)] at h3
  refine ⟨2, 4 + (0 + 0 + szF x), by omega, by omega, SB_rcv h3 (a_toString h3 (by omega) (Nat.le_refl _) (Nat.le_refl _) (fun s G4 x4 h4 => hp _ G4 _ (ext_tr x3 x4) h4 (by omega)))⟩
theorem m_line {post : Option Nat → tG → Prop} {v back : Int32} {mc ms : Nat} (hK : KOK K) (h : MoR G M S th) (hmc : 160 ≤ mc) (hms : 3200 ≤ ms) (h1 : S_at S v = none → ∀ x G', fr (moW M) G G' → MoR G' M S 1 → post x G') (h0 : ∀ j r b n, j < 7 → v = nI j → S.1 j = some (r, b, n) → ∀ x G', fr (moW M) G G' → MoR G' M S 0 → post x G') : w_X3_line K mc ms post (some M.1.1) v back G := by
  refine m_rcv h (m_isNoList h (fun c => ?_) (fun j r b n hj ev hs => ?_))
  · exact m_rcv h (m_fails h (fun G1 f1 g1 => ⟨fun z => absurd z (by decide), fun _ => h1 c _ G1 f1 g1⟩))
  · have hz0 := h0 j r b n hj ev hs
    subst ev
    have hn12 := (S_12 h.1 hj hs).2
    have hr3 := (S_12 h.1 hj hs).1
    refine m_rcv h (m_fails h (fun G1 f1 g1 => ⟨fun _ => ⟨⟨by omega, by omega⟩, m_rcv g1 (m_all g1 hj hs (fun q f G2 q0 q1 q2 q3 g2 => lenA_i q1 ?_))⟩, fun z => absurd (by decide) z⟩))
    have hval : ∀ t, t < n → okV (f t) := fun t ht => by rw [q2 t ht]; exact h.1.2.2 r _ hr3 (by omega)
    have main : ∀ (k i nc ns kk : Nat) (made : Option Nat) (G3 : tG), i + k = n → nc ≤ 1 + 13 * i → ns ≤ 12 + 260 * i → kk ≤ 4 * i → STR K G3 made kk → ext G2 G3 → w_X3_line_34 K mc ms post (k + 1) nc ns back made (some q) (nI n) (nI i) G3 := by
      intro k
      induction k with
      | zero =>
        intro i nc ns kk made G3 hi hnc hns hkk hst x3
        show w_X3_line_34_b K mc ms post (w_X3_line_34 K mc ms post 0) nc ns back made (some q) (nI n) (nI i) G3
        have e : i = n := by omega
        subst e
        exact ⟨fun _ => hz0 _ G3 (fr_tr (fr_al f1 q0 q3) (ext_fr x3 _)) (MoR_ext g2 x3), fun c => absurd (nI_le (by omega) (by omega)) c⟩
      | succ k ih =>
        intro i nc ns kk made G3 hi hnc hns hkk hst x3
        show w_X3_line_34_b K mc ms post (w_X3_line_34 K mc ms post (k + 1)) nc ns back made (some q) (nI n) (nI i) G3
        refine ⟨fun c => absurd c (nI_ge (by omega) (by omega)), fun _ => alI_i (x3 _ _ q1) rfl (by omega) (by omega) (s_rcv hst (s_isEmpty hst (by omega) ⟨fun _ => ⟨fun _ => ?_, fun _ => ?_⟩, fun _ => ?_⟩))⟩
        · -- behind what was made
          refine ⟨⟨by omega, by omega⟩, fun o ho => ⟨1, 16, by omega, by omega, ⟨o, rfl⟩, a_init (G0 := G3) ho (fun a ha => tg_n _ _ ha) (tg_s _ _ _) (Nat.le_refl _) (Nat.le_refl _) (fun G4 v4 x4 g4 => ?_)⟩⟩
          have c1 := cap_facts 16 (0 + kk)
          have b1 := c1.2.2.2 96 (by omega) (by omega)
          refine ⟨1, groF 16 (0 + kk), by omega, by omega, SB_rcv g4 (a_appS (STR_ext hst x4) (by omega) x4 g4 (by omega) (by omega) (Nat.le_refl _) (Nat.le_refl _) (fun G5 v5 x5 g5 => ?_))⟩
          have c2 := cap_facts (capF 16 (0 + kk)) (0 + kk + 1)
          have b2 := c2.2.2.2 96 (by omega) (by omega)
          refine ⟨1, groF (capF 16 (0 + kk)) (0 + kk + 1), by omega, by omega, SB_rcv g5 (a_appS (STR_K hK.2.2.1) (by omega) x5 g5 (by omega) (by omega) (Nat.le_refl _) (Nat.le_refl _) (fun G6 v6 x6 g6 => ?_))⟩
          refine ⟨6, 27, by omega, by omega, a_shown hK (hval i (by omega)) (Nat.le_refl _) (Nat.le_refl _) (fun rs G7 ns7 x7 st7 hn7 => ?_)⟩
          have g7 := SB_ext g6 x7
          have c3 := cap_facts (capF (capF 16 (0 + kk)) (0 + kk + 1)) (0 + kk + 1 + ns7)
          have b3 := c3.2.2.2 96 (by omega) (by omega)
          refine ⟨1, groF (capF (capF 16 (0 + kk)) (0 + kk + 1)) (0 + kk + 1 + ns7), by omega, by omega, SB_rcv g7 (a_appS st7 (by omega) (ext_tr x6 x7) g7 (by omega) (by omega) (Nat.le_refl _) (Nat.le_refl _) (fun G8 v8 x8 g8 => ?_))⟩
          refine ⟨2, 4 + (0 + kk + 1 + ns7), by omega, by omega, SB_rcv g8 (a_toString g8 (by omega) (Nat.le_refl _) (Nat.le_refl _) (fun s G9 x9 g9 => ?_))⟩
          show w_X3_line_34 K mc ms post (k + 1) _ _ back (some s) (some q) (nI n) (nI i + 1) G9
          rw [nI_1]
          exact ih (i + 1) _ _ (0 + kk + 1 + ns7) (some s) G9 (by omega) (by omega) (by omega) (by omega) g9 (ext_tr x3 (ext_tr x8 x9))
        · -- ahead of what was made
          refine ⟨⟨by omega, by omega⟩, fun o ho => ⟨1, 16, by omega, by omega, ⟨o, rfl⟩, a_init (G0 := G3) ho (fun a ha => tg_n _ _ ha) (tg_s _ _ _) (Nat.le_refl _) (Nat.le_refl _) (fun G4 v4 x4 g4 => ?_)⟩⟩
          refine ⟨6, 27, by omega, by omega, a_shown hK (hval i (by omega)) (Nat.le_refl _) (Nat.le_refl _) (fun rs G7 ns7 x7 st7 hn7 => ?_)⟩
          have g7 := SB_ext g4 x7
          have c1 := cap_facts 16 (0 + ns7)
          have b1 := c1.2.2.2 96 (by omega) (by omega)
          refine ⟨1, groF 16 (0 + ns7), by omega, by omega, SB_rcv g7 (a_appS st7 (by omega) (ext_tr x4 x7) g7 (by omega) (by omega) (Nat.le_refl _) (Nat.le_refl _) (fun G5 v5 x5 g5 => ?_))⟩
          have c2 := cap_facts (capF 16 (0 + ns7)) (0 + ns7 + 1)
          have b2 := c2.2.2.2 96 (by omega) (by omega)
          refine ⟨1, groF (capF 16 (0 + ns7)) (0 + ns7 + 1), by omega, by omega, SB_rcv g5 (a_appS (STR_K hK.2.2.1) (by omega) x5 g5 (by omega) (by omega) (Nat.le_refl _) (Nat.le_refl _) (fun G6 v6 x6 g6 => ?_))⟩
          have c3 := cap_facts (capF (capF 16 (0 + ns7)) (0 + ns7 + 1)) (0 + ns7 + 1 + kk)
          have b3 := c3.2.2.2 96 (by omega) (by omega)
          refine ⟨1, groF (capF (capF 16 (0 + ns7)) (0 + ns7 + 1)) (0 + ns7 + 1 + kk), by omega, by omega, SB_rcv g6 (a_appS (STR_ext hst x6) (by omega) x6 g6 (by omega) (by omega) (Nat.le_refl _) (Nat.le_refl _) (fun G8 v8 x8 g8 => ?_))⟩
          refine ⟨2, 4 + (0 + ns7 + 1 + kk), by omega, by omega, SB_rcv g8 (a_toString g8 (by omega) (Nat.le_refl _) (Nat.le_refl _) (fun s G9 x9 g9 => ?_))⟩
          show w_X3_line_34 K mc ms post (k + 1) _ _ back (some s) (some q) (nI n) (nI i + 1) G9
          rw [nI_1]
          exact ih (i + 1) _ _ (0 + ns7 + 1 + kk) (some s) G9 (by omega) (by omega) (by omega) (by omega) g9 (ext_tr x3 (ext_tr x8 x9))
        · refine ⟨6, 27, by omega, by omega, a_shown hK (hval i (by omega)) (Nat.le_refl _) (Nat.le_refl _) (fun rs G7 ns7 x7 st7 hn7 => ?_)⟩
          show w_X3_line_34 K mc ms post (k + 1) _ _ back rs (some q) (nI n) (nI i + 1) G7
          rw [nI_1]
          exact ih (i + 1) _ _ ns7 rs G7 (by omega) (by omega) (by omega) (by omega) st7 (ext_tr x3 x7)
    exact ⟨n + 1, main n 0 _ _ 0 _ G2 (by omega) (by omega) (by omega) (by omega) (STR_K hK.2.1) (ext_rf _)⟩
theorem m_text {post : Option Nat → tG → Prop} {v : Int32} {mc ms : Nat} (hK : KOK K) (h : MoR G M S th) (hmc : 160 ≤ mc) (hms : 3200 ≤ ms) (h1 : S_at S v = none → ∀ x G', fr (moW M) G G' → MoR G' M S 1 → post x G') (h0 : ∀ j r b n, j < 7 → v = nI j → S.1 j = some (r, b, n) → ∀ x G', fr (moW M) G G' → MoR G' M S 0 → post x G') : w_X3_text K mc ms post (some M.1.1) v G :=
  ⟨mc, ms, by omega, by omega, m_rcv h (m_line hK h hmc hms h1 h0)⟩
theorem m_back {post : Option Nat → tG → Prop} {v : Int32} {mc ms : Nat} (hK : KOK K) (h : MoR G M S th) (hmc : 160 ≤ mc) (hms : 3200 ≤ ms) (h1 : S_at S v = none → ∀ x G', fr (moW M) G G' → MoR G' M S 1 → post x G') (h0 : ∀ j r b n, j < 7 → v = nI j → S.1 j = some (r, b, n) → ∀ x G', fr (moW M) G G' → MoR G' M S 0 → post x G') : w_X3_back K mc ms post (some M.1.1) v G :=
  ⟨mc, ms, by omega, by omega, m_rcv h (m_line hK h hmc hms h1 h0)⟩
theorem m_walk {post : Option Nat → tG → Prop} {v p many back : Int32} {mc ms : Nat} (hK : KOK K) (h : MoR G M S th) (hmc : 200 ≤ mc) (hms : 6100 ≤ ms) (h1 : S_at S v = none → ∀ x G', fr (moW M) G G' → MoR G' M S 1 → post x G') (h2 : ∀ j r b n, j < 7 → v = nI j → S.1 j = some (r, b, n) → ¬ (inR p 0 (nI n) ∧ inR many 0 12) → ∀ x G', fr (moW M) G G' → MoR G' M S 2 → post x G') (h0 : ∀ j r b n, j < 7 → v = nI j → S.1 j = some (r, b, n) → inR p 0 (nI n) → inR many 0 12 → ∀ x G', fr (moW M) G G' → MoR G' M S 0 → post x G') : w_X3_walk K mc ms post (some M.1.1) v p many back G := by
  refine m_rcv h (m_isNoList h (fun c => ?_) (fun j r b n hj ev hs => ?_))
  · have hbad : ∀ u, w_X3_walk_30 K mc ms post 0 0 (some M.1.1) v p many back (some M.1.1) 1 u G := fun u => m_rcv h (m_fails h (fun G1 f1 g1 => ⟨fun z => absurd (show (1 : Int32) = 0 from z) (by decide), fun _ => h1 c _ G1 f1 g1⟩))
    exact m_rcv h (m_isBeyond h (fun _ => ⟨fun z => absurd rfl z, fun _ => m_isIn (fun _ => ⟨fun _ => hbad 0, fun z => absurd z (by decide)⟩) (fun _ => ⟨fun z => absurd rfl z, fun _ => hbad 1⟩)⟩) (fun j r b n hj ev hs _ => by subst ev; rw [S_at_nI S hj, hs] at c; cases c) (fun j r b n hj ev hs _ => by subst ev; rw [S_at_nI S hj, hs] at c; cases c))
  · have ec : S_at S v = some (r, b, n) := by rw [ev, S_at_nI S hj]; exact hs
    have hn12 := (S_12 h.1 hj hs).2
    have hr3 := (S_12 h.1 hj hs).1
    have other : ∀ {j2 r2 b2 n2}, j2 < 7 → v = nI j2 → S.1 j2 = some (r2, b2, n2) → n2 = n := fun {j2 r2 b2 n2} hj2 ev2 hs2 => by
      have e2 : S_at S v = some (r2, b2, n2) := by rw [ev2, S_at_nI S hj2]; exact hs2
      rw [ec] at e2; cases e2; rfl
    have hbad : ¬ (inR p 0 (nI n) ∧ inR many 0 12) → w_X3_walk_30 K mc ms post 0 0 (some M.1.1) v p many back (some M.1.1) 0 1 G := fun q => m_rcv h (m_fails h (fun G1 f1 g1 => ⟨fun z => absurd z (by decide), fun _ => h2 j r b n hj ev hs q _ G1 f1 g1⟩))
    have hgood : inR p 0 (nI n) → inR many 0 12 → w_X3_walk_30 K mc ms post 0 0 (some M.1.1) v p many back (some M.1.1) 0 0 G := fun q1 q2 => by
      have hz0 := h0 j r b n hj ev hs q1 q2
      obtain ⟨mn, hmn, emn⟩ := nI_of2 (M := 12) (n := 12) rfl q2.1 q2.2
      subst emn
      subst ev
      refine m_rcv h (m_fails h (fun G1 f1 g1 => ⟨fun _ => ?_, fun z => absurd (by decide) z⟩))
      have main : ∀ (k i nc ns kk : Nat) (at9 : Int32) (made : Option Nat) (G3 : tG), i + k = mn → nc ≤ 15 * i → ns ≤ 500 * i → kk ≤ 8 * i → STR K G3 made kk → ext G1 G3 → w_X3_walk_60 K mc ms post (k + 1) nc ns (some M.1.1) (nI j) (nI mn) back made at9 (nI i) G3 := by
        intro k
        induction k with
        | zero =>
          intro i nc ns kk at9 made G3 hi hnc hns hkk hst x3
          show w_X3_walk_60_b K mc ms post (w_X3_walk_60 K mc ms post 0) nc ns (some M.1.1) (nI j) (nI mn) back made at9 (nI i) G3
          have e : i = mn := by omega
          subst e
          exact ⟨fun _ => hz0 _ G3 (fr_tr f1 (ext_fr x3 _)) (MoR_ext g1 x3), fun c => absurd (nI_le (by omega) (by omega)) c⟩
        | succ k ih =>
          intro i nc ns kk at9 made G3 hi hnc hns hkk hst x3
          show w_X3_walk_60_b K mc ms post (w_X3_walk_60 K mc ms post (k + 1)) nc ns (some M.1.1) (nI j) (nI mn) back made at9 (nI i) G3
          have g3 := MoR_ext g1 x3
          refine ⟨fun c => absurd c (nI_ge (by omega) (by omega)), fun _ => m_len g3 hj hs (m_isIn (fun hin => ⟨fun z => absurd z (by decide), fun _ => ?_⟩) (fun _ => ⟨fun _ => hz0 _ G3 (fr_tr f1 (ext_fr x3 _)) g3, fun z => absurd rfl z⟩))⟩
          have hpl := (inR_pl (by omega)).mp hin
          obtain ⟨a, ha, ea⟩ := nI_of hin.1
          subst ea
          rw [nI_toInt ha] at hpl
          have han : a < n := by omega
          have hat : inR (nI a) (-99) 99 := ⟨by rw [i32_lt, nI_toInt ha]; have : (-99 : Int32).toInt = -99 := rfl; omega, by rw [i32_le, nI_toInt ha]; have : (99 : Int32).toInt = 99 := rfl; omega⟩
          have hz := szF_in (nI a)
          refine ⟨⟨by omega, by omega⟩, fun o ho => ⟨1, 16, by omega, by omega, ⟨o, rfl⟩, a_init (G0 := G3) ho (fun a ha => tg_n _ _ ha) (tg_s _ _ _) (Nat.le_refl _) (Nat.le_refl _) (fun G4 v4 x4 g4 => ?_)⟩⟩
          have c1 := cap_facts 16 (0 + kk)
          have b1 := c1.2.2.2 192 (by omega) (by omega)
          refine ⟨1, groF 16 (0 + kk), by omega, by omega, SB_rcv g4 (a_appS (STR_ext hst x4) (by omega) x4 g4 (by omega) (by omega) (Nat.le_refl _) (Nat.le_refl _) (fun G5 v5 x5 g5 => ?_))⟩
          have rest : ∀ (u : Option Nat) (nu : Nat), STR K G5 u nu → nu ≤ 1 → w_X3_walk_110 K mc ms post (w_X3_walk_60 K mc ms post (k + 1)) (nc + 1 + 1 + 1) (ns + 4 + 16 + groF 16 (0 + kk)) (some M.1.1) (nI j) (nI mn) back (nI a) (nI i) (some o) u G5 := by
            intro u nu hu hnu
            have c2 := cap_facts (capF 16 (0 + kk)) (0 + kk + nu)
            have b2 := c2.2.2.2 192 (by omega) (by omega)
            refine ⟨1, groF (capF 16 (0 + kk)) (0 + kk + nu), by omega, by omega, SB_rcv g5 (a_appS hu (by omega) x5 g5 (by omega) (by omega) (Nat.le_refl _) (Nat.le_refl _) (fun G6 v6 x6 g6 => ?_))⟩
            generalize hc6 : capF (capF 16 (0 + kk)) (0 + kk + nu) = cc6 at g6 c2 b2
            have c3 := cap_facts cc6 (0 + kk + nu + szF (nI a))
            have b3 := c3.2.2.2 192 (by omega) (by omega)
            refine ⟨1, groF cc6 (0 + kk + nu + szF (nI a)), by omega, by omega, SB_rcv g6 (a_appI hK hat x6 g6 (by omega) (by omega) (Nat.le_refl _) (Nat.le_refl _) (fun G7 v7 x7 g7 => ?_))⟩
            generalize hc7 : capF cc6 (0 + kk + nu + szF (nI a)) = cc7 at g7 c3 b3
            have c4 := cap_facts cc7 (0 + kk + nu + szF (nI a) + 1)
            have b4 := c4.2.2.2 192 (by omega) (by omega)
            refine ⟨1, groF cc7 (0 + kk + nu + szF (nI a) + 1), by omega, by omega, SB_rcv g7 (a_appS (STR_K hK.2.2.2.1) (by omega) x7 g7 (by omega) (by omega) (Nat.le_refl _) (Nat.le_refl _) (fun G8 v8 x8 g8 => ?_))⟩
            generalize hc8 : capF cc7 (0 + kk + nu + szF (nI a) + 1) = cc8 at g8 c4 b4
            have m8 := MoR_ext g3 x8
            refine m_rcv m8 (m_value m8 hj hs han ⟨6, 27, by omega, by omega, a_shown hK (h.1.2.2 r _ hr3 (by omega)) (Nat.le_refl _) (Nat.le_refl _) (fun rs G9 n9 x9 st9 hn9 => ?_)⟩)
            have g9 := SB_ext g8 x9
            have c5 := cap_facts cc8 (0 + kk + nu + szF (nI a) + 1 + n9)
            have b5 := c5.2.2.2 192 (by omega) (by omega)
            refine ⟨1, groF cc8 (0 + kk + nu + szF (nI a) + 1 + n9), by omega, by omega, SB_rcv g9 (a_appS st9 (by omega) (ext_tr x8 x9) g9 (by omega) (by omega) (Nat.le_refl _) (Nat.le_refl _) (fun Ga va xa ga => ?_))⟩
            generalize hc9 : capF cc8 (0 + kk + nu + szF (nI a) + 1 + n9) = cc9 at ga c5 b5
            refine ⟨2, 4 + (0 + kk + nu + szF (nI a) + 1 + n9), by omega, by omega, SB_rcv ga (a_toString ga (by omega) (Nat.le_refl _) (Nat.le_refl _) (fun s Gb xb gb => ?_))⟩
            have next : ∀ at9 : Int32, w_X3_walk_60 K mc ms post (k + 1) (nc + 1 + 1 + 1 + 1 + 1 + 1 + 6 + 1 + 2) (ns + 4 + 16 + groF 16 (0 + kk) + groF (capF 16 (0 + kk)) (0 + kk + nu) + groF cc6 (0 + kk + nu + szF (nI a)) + groF cc7 (0 + kk + nu + szF (nI a) + 1) + 27 + groF cc8 (0 + kk + nu + szF (nI a) + 1 + n9) + (4 + (0 + kk + nu + szF (nI a) + 1 + n9))) (some M.1.1) (nI j) (nI mn) back (some s) at9 (nI i + 1) Gb := fun at9 => by
              rw [nI_1]
              exact ih (i + 1) _ _ (0 + kk + nu + szF (nI a) + 1 + n9) at9 (some s) Gb (by omega) (by omega) (by omega) (by omega) gb (ext_tr x3 (ext_tr xa xb))
            exact ⟨fun _ => next _, fun _ => next _⟩
          exact s_rcv (STR_ext hst x5) (s_isEmpty (STR_ext hst x5) (by omega) ⟨fun _ => rest _ 1 (STR_K hK.2.2.1) (by omega), fun _ => rest _ 0 (STR_K hK.2.1) (by omega)⟩)
      exact ⟨fun _ => ⟨mn + 1, main mn 0 0 0 0 _ _ G1 (by omega) (by omega) (by omega) (by omega) (STR_K hK.2.1) (ext_rf _)⟩, fun _ => ⟨mn + 1, main mn 0 0 0 0 _ _ G1 (by omega) (by omega) (by omega) (by omega) (STR_K hK.2.1) (ext_rf _)⟩⟩
    refine m_rcv h (m_isBeyond h (fun c => ?_) (fun j2 r2 b2 n2 hj2 ev2 hs2 q => ⟨fun _ => hbad (fun z => q ?_), fun z => absurd z (by decide)⟩) (fun j2 r2 b2 n2 hj2 ev2 hs2 q => ⟨fun z => absurd rfl z, fun _ => m_isIn (fun hx => ⟨fun _ => hgood ?_ hx, fun z => absurd z (by decide)⟩) (fun hx => ⟨fun z => absurd rfl z, fun _ => hbad (fun z => hx z.2)⟩)⟩))
    · rw [ec] at c; cases c
    · rw [other hj2 ev2 hs2]; exact z.1
    · rw [other hj2 ev2 hs2] at q; exact q
end STC
end
section
/-! texts: the class's -/
def vzF (x : Int32) : Nat := if x = -1000 then 1 else szF x
theorem vzF_in (x : Int32) : 1 ≤ vzF x ∧ vzF x ≤ 3 := by
  unfold vzF
  split
  · omega
  · exact szF_in x
section STD
variable {K : tK} {G : tG} {L : tL} {S : tS} {postX : String → tG → Prop}
theorem c_appendValue {pv : tG → Prop} {G0 : tG} {o v c k mc ms : Nat} {x : Int32} (hK : KOK K) (hx : okV x) (h0 : ext G0 G) (h : SB G0 G o v c k) (hc : c < 5000) (hk : k < 1000) (hmc : 1 ≤ mc) (hms : groF c (k + vzF x) ≤ ms) (hp : ∀ G' v', ext G0 G' → SB G0 G' o v' (capF c (k + vzF x)) (k + vzF x) → pv G') : w_X1_appendValue K mc ms pv (some o) x G := by
  unfold vzF at hms hp
  refine ⟨fun q => ?_, fun q => ?_⟩
  · rw [if_neg q] at hms hp
    exact ⟨mc, ms, by omega, by omega, SB_rcv h (a_appI hK (hx.resolve_left q) h0 h hc hk hmc hms (fun G1 v1 x1 h1 => hp G1 v1 x1 h1))⟩
  · rw [if_pos q] at hms hp
    exact ⟨mc, ms, by omega, by omega, SB_rcv h (a_appC (by decide) h0 h hc hk hmc hms (fun G1 v1 x1 h1 => hp G1 v1 x1 h1))⟩
theorem c_textOf {post : Option Nat → tG → Prop} {o v b n N a st mc ms : Nat} {rr : Int32} {f : Nat → Int32} {back hpl9 : Int32} (hK : KOK K) (ho : G o = some (oRL rr v b n)) (hv : G v = some (eI N f)) (hN : N < 2 ^ 31) (hb : b + n ≤ N) (hok : ∀ i, i < n → okV (f (b + i))) (hn : n ≤ 12) (hst : st ≤ 12) (hpl : ∀ i, i < st → plF a back i < n ∧ (back ≠ 0 → i < a)) (hmc : 60 ≤ mc) (hms : 500 ≤ ms) (hp : ∀ s G', ext G G' → post (some s) G') : w_X1_textOf K mc ms post (some o) (nI a) (nI st) back hpl9 G := by
  refine ⟨⟨by omega, by omega⟩, fun q hq => ⟨1, 16, by omega, by omega, ⟨q, rfl⟩, a_init (G0 := G) hq (fun a ha => tg_n _ _ ha) (tg_s _ _ _) (Nat.le_refl _) (Nat.le_refl _) (fun G1 v1 x1 h1 => ?_)⟩⟩
  have main : ∀ (k i nc ns c kk v2 : Nat) (G2 : tG), i + k = st → nc ≤ 2 + 4 * i → ns + 16 ≤ 4 + 2 * c → c ≤ 192 → kk ≤ 8 * i → ext G G2 → SB G G2 q v2 c kk → w_X1_textOf_12 K mc ms post (k + 1) nc ns (some o) (nI a) (nI st) back hpl9 (some q) (nI i) G2 := by
    intro k
    induction k with
    | zero =>
      intro i nc ns c kk v2 G2 hi hnc hns hc hkk x2 h2
      show w_X1_textOf_12_b K mc ms post (w_X1_textOf_12 K mc ms post 0) nc ns (some o) (nI a) (nI st) back hpl9 (some q) (nI i) G2
      have e : i = st := by omega
      subst e
      exact ⟨fun _ => ⟨2, 4 + kk, by omega, by omega, SB_rcv h2 (a_toString h2 (by omega) (Nat.le_refl _) (Nat.le_refl _) (fun s G3 x3 _ => hp s G3 (ext_tr x2 x3)))⟩, fun z => absurd (nI_le (by omega) (by omega)) z⟩
    | succ k ih =>
      intro i nc ns c kk v2 G2 hi hnc hns hc hkk x2 h2
      show w_X1_textOf_12_b K mc ms post (w_X1_textOf_12 K mc ms post (k + 1)) nc ns (some o) (nI a) (nI st) back hpl9 (some q) (nI i) G2
      have hq := hpl i (by omega)
      refine ⟨fun z => absurd z (nI_ge (by omega) (by omega)), fun _ => c_placeAfter hq.2 ?_⟩
      generalize plF a back i = p9 at hq
      have hat : inR (nI p9) (-99) 99 := ⟨by rw [i32_lt, nI_toInt (by omega)]; have : (-99 : Int32).toInt = -99 := rfl; omega, by rw [i32_le, nI_toInt (by omega)]; have : (99 : Int32).toInt = 99 := rfl; omega⟩
      have hz := szF_in (nI p9)
      -- the value at the end of a step
      have s61 : ∀ (nc' ns' c' kk' v3 : Nat) (G3 : tG), nc' ≤ 2 + 4 * i + 3 → ns' + 16 ≤ 4 + 2 * c' → c' ≤ 192 → kk' ≤ 8 * i + 5 → ext G G3 → SB G G3 q v3 c' kk' → w_X1_textOf_61 K mc ms post (w_X1_textOf_12 K mc ms post (k + 1)) nc' ns' (some o) (nI a) (nI st) back hpl9 (some q) (nI i) (nI p9) G3 := by
        intro nc' ns' c' kk' v3 G3 hnc' hns' hc' hkk' x3 h3
        have hv3 := vzF_in (f (b + p9))
        have cf := cap_facts c' (kk' + vzF (f (b + p9)))
        have b4 := cf.2.2.2 192 (by omega) (by omega)
        refine rcv_i (x3 _ _ ho) (l_read (x3 _ _ ho) (x3 _ _ hv) rfl (by omega) hN ⟨1, groF c' (kk' + vzF (f (b + p9))), by omega, by omega, c_appendValue hK (hok _ hq.1) x3 h3 (by omega) (by omega) (Nat.le_refl _) (Nat.le_refl _) (fun G4 v4 x4 h4 => ?_)⟩)
        rw [nI_1]
        exact ih (i + 1) _ _ _ _ v4 G4 (by omega) (by omega) (by omega) b4 (by omega) x4 h4
      have s40 : ∀ (nc' ns' c' kk' v3 : Nat) (G3 : tG), nc' ≤ 2 + 4 * i + 1 → ns' + 16 ≤ 4 + 2 * c' → c' ≤ 192 → kk' ≤ 8 * i + 1 → ext G G3 → SB G G3 q v3 c' kk' → w_X1_textOf_40 K mc ms post (w_X1_textOf_12 K mc ms post (k + 1)) nc' ns' (some o) (nI a) (nI st) back hpl9 (some q) (nI i) (nI p9) G3 := by
        intro nc' ns' c' kk' v3 G3 hnc' hns' hc' hkk' x3 h3
        refine ⟨fun _ => s61 nc' ns' c' kk' v3 G3 (by omega) hns' hc' (by omega) x3 h3, fun _ => ?_⟩
        have cf := cap_facts c' (kk' + szF (nI p9))
        have b4 := cf.2.2.2 192 (by omega) (by omega)
        refine ⟨1, groF c' (kk' + szF (nI p9)), by omega, by omega, SB_rcv h3 (a_appI hK hat x3 h3 (by omega) (by omega) (Nat.le_refl _) (Nat.le_refl _) (fun G4 v4 x4 h4 => ?_))⟩
        have cg := cap_facts (capF c' (kk' + szF (nI p9))) (kk' + szF (nI p9) + 1)
        have b5 := cg.2.2.2 192 (by omega) (by omega)
        refine ⟨1, groF (capF c' (kk' + szF (nI p9))) (kk' + szF (nI p9) + 1), by omega, by omega, SB_rcv h4 (a_appC (by decide) x4 h4 (by omega) (by omega) (Nat.le_refl _) (Nat.le_refl _) (fun G5 v5 x5 h5 => ?_))⟩
        exact s61 _ _ _ _ v5 G5 (by omega) (by omega) b5 (by omega) x5 h5
      refine ⟨fun _ => s40 nc ns c kk v2 G2 (by omega) hns hc (by omega) x2 h2, fun _ => ?_⟩
      have cf := cap_facts c (kk + 1)
      have b4 := cf.2.2.2 192 (by omega) (by omega)
      exact ⟨1, groF c (kk + 1), by omega, by omega, SB_rcv h2 (a_appC (by decide) x2 h2 (by omega) (by omega) (Nat.le_refl _) (Nat.le_refl _) (fun G4 v4 x4 h4 => s40 _ _ _ _ v4 G4 (by omega) (by omega) b4 (by omega) x4 h4))⟩
  exact ⟨st + 1, main st 0 _ _ 16 0 v1 G1 (by omega) (by omega) (by omega) (by omega) (by omega) x1 h1⟩
theorem c_text {post : Option Nat → tG → Prop} {v : Int32} {mc ms : Nat} (hK : KOK K) (h : TwR G L S) (hmc : 70 ≤ mc) (hms : 600 ≤ ms) (h1 : S_at S v = none → postX "java/lang/IndexOutOfBoundsException" G) (h0 : ∀ r b n, S_at S v = some (r, b, n) → ∀ x G', fr (clsW L) G G' → TwR G' L S → post x G') : w_X1_text K mc ms post postX (some L.1) v G := by
  refine ⟨⟨by omega, by omega⟩, c_rcv h (c_listAt h h1 (fun o r b n c1 c2 c3 c4 => gfI_i c2 rfl ⟨60, 500, by omega, by omega, ?_⟩))⟩
  exact c_textOf (a := 0) hK c2 (h.2.2.2.1 r c3) (by decide) c4 (fun i hi => h.1.2.2 r _ c3 (by omega)) (by omega) (by omega) (fun i hi => ⟨by unfold plF; rw [if_pos rfl]; omega, fun z => absurd rfl z⟩) (Nat.le_refl _) (Nat.le_refl _) (fun s G' x => h0 r b n c1 _ G' (ext_fr x _) (TwR_ext h x))
theorem c_back {post : Option Nat → tG → Prop} {v : Int32} {mc ms : Nat} (hK : KOK K) (h : TwR G L S) (hmc : 70 ≤ mc) (hms : 600 ≤ ms) (h1 : S_at S v = none → postX "java/lang/IndexOutOfBoundsException" G) (h0 : ∀ r b n, S_at S v = some (r, b, n) → ∀ x G', fr (clsW L) G G' → TwR G' L S → post x G') : w_X1_back K mc ms post postX (some L.1) v G := by
  refine ⟨⟨by omega, by omega⟩, c_rcv h (c_listAt h h1 (fun o r b n c1 c2 c3 c4 => gfI_i c2 rfl (gfI_i c2 rfl ⟨60, 500, by omega, by omega, ?_⟩)))⟩
  exact c_textOf (a := n) hK c2 (h.2.2.2.1 r c3) (by decide) c4 (fun i hi => h.1.2.2 r _ c3 (by omega)) (by omega) (by omega) (fun i hi => ⟨by unfold plF; rw [if_neg (by decide)]; omega, fun _ => hi⟩) (Nat.le_refl _) (Nat.le_refl _) (fun s G' x => h0 r b n c1 _ G' (ext_fr x _) (TwR_ext h x))
theorem c_walk {post : Option Nat → tG → Prop} {v p many back : Int32} {mc ms : Nat} (hK : KOK K) (h : TwR G L S) (hmc : 70 ≤ mc) (hms : 600 ≤ ms) (h1 : S_at S v = none → postX "java/lang/IndexOutOfBoundsException" G) (h2 : ∀ r b n, S_at S v = some (r, b, n) → ¬ (inR p 0 (nI n) ∧ inR many 0 12) → postX "java/lang/IllegalArgumentException" G) (h0 : ∀ r b n, S_at S v = some (r, b, n) → inR p 0 (nI n) → inR many 0 12 → ∀ x G', fr (clsW L) G G' → TwR G' L S → post x G') : w_X1_walk K mc ms post postX (some L.1) v p many back G := by
  refine ⟨⟨by omega, by omega⟩, c_rcv h (c_listAt h h1 (fun o r b n c1 c2 c3 c4 => gfI_i c2 rfl ⟨⟨by omega, by omega⟩, c_checkNumber (fun q1 => ⟨⟨by omega, by omega⟩, c_checkNumber (fun q2 => ?_) (fun q2 => h2 r b n c1 (fun z => q2 z.2))⟩) (fun q1 => h2 r b n c1 (fun z => q1 z.1))⟩))⟩
  have hz0 := h0 r b n c1 q1 q2
  obtain ⟨a, ha, rfl⟩ := nI_of2 (nI_toInt (n := n) (by omega)) q1.1 q1.2
  obtain ⟨mn, hmn, rfl⟩ := nI_of2 (M := 12) (n := 12) rfl q2.1 q2.2
  have fin : ∀ sl : Nat, sl ≤ n → (∀ i, i < sl → plF a back i < n ∧ (back ≠ 0 → i < a)) → bud (0 + 1 + 1 + 1) (0 + 6 + 6 + 6) mc ms (fun mc_46 ms_46 => w_X1_textOf K mc_46 ms_46 (fun x_46 G_46 => post x_46 G_46) (some o) (nI a) (if nI sl < nI mn then nI sl else nI mn) back 1 G) := fun sl hsl hpl => by
    have e : (if nI sl < nI mn then nI sl else nI mn) = nI (min sl mn) := by
      by_cases c : sl < mn
      · rw [if_pos (nI_lt c (by omega)), Nat.min_eq_left (by omega)]
      · rw [if_neg (nI_nlt (by omega) (by omega)), Nat.min_eq_right (by omega)]
    rw [e]
    refine ⟨60, 500, by omega, by omega, ?_⟩
    exact c_textOf (a := a) hK c2 (h.2.2.2.1 r c3) (by decide) c4 (fun i hi => h.1.2.2 r _ c3 (by omega)) (by omega) (by omega) (fun i hi => hpl i (by omega)) (Nat.le_refl _) (Nat.le_refl _) (fun s G' x => hz0 _ G' (ext_fr x _) (TwR_ext h x))
  refine ⟨fun cb => gfI_i c2 rfl ?_, fun cb => ?_⟩
  · show bud (0 + 1 + 1 + 1) (0 + 6 + 6 + 6) mc ms (fun mc_46 ms_46 => w_X1_textOf K mc_46 ms_46 (fun x_46 G_46 => post x_46 G_46) (some o) (nI a) (if (nI n - nI a) < nI mn then (nI n - nI a) else nI mn) back 1 G)
    rw [nI_subN ha]
    exact fin (n - a) (by omega) (fun i hi => ⟨by unfold plF; rw [if_pos cb]; omega, fun z => absurd cb z⟩)
  · exact fin a ha (fun i hi => ⟨by unfold plF; rw [if_neg cb]; omega, fun _ => hi⟩)
end STD
end
section
/-! the class, the model and the law's own cell together -/
theorem tg_none {G : tG} {a b : Nat} {e : tE} (h : tg_up G a e b = none) : b ≠ a ∧ G b = none := by
  by_cases c : b = a
  · rw [c, tg_s] at h; cases h
  · rw [tg_n _ _ c] at h; exact ⟨c, h⟩
theorem tg_up_up (G : tG) (a : Nat) (e e' : tE) : tg_up (tg_up G a e) a e' = tg_up G a e' := by
  funext b
  by_cases c : b = a
  · rw [c, tg_s, tg_s]
  · rw [tg_n _ _ c, tg_n _ _ c, tg_n _ _ c]
theorem TwR_some {G : tG} {L : tL} {S : tS} (h : TwR G L S) {q : Nat} (hq : clsW L q) : ∃ e, G q = some e := by
  obtain ⟨h1, ⟨lf, h2, h3, h4⟩, ⟨g, h5⟩, h6, -, -⟩ := h
  rcases hq with e | e | e | e | e | e <;> subst e
  · exact ⟨_, h2⟩
  · exact ⟨_, h3⟩
  · exact ⟨_, h5⟩
  · exact ⟨_, h6 0 (by omega)⟩
  · exact ⟨_, h6 1 (by omega)⟩
  · exact ⟨_, h6 2 (by omega)⟩
theorem MoC_obj {G : tG} {M : tM} {S : tS} {th : Int32} (h : MoC G M S th) {q ci : Nat} {fs : List Value} (hq : G q = some (.inr (ci, fs))) (hci : ci ≠ 5) : ¬ moW M q := by
  obtain ⟨⟨sm, h2⟩, ⟨mf, h3, -⟩, ⟨fo, fb, fl, ⟨h5, h6, h7⟩, -⟩, h9, -⟩ := h
  rintro (e | e | e | e | e | e | e | e) <;> subst e
  · rw [h2] at hq; cases hq; exact hci rfl
  · rw [h3] at hq; cases hq
  · rw [h5] at hq; cases hq
  · rw [h6] at hq; cases hq
  · rw [h7] at hq; cases hq
  · obtain ⟨f, g, -⟩ := h9 0 (by omega); rw [g] at hq; cases hq
  · obtain ⟨f, g, -⟩ := h9 1 (by omega); rw [g] at hq; cases hq
  · obtain ⟨f, g, -⟩ := h9 2 (by omega); rw [g] at hq; cases hq
abbrev oOut (n : Int64) (s : Value) : tE := .inr (4, [.long n, s])
/-- the class's rows S, the model's rows S', what the model threw, what Out holds -/
def Bo (G : tG) (L : tL) (M : tM) (S S' : tS) (th : Int32) (u : Nat) (n : Int64) (s : Value) : Prop := TwR G L S ∧ MoR G M S' th ∧ G u = some (oOut n s) ∧ ∀ q, clsW L q → ¬ moW M q
section BOA
variable {G : tG} {L : tL} {M : tM} {S S' : tS} {th : Int32} {u : Nat} {n : Int64} {s : Value}
theorem Bo_cls {G' : tG} {S2 : tS} (h : Bo G L M S S' th u n s) (hf : fr (clsW L) G G') (ht : TwR G' L S2) : Bo G' L M S2 S' th u n s := by
  obtain ⟨h1, h2, h3, h4⟩ := h
  exact ⟨ht, MoR_fr h2 hf (fun q hq hc => h4 q hc hq), hf _ _ h3 (TwR_obj h1 h3 (by decide)), h4⟩
theorem Bo_mod {G' : tG} {M' : tM} {S2 : tS} {th2 : Int32} (h : Bo G L M S S' th u n s) (hf : fr (moW M) G G') (hw : ∀ q, moW M' q → moW M q ∨ G q = none) (ht : MoR G' M' S2 th2) : Bo G' L M' S S2 th2 u n s := by
  obtain ⟨h1, h2, h3, h4⟩ := h
  refine ⟨TwR_fr h1 hf h4 (fun q fs hq hg => MoC_obj (MoR_C h2) hg (by decide) hq), ht, hf _ _ h3 (MoC_obj (MoR_C h2) h3 (by decide)), fun q hq hm => ?_⟩
  rcases hw q hm with c | c
  · exact h4 q hq c
  · obtain ⟨e, he⟩ := TwR_some h1 hq
    rw [c] at he; cases he
theorem Bo_out (h : Bo G L M S S' th u n s) (n2 : Int64) (s2 : Value) : Bo (tg_up G u (oOut n2 s2)) L M S S' th u n2 s2 := by
  obtain ⟨h1, h2, h3, h4⟩ := h
  have hu : ¬ clsW L u := TwR_obj h1 h3 (by decide)
  have hm : ¬ moW M u := MoC_obj (MoR_C h2) h3 (by decide)
  refine ⟨TwR_fr (P := fun q => q = u) h1 (fr_up _ rfl) (fun q hq e => hu (e ▸ hq)) (fun q fs e hg => ?_), MoR_fr (P := fun q => q = u) h2 (fr_up _ rfl) (fun q hq e => hm (e ▸ hq)), tg_s _ _ _, h4⟩
  rw [e, h3] at hg; cases hg
/-- what a wrapper makes of the class's answer: an int -/
theorem L_res {a : tA} {post : Int32 → tG → Prop} (h : Bo G L M S S' th u n s) (ha : a.1 < 3) (hp : ∀ G' n', Bo G' L M a.2.2 S' th u n' s → (a.1 = 0 → n' = a.2.1.toInt64) → post (nI a.1) G') : tRes L G (fun x G_6 => pfV G_6 (some u) 4 0 (.long x.toInt64) (fun G_10 => post 0 G_10)) (fun E GX => ((E = "java/lang/IndexOutOfBoundsException" → post 1 GX) ∧ (¬ E = "java/lang/IndexOutOfBoundsException" → ((E = "java/lang/IllegalArgumentException" → post 2 GX) ∧ (¬ E = "java/lang/IllegalArgumentException" → False))))) a := by
  intro G' f h'
  have hb := Bo_cls h f h'
  refine ⟨fun e => ?_, fun e => ⟨fun _ => ?_, fun z => absurd rfl z⟩, fun e => ⟨fun z => absurd z (by decide), fun _ => ⟨fun _ => ?_, fun z => absurd rfl z⟩⟩⟩
  · refine pfV_i hb.2.2.1 (Nat.le_of_ble_eq_true rfl) ?_
    have := hp _ _ (Bo_out hb a.2.1.toInt64 s) (fun _ => rfl)
    rw [e] at this; exact this
  · have := hp _ _ hb (fun z => absurd (e.symm.trans z) (by decide))
    rw [e] at this; exact this
  · have := hp _ _ hb (fun z => absurd (e.symm.trans z) (by decide))
    rw [e] at this; exact this
/-- an int, one kind of refusal alone -/
theorem L_res1 {a : tA} {post : Int32 → tG → Prop} (h : Bo G L M S S' th u n s) (ha : a.1 < 2) (hp : ∀ G' n', Bo G' L M a.2.2 S' th u n' s → (a.1 = 0 → n' = a.2.1.toInt64) → post (nI a.1) G') : tRes L G (fun x G_6 => pfV G_6 (some u) 4 0 (.long x.toInt64) (fun G_10 => post 0 G_10)) (fun E GX => ((E = "java/lang/IndexOutOfBoundsException" → post 1 GX) ∧ (¬ E = "java/lang/IndexOutOfBoundsException" → False))) a := by
  intro G' f h'
  have hb := Bo_cls h f h'
  refine ⟨fun e => ?_, fun e => ⟨fun _ => ?_, fun z => absurd rfl z⟩, fun e => absurd e (by omega)⟩
  · refine pfV_i hb.2.2.1 (Nat.le_of_ble_eq_true rfl) ?_
    have := hp _ _ (Bo_out hb a.2.1.toInt64 s) (fun _ => rfl)
    rw [e] at this; exact this
  · have := hp _ _ hb (fun z => absurd (e.symm.trans z) (by decide))
    rw [e] at this; exact this
/-- an int, the other kind of refusal alone, told as 1 -/
theorem L_res2 {a : tA} {post : Int32 → tG → Prop} (h : Bo G L M S S' th u n s) (ha : a.1 = 0 ∨ a.1 = 2) (hp : ∀ G' n', Bo G' L M a.2.2 S' th u n' s → (a.1 = 0 → n' = a.2.1.toInt64) → post (if a.1 = 0 then 0 else 1) G') : tRes L G (fun x G_6 => pfV G_6 (some u) 4 0 (.long x.toInt64) (fun G_10 => post 0 G_10)) (fun E GX => ((E = "java/lang/IllegalArgumentException" → post 1 GX) ∧ (¬ E = "java/lang/IllegalArgumentException" → False))) a := by
  intro G' f h'
  have hb := Bo_cls h f h'
  refine ⟨fun e => ?_, fun e => absurd e (by omega), fun e => ⟨fun _ => ?_, fun z => absurd rfl z⟩⟩
  · refine pfV_i hb.2.2.1 (Nat.le_of_ble_eq_true rfl) ?_
    have := hp _ _ (Bo_out hb a.2.1.toInt64 s) (fun _ => rfl)
    rw [e] at this; exact this
  · have := hp _ _ hb (fun z => absurd (e.symm.trans z) (by decide))
    rw [e] at this; exact this
/-- a truth value -/
theorem L_resB {a : tA} {post : Int32 → tG → Prop} (h : Bo G L M S S' th u n s) (ha : a.1 < 3) (hp : ∀ G' n', Bo G' L M a.2.2 S' th u n' s → (a.1 = 0 → n' = if a.2.1 = 0 then 0 else 1) → post (nI a.1) G') : tRes L G (fun x G_4 => ((x = 0 → pfV G_4 (some u) 4 0 (.long 0) (fun G_15 => post 0 G_15)) ∧ (¬ x = 0 → pfV G_4 (some u) 4 0 (.long 1) (fun G_15 => post 0 G_15)))) (fun E GX => ((E = "java/lang/IndexOutOfBoundsException" → post 1 GX) ∧ (¬ E = "java/lang/IndexOutOfBoundsException" → ((E = "java/lang/IllegalArgumentException" → post 2 GX) ∧ (¬ E = "java/lang/IllegalArgumentException" → False))))) a := by
  intro G' f h'
  have hb := Bo_cls h f h'
  refine ⟨fun e => ⟨fun c => ?_, fun c => ?_⟩, fun e => ⟨fun _ => ?_, fun z => absurd rfl z⟩, fun e => ⟨fun z => absurd z (by decide), fun _ => ⟨fun _ => ?_, fun z => absurd rfl z⟩⟩⟩
  · refine pfV_i hb.2.2.1 (Nat.le_of_ble_eq_true rfl) ?_
    have := hp _ _ (Bo_out hb 0 s) (fun _ => by rw [if_pos c])
    rw [e] at this; exact this
  · refine pfV_i hb.2.2.1 (Nat.le_of_ble_eq_true rfl) ?_
    have := hp _ _ (Bo_out hb 1 s) (fun _ => by rw [if_neg c])
    rw [e] at this; exact this
  · have := hp _ _ hb (fun z => absurd (e.symm.trans z) (by decide))
    rw [e] at this; exact this
  · have := hp _ _ hb (fun z => absurd (e.symm.trans z) (by decide))
    rw [e] at this; exact this
theorem L_resB1 {a : tA} {post : Int32 → tG → Prop} (h : Bo G L M S S' th u n s) (ha : a.1 < 2) (hp : ∀ G' n', Bo G' L M a.2.2 S' th u n' s → (a.1 = 0 → n' = if a.2.1 = 0 then 0 else 1) → post (nI a.1) G') : tRes L G (fun x G_4 => ((x = 0 → pfV G_4 (some u) 4 0 (.long 0) (fun G_15 => post 0 G_15)) ∧ (¬ x = 0 → pfV G_4 (some u) 4 0 (.long 1) (fun G_15 => post 0 G_15)))) (fun E GX => ((E = "java/lang/IndexOutOfBoundsException" → post 1 GX) ∧ (¬ E = "java/lang/IndexOutOfBoundsException" → False))) a := by
  intro G' f h'
  have hb := Bo_cls h f h'
  refine ⟨fun e => ⟨fun c => ?_, fun c => ?_⟩, fun e => ⟨fun _ => ?_, fun z => absurd rfl z⟩, fun e => absurd e (by omega)⟩
  · refine pfV_i hb.2.2.1 (Nat.le_of_ble_eq_true rfl) ?_
    have := hp _ _ (Bo_out hb 0 s) (fun _ => by rw [if_pos c])
    rw [e] at this; exact this
  · refine pfV_i hb.2.2.1 (Nat.le_of_ble_eq_true rfl) ?_
    have := hp _ _ (Bo_out hb 1 s) (fun _ => by rw [if_neg c])
    rw [e] at this; exact this
  · have := hp _ _ hb (fun z => absurd (e.symm.trans z) (by decide))
    rw [e] at this; exact this
/-- the model's answer -/
theorem L_mod {a : tA} {post : Int32 → tG → Prop} (h : Bo G L M S S' th u n s) (hp : ∀ G' M', M'.1 = M.1 → Bo G' L M' S a.2.2 (nI a.1) u n s → post a.2.1 G') : mRes M G post a := by
  intro G' M' e f w h'
  exact hp G' M' e (Bo_mod h f w h')
end BOA
/-! the model's constructor -/
def foI : Nat → Int32 := upd (upd (upd (upd (upd (upd (upd (fun _ => 0) 0 0) 1 1) 2 2) 3 (-1)) 4 (-1)) 5 (-1)) 6 (-1)
def flI : Nat → Int32 := upd (upd (upd (upd (upd (upd (upd (fun _ => 0) 0 4) 1 4) 2 4) 3 0) 4 0) 5 0) 6 0
theorem m_init {K : tK} {G : tG} {x : Nat} {pv : tG → Prop} (hx : G x = some (.inr (5, [.null, .null, .null, .null, .int 0, .int 0, .int 0, .long 0]))) (hp : ∀ G' M, M.1.1 = x → MoR G' M S_0 0 → fr (fun q => q = x) G G' → (∀ q, moW M q → q = x ∨ G q = none) → pv G') : w_X3_init K pv (some x) G := by
  refine ⟨⟨x, rfl⟩, 3, rfl, by omega, fun A hA => ?_⟩
  have xA : x ≠ A := fun z => by rw [← z, hx] at hA; cases hA
  refine ⟨4, rfl, by omega, fun p0 hp0 => ⟨(fun z => (by cases z)), ?_⟩⟩
  obtain ⟨a0, g0⟩ := tg_none hp0
  have x0 : x ≠ p0 := fun z => by rw [← z, hx] at g0; cases g0
  refine asR_i (j := 0) (tg_keep (tg_s _ _ _) (fun z => a0 z.symm)) rfl (by omega) (by omega) (Or.inr ⟨p0, _, rfl, tg_s _ _ _, ⟨_, rfl⟩⟩) ?_
  refine ⟨4, rfl, by omega, fun p1 hp1 => ⟨(fun z => (by cases z)), ?_⟩⟩
  obtain ⟨a1, b1⟩ := tg_none hp1
  obtain ⟨n10, b1⟩ := tg_none b1
  obtain ⟨-, g1⟩ := tg_none b1
  have x1 : x ≠ p1 := fun z => by rw [← z, hx] at g1; cases g1
  refine asR_i (j := 1) (tg_keep (tg_s _ _ _) (fun z => a1 z.symm)) rfl (by omega) (by omega) (Or.inr ⟨p1, _, rfl, tg_s _ _ _, ⟨_, rfl⟩⟩) ?_
  refine ⟨4, rfl, by omega, fun p2 hp2 => ⟨(fun z => (by cases z)), ?_⟩⟩
  obtain ⟨a2, b2⟩ := tg_none hp2
  obtain ⟨n21, b2⟩ := tg_none b2
  obtain ⟨-, b2⟩ := tg_none b2
  obtain ⟨n20, b2⟩ := tg_none b2
  obtain ⟨-, g2⟩ := tg_none b2
  have x2 : x ≠ p2 := fun z => by rw [← z, hx] at g2; cases g2
  refine asR_i (j := 2) (tg_keep (tg_s _ _ _) (fun z => a2 z.symm)) rfl (by omega) (by omega) (Or.inr ⟨p2, _, rfl, tg_s _ _ _, ⟨_, rfl⟩⟩) ?_
  -- what stands now
  generalize hG7 : tg_up (tg_up (tg_up (tg_up (tg_up (tg_up (tg_up G A _) p0 _) A _) p1 _) A _) p2 _) A _ = G7
  have kx : G7 x = some (.inr (5, [.null, .null, .null, .null, .int 0, .int 0, .int 0, .long 0])) := by
    rw [← hG7, tg_n _ _ xA, tg_n _ _ x2, tg_n _ _ xA, tg_n _ _ x1, tg_n _ _ xA, tg_n _ _ x0, tg_n _ _ xA]; exact hx
  have kA : ∃ mf, G7 A = some (eR mf) ∧ mf 0 = some p0 ∧ mf 1 = some p1 ∧ mf 2 = some p2 := by
    rw [← hG7, tg_s]
    exact ⟨_, rfl, rfl, rfl, rfl⟩
  have k0 : G7 p0 = some (eI 4 fun _ => 0) := by
    rw [← hG7, tg_n _ _ a0, tg_n _ _ n20.symm, tg_n _ _ a0, tg_n _ _ n10.symm, tg_n _ _ a0, tg_s]
  have k1 : G7 p1 = some (eI 4 fun _ => 0) := by
    rw [← hG7, tg_n _ _ a1, tg_n _ _ n21.symm, tg_n _ _ a1, tg_s]
  have k2 : G7 p2 = some (eI 4 fun _ => 0) := by
    rw [← hG7, tg_n _ _ a2, tg_s]
  have kf : fr (fun q => q = x) G G7 := fun q e hq _ => by
    have hn : ∀ y, G y = none → q ≠ y := fun y hy z => by rw [z, hy] at hq; cases hq
    rw [← hG7, tg_n _ _ (hn A hA), tg_n _ _ (hn p2 g2), tg_n _ _ (hn A hA), tg_n _ _ (hn p1 g1), tg_n _ _ (hn A hA), tg_n _ _ (hn p0 g0), tg_n _ _ (hn A hA)]; exact hq
  have kn : ∀ q, G7 q = none → G q = none := fun q hq => by
    rw [← hG7] at hq
    obtain ⟨-, hq⟩ := tg_none hq
    obtain ⟨-, hq⟩ := tg_none hq
    obtain ⟨-, hq⟩ := tg_none hq
    obtain ⟨-, hq⟩ := tg_none hq
    obtain ⟨-, hq⟩ := tg_none hq
    obtain ⟨-, hq⟩ := tg_none hq
    exact (tg_none hq).2
  clear hG7 hp0 hp1 hp2
  obtain ⟨mf, kA, m0, m1, m2⟩ := kA
  refine pfV_i kx (Nat.le_of_ble_eq_true rfl) ⟨7, rfl, by omega, fun fo hfo => ?_⟩
  obtain ⟨xfo, hfo⟩ := tg_none hfo
  have nefo : ∀ {y e}, G7 y = some e → y ≠ fo := fun hy z => by rw [z, hfo] at hy; cases hy
  refine asI_i (j := 0) (tg_s _ _ _) rfl (by omega) (by omega) ?_
  rw [tg_up_up]
  refine asI_i (j := 1) (tg_s _ _ _) rfl (by omega) (by omega) ?_
  rw [tg_up_up]
  refine asI_i (j := 2) (tg_s _ _ _) rfl (by omega) (by omega) ?_
  rw [tg_up_up]
  refine asI_i (j := 3) (tg_s _ _ _) rfl (by omega) (by omega) ?_
  rw [tg_up_up]
  refine asI_i (j := 4) (tg_s _ _ _) rfl (by omega) (by omega) ?_
  rw [tg_up_up]
  refine asI_i (j := 5) (tg_s _ _ _) rfl (by omega) (by omega) ?_
  rw [tg_up_up]
  refine asI_i (j := 6) (tg_s _ _ _) rfl (by omega) (by omega) ?_
  rw [tg_up_up]
  refine pfV_i (tg_keep (tg_s _ _ _) (fun z => xfo z.symm)) (Nat.le_of_ble_eq_true rfl) ⟨7, rfl, by omega, fun fb hfb => ?_⟩
  obtain ⟨xfb, hfb⟩ := tg_none hfb
  obtain ⟨nfbfo, hfb⟩ := tg_none hfb
  obtain ⟨-, hfb⟩ := tg_none hfb
  have nefb : ∀ {y e}, G7 y = some e → y ≠ fb := fun hy z => by rw [z, hfb] at hy; cases hy
  refine pfV_i (tg_keep (tg_s _ _ _) (fun z => xfb z.symm)) (Nat.le_of_ble_eq_true rfl) ⟨7, rfl, by omega, fun fl hfl => ?_⟩
  obtain ⟨xfl, hfl⟩ := tg_none hfl
  obtain ⟨nflfb, hfl⟩ := tg_none hfl
  obtain ⟨-, hfl⟩ := tg_none hfl
  obtain ⟨nflfo, hfl⟩ := tg_none hfl
  obtain ⟨-, hfl⟩ := tg_none hfl
  have nefl : ∀ {y e}, G7 y = some e → y ≠ fl := fun hy z => by rw [z, hfl] at hy; cases hy
  refine asI_i (j := 0) (tg_s _ _ _) rfl (by omega) (by omega) ?_
  rw [tg_up_up]
  refine asI_i (j := 1) (tg_s _ _ _) rfl (by omega) (by omega) ?_
  rw [tg_up_up]
  refine asI_i (j := 2) (tg_s _ _ _) rfl (by omega) (by omega) ?_
  rw [tg_up_up]
  refine asI_i (j := 3) (tg_s _ _ _) rfl (by omega) (by omega) ?_
  rw [tg_up_up]
  refine asI_i (j := 4) (tg_s _ _ _) rfl (by omega) (by omega) ?_
  rw [tg_up_up]
  refine asI_i (j := 5) (tg_s _ _ _) rfl (by omega) (by omega) ?_
  rw [tg_up_up]
  refine asI_i (j := 6) (tg_s _ _ _) rfl (by omega) (by omega) ?_
  rw [tg_up_up]
  refine pfV_i (tg_keep (tg_s _ _ _) (fun z => xfl z.symm)) (Nat.le_of_ble_eq_true rfl) ?_
  have keep : ∀ {y : Nat} {e e1 e2 e3 e4 e5 e6 e7 : tE}, G7 y = some e → y ≠ x → tg_up (tg_up (tg_up (tg_up (tg_up (tg_up (tg_up G7 x e1) fo e2) x e3) fb e4) x e5) fl e6) x e7 y = some e := fun {y e e1 e2 e3 e4 e5 e6 e7} hy hyx => by
    rw [tg_n _ _ hyx, tg_n _ _ (nefl hy), tg_n _ _ hyx, tg_n _ _ (nefb hy), tg_n _ _ hyx, tg_n _ _ (nefo hy), tg_n _ _ hyx]; exact hy
  refine hp _ ((x, A, fo, fb, fl), fun r => if r = 0 then p0 else if r = 1 then p1 else p2) rfl ⟨S_0_ok, ⟨0, tg_s _ _ _⟩, ⟨mf, keep kA (fun z => xA z.symm), fun r hr => ?_⟩, ⟨foI, fun _ => 0, flI, ⟨?_, ?_, ?_⟩, ?_⟩, fun r hr => ?_, ⟨fun z => nfbfo z.symm, fun z => nflfo z.symm, fun z => nflfb z.symm⟩, fun r hr => ?_, fun r r' hr hr' e => ?_⟩ (fun q e hq hn => ?_) (fun q hq => ?_)
  · rcases (show r = 0 ∨ r = 1 ∨ r = 2 by omega) with rfl | rfl | rfl
    · exact m0
    · exact m1
    · exact m2
  · show tg_up _ _ _ fo = _
    rw [tg_n _ _ xfo, tg_n _ _ (fun z => nflfo z.symm), tg_n _ _ xfo, tg_n _ _ (fun z => nfbfo z.symm), tg_n _ _ xfo, tg_s]
    rfl
  · show tg_up _ _ _ fb = _
    rw [tg_n _ _ xfb, tg_n _ _ (fun z => nflfb z.symm), tg_n _ _ xfb, tg_s]
  · show tg_up _ _ _ fl = _
    rw [tg_n _ _ xfl, tg_s]
    rfl
  · intro j hj
    rcases (show j = 0 ∨ j = 1 ∨ j = 2 ∨ j = 3 ∨ j = 4 ∨ j = 5 ∨ j = 6 by omega) with rfl | rfl | rfl | rfl | rfl | rfl | rfl
    · exact Or.inr ⟨0, 0, 4, rfl, rfl, rfl, rfl⟩
    · exact Or.inr ⟨1, 0, 4, rfl, rfl, rfl, rfl⟩
    · exact Or.inr ⟨2, 0, 4, rfl, rfl, rfl, rfl⟩
    · exact Or.inl ⟨rfl, rfl⟩
    · exact Or.inl ⟨rfl, rfl⟩
    · exact Or.inl ⟨rfl, rfl⟩
    · exact Or.inl ⟨rfl, rfl⟩
  · rcases (show r = 0 ∨ r = 1 ∨ r = 2 by omega) with rfl | rfl | rfl
    · exact ⟨_, keep k0 (fun z => x0 z.symm), fun _ _ => rfl⟩
    · exact ⟨_, keep k1 (fun z => x1 z.symm), fun _ _ => rfl⟩
    · exact ⟨_, keep k2 (fun z => x2 z.symm), fun _ _ => rfl⟩
  · rcases (show r = 0 ∨ r = 1 ∨ r = 2 by omega) with rfl | rfl | rfl
    · exact ⟨nefo k0, nefb k0, nefl k0⟩
    · exact ⟨nefo k1, nefb k1, nefl k1⟩
    · exact ⟨nefo k2, nefb k2, nefl k2⟩
  · rcases (show r = 0 ∨ r = 1 ∨ r = 2 by omega) with rfl | rfl | rfl <;> rcases (show r' = 0 ∨ r' = 1 ∨ r' = 2 by omega) with rfl | rfl | rfl
    · rfl
    · exact absurd e.symm n10
    · exact absurd e.symm n20
    · exact absurd e n10
    · rfl
    · exact absurd e.symm n21
    · exact absurd e n20
    · exact absurd e n21
    · rfl
  · exact keep (kf q e hq hn) hn
  · rcases hq with e | e | e | e | e | e | e | e
    · exact Or.inl e
    · exact Or.inr (e ▸ hA)
    · exact Or.inr (e ▸ kn _ hfo)
    · exact Or.inr (e ▸ kn _ hfb)
    · exact Or.inr (e ▸ kn _ hfl)
    · exact Or.inr (e ▸ g0)
    · exact Or.inr (e ▸ g1)
    · exact Or.inr (e ▸ g2)
end
section
/-! each method: one answer, the class's and the model's -/
theorem sp_at_lt {S : tS} {q : Option (Nat × Nat × Nat)} {w : Int32} {F : Nat → Nat → Nat → Nat → tA} {k : Nat} (hk : 1 < k) (hF : ∀ r b n i, (F r b n i).1 < k) : (sp_at S q w F).1 < k := by
  rcases q with _ | ⟨r, b, n⟩
  · exact hk
  · show (if 0 ≤ w.toInt ∧ w.toInt < n then F r b n w.toInt.toNat else (1, 0, S)).1 < k
    split
    · exact hF _ _ _ _
    · exact hk
theorem sp_li_lt {S : tS} {q : Option (Nat × Nat × Nat)} {F : Nat → Nat → Nat → tA} {k : Nat} (hk : 1 < k) (hF : ∀ r b n, (F r b n).1 < k) : (sp_li S q F).1 < k := by
  rcases q with _ | ⟨r, b, n⟩
  · exact hk
  · exact hF _ _ _
theorem sp_2_lt {S : tS} {p q : Option (Nat × Nat × Nat)} {F : Nat → Nat → Nat → Nat → Nat → Nat → tA} {k : Nat} (hk : 1 < k) (hF : ∀ r b n r2 b2 n2, (F r b n r2 b2 n2).1 < k) : (sp_2 S p q F).1 < k := by
  rcases p with _ | ⟨r, b, n⟩
  · exact hk
  · rcases q with _ | ⟨r2, b2, n2⟩
    · exact hk
    · exact hF _ _ _ _ _ _
theorem if_lt {c : Prop} {_ : Decidable c} {a b : tA} {k : Nat} (ha : a.1 < k) (hb : b.1 < k) : (if c then a else b).1 < k := by
  split
  · exact ha
  · exact hb
theorem sp_lay_lt (S : tS) (v w : Int32) : (sp_lay S v w).1 < 3 := by
  unfold sp_lay
  rcases S_tw S v with _ | ⟨r, b, n⟩
  · exact Nat.le_of_ble_eq_true rfl
  · exact if_lt (Nat.le_of_ble_eq_true rfl) (Nat.le_of_ble_eq_true rfl)
theorem sp_part_lt (S : tS) (p v x y : Int32) : (sp_part S p v x y).1 < 3 := by
  unfold sp_part
  exact if_lt (sp_li_lt (Nat.le_of_ble_eq_true rfl) (fun _ _ _ => if_lt (Nat.le_of_ble_eq_true rfl) (Nat.le_of_ble_eq_true rfl))) (Nat.le_of_ble_eq_true rfl)
def q_lay (S : tS) (v w : Int32) : tA := sp_lay S v w
def q_put (S : tS) (v w x : Int32) : tA := sp_at S (S_tw S v) w fun r b n i => if okV x then (0, S.2.1 r (b + i), S_put S r (b + i) x) else (2, 0, S)
def q_at (S : tS) (v w : Int32) : tA := sp_at S (S_tw S v) w fun r b n i => (0, S.2.1 r (b + i), S)
def q_part (S : tS) (p v x y : Int32) : tA := sp_part S p v x y
def q_set (S : tS) (v w x : Int32) : tA := sp_at S (S_at S v) w fun r b n i => if okV x then (0, S.2.1 r (b + i), S_put S r (b + i) x) else (2, 0, S)
def q_get (S : tS) (v w : Int32) : tA := sp_at S (S_at S v) w fun r b n i => (0, S.2.1 r (b + i), S)
def q_length (S : tS) (v : Int32) : tA := sp_li S (S_at S v) fun r b n => (0, nI n, S)
def q_isEmpty (S : tS) (v : Int32) : tA := sp_li S (S_at S v) fun r b n => (0, if n = 0 then 1 else 0, S)
def q_indexOf (S : tS) (v x : Int32) : tA := sp_li S (S_at S v) fun r b n => if okV x then (0, fpF (S_v S r b) x n 0, S) else (2, 0, S)
def q_lastIndexOf (S : tS) (v x : Int32) : tA := sp_li S (S_at S v) fun r b n => if okV x then (0, lpF (S_v S r b) x n, S) else (2, 0, S)
def q_has (S : tS) (v x : Int32) : tA := sp_li S (S_at S v) fun r b n => if okV x then (0, if fpF (S_v S r b) x n 0 = -1 then 0 else 1, S) else (2, 0, S)
def q_often (S : tS) (v x : Int32) : tA := sp_li S (S_at S v) fun r b n => if okV x then (0, ofF (S_v S r b) x n, S) else (2, 0, S)
def q_hasAll (S : tS) (v w : Int32) : tA := sp_2 S (S_at S v) (S_at S w) fun r b n r2 b2 n2 => (0, if onF (S_v S r2 b2) (S_v S r b) n 0 n2 0 = 0 then 1 else 0, S)
def q_areApart (S : tS) (v w : Int32) : tA := sp_2 S (S_at S v) (S_at S w) fun r b n r2 b2 n2 => (0, if onF (S_v S r b) (S_v S r2 b2) n2 1 n 0 = 0 then 1 else 0, S)
def q_indexOfAll (S : tS) (v w : Int32) : tA := sp_2 S (S_at S v) (S_at S w) fun r b n r2 b2 n2 => (0, iaF (S_v S r b) (S_v S r2 b2) n2 (n + 1 - n2) 0, S)
def q_areEqual (S : tS) (v w : Int32) : tA := sp_2 S (S_at S v) (S_at S w) fun r b n r2 b2 n2 => (0, if n = n2 then haF (S_v S r b) (S_v S r2 b2) n2 0 else 0, S)
def q_code (S : tS) (v : Int32) : tA := sp_li S (S_at S v) fun r b n => (0, coF (S_v S r b) n, S)
def q_sum (S : tS) (v : Int32) : tA := sp_li S (S_at S v) fun r b n => (0, suF (S_v S r b) n, S)
def q_walkSet (S : tS) (v p rule w back : Int32) : tA := sp_li S (S_at S v) fun r b n => if inR p 0 (nI n) ∧ (inR rule 0 3 ∧ inR w (-99) 99) then (0, nI (slF p.toInt.toNat n back), wrF S r b p.toInt.toNat back rule w (slF p.toInt.toNat n back)) else (2, 0, S)
def q_replaceAll (S : tS) (v rule w : Int32) : tA := sp_li S (S_at S v) fun r b n => if inR rule 0 3 ∧ inR w (-99) 99 then (0, nI (slF 0 n 0), wrF S r b 0 0 rule w (slF 0 n 0)) else (2, 0, S)
def q_replaceOld (S : tS) (v y x : Int32) : tA := sp_li S (S_at S v) fun r b n => if okV y ∧ okV x then (0, (roF S r b y x n).2, (roF S r b y x n).1) else (2, 0, S)
def q_fill (S : tS) (v x : Int32) : tA := sp_li S (S_at S v) fun r b n => if okV x then (0, nI n, S_map S r b (fun _ _ => x) n) else (2, 0, S)
def q_sort (S : tS) (v fall : Int32) : tA := sp_li S (S_tw S v) fun r b n => (0, nI n, soF r b fall S (n - 1))
def q_reverse (S : tS) (v : Int32) : tA := sp_li S (S_at S v) fun r b n => (0, nI n, tuF r b n 0 n S)
def q_rotate (S : tS) (v x : Int32) : tA := sp_li S (S_at S v) fun r b n => if inR x (-99) 99 then (0, nI n, if n = 0 then S else roS S r b n (fmF x (nI n)).toInt.toNat) else (2, 0, S)
def q_swap (S : tS) (v w x : Int32) : tA := sp_at S (S_at S v) w fun r b n i => if 0 ≤ x.toInt ∧ x.toInt < n then (0, if S.2.1 r (b + i) = S.2.1 r (b + x.toInt.toNat) then 0 else 1, S_exch S r (b + i) (b + x.toInt.toNat)) else (1, 0, S)
def q_add (S : tS) (v x : Int32) : tA := sp_li S (S_at S v) fun _ _ _ => if okV x then (0, -9, S_ref S) else (2, 0, S)
def q_addAt (S : tS) (v w x : Int32) : tA := sp_li S (S_at S v) fun _ _ n => if inR w 0 (nI n) ∧ okV x then (0, -9, S_ref S) else (2, 0, S)
def q_addAll (S : tS) (v w : Int32) : tA := sp_2 S (S_at S v) (S_at S w) fun _ _ _ _ _ n2 => if n2 = 0 then (0, 0, S) else (0, -9, S_ref S)
def q_remove (S : tS) (v w : Int32) : tA := sp_at S (S_at S v) w fun _ _ _ _ => (0, -9, S_ref S)
def q_removeValue (S : tS) (v x : Int32) : tA := sp_li S (S_at S v) fun r b n => if okV x then (if fpF (S_v S r b) x n 0 = -1 then (0, 0, S) else (0, -9, S_ref S)) else (2, 0, S)
def q_removeAll (S : tS) (v w : Int32) : tA := sp_2 S (S_at S v) (S_at S w) fun r b n r2 b2 n2 => if onF (S_v S r b) (S_v S r2 b2) n2 1 n 0 = 0 then (0, 0, S) else (0, -9, S_ref S)
def q_retainAll (S : tS) (v w : Int32) : tA := sp_2 S (S_at S v) (S_at S w) fun r b n r2 b2 n2 => if onF (S_v S r b) (S_v S r2 b2) n2 0 n 0 = 0 then (0, 0, S) else (0, -9, S_ref S)
def q_removeIf (S : tS) (v t w : Int32) : tA := sp_li S (S_at S v) fun r b n => if inR t 0 2 ∧ inR w (-99) 99 then (if otF (S_v S r b) t w n 0 = 0 then (0, 0, S) else (0, -9, S_ref S)) else (2, 0, S)
def q_clear (S : tS) (v : Int32) : tA := sp_li S (S_at S v) fun _ _ n => if n = 0 then (0, 0, S) else (0, -9, S_ref S)
def q_walkChange (S : tS) (v w x : Int32) : tA := sp_at S (S_at S v) w fun _ _ _ _ => if inR x 0 2 then (0, -9, S_ref S) else (2, 0, S)
section BOB
variable {K : tK} {G : tG} {L : tL} {M : tM} {S S' : tS} {th : Int32} {u : Nat} {n : Int64} {s : Value} {post : Int32 → tG → Prop}
theorem Lc_lay {v w : Int32} (h : Bo G L M S S' th u n s) (hp : ∀ G' n', Bo G' L M (q_lay S v w).2.2 S' th u n' s → ((q_lay S v w).1 = 0 → n' = (q_lay S v w).2.1.toInt64) → post (nI (q_lay S v w).1) G') : w_L_lay K post (some L.1) v w (some u) G :=
  c_rcv h.1 (c_lay h.1 (L_res (a := q_lay S v w) h (sp_lay_lt S v w) hp))
theorem Lm_lay {v w : Int32} (h : Bo G L M S S' th u n s) (hp : ∀ G' M', M'.1 = M.1 → Bo G' L M' S (q_lay S' v w).2.2 (nI (q_lay S' v w).1) u n s → post (q_lay S' v w).2.1 G') : rcv G (some M.1.1) 5 (w_X3_lay K post (some M.1.1) v w G) :=
  m_rcv h.2.1 (m_lay h.2.1 (L_mod (a := q_lay S' v w) h hp))
theorem Lc_put {v w x : Int32} (h : Bo G L M S S' th u n s) (hp : ∀ G' n', Bo G' L M (q_put S v w x).2.2 S' th u n' s → ((q_put S v w x).1 = 0 → n' = (q_put S v w x).2.1.toInt64) → post (nI (q_put S v w x).1) G') : w_L_put K post (some L.1) v w x (some u) G :=
  c_rcv h.1 (c_put h.1 (L_res (a := q_put S v w x) h (sp_at_lt (Nat.le_of_ble_eq_true rfl) (fun _ _ _ _ => if_lt (Nat.le_of_ble_eq_true rfl) (Nat.le_of_ble_eq_true rfl))) hp))
theorem Lm_put {v w x : Int32} (h : Bo G L M S S' th u n s) (hp : ∀ G' M', M'.1 = M.1 → Bo G' L M' S (q_put S' v w x).2.2 (nI (q_put S' v w x).1) u n s → post (q_put S' v w x).2.1 G') : rcv G (some M.1.1) 5 (w_X3_put K post (some M.1.1) v w x G) :=
  m_rcv h.2.1 (m_put h.2.1 (L_mod (a := q_put S' v w x) h hp))
theorem Lc_at {v w : Int32} (h : Bo G L M S S' th u n s) (hp : ∀ G' n', Bo G' L M (q_at S v w).2.2 S' th u n' s → ((q_at S v w).1 = 0 → n' = (q_at S v w).2.1.toInt64) → post (nI (q_at S v w).1) G') : w_L_at K post (some L.1) v w (some u) G :=
  c_rcv h.1 (c_at h.1 (L_res1 (a := q_at S v w) h (sp_at_lt (Nat.le_of_ble_eq_true rfl) (fun _ _ _ _ => (Nat.le_of_ble_eq_true rfl))) hp))
theorem Lm_at {v w : Int32} (h : Bo G L M S S' th u n s) (hp : ∀ G' M', M'.1 = M.1 → Bo G' L M' S (q_at S' v w).2.2 (nI (q_at S' v w).1) u n s → post (q_at S' v w).2.1 G') : rcv G (some M.1.1) 5 (w_X3_at K post (some M.1.1) v w G) :=
  m_rcv h.2.1 (m_at h.2.1 (L_mod (a := q_at S' v w) h hp))
theorem Lc_part {p v x y : Int32} (h : Bo G L M S S' th u n s) (hp : ∀ G' n', Bo G' L M (q_part S p v x y).2.2 S' th u n' s → ((q_part S p v x y).1 = 0 → n' = (q_part S p v x y).2.1.toInt64) → post (nI (q_part S p v x y).1) G') : w_L_part K post (some L.1) p v x y (some u) G :=
  c_rcv h.1 (c_part h.1 (L_res (a := q_part S p v x y) h (sp_part_lt S p v x y) hp))
theorem Lm_part {p v x y : Int32} (h : Bo G L M S S' th u n s) (hp : ∀ G' M', M'.1 = M.1 → Bo G' L M' S (q_part S' p v x y).2.2 (nI (q_part S' p v x y).1) u n s → post (q_part S' p v x y).2.1 G') : rcv G (some M.1.1) 5 (w_X3_part K post (some M.1.1) p v x y G) :=
  m_rcv h.2.1 (m_part h.2.1 (L_mod (a := q_part S' p v x y) h hp))
theorem Lc_set {v w x : Int32} (h : Bo G L M S S' th u n s) (hp : ∀ G' n', Bo G' L M (q_set S v w x).2.2 S' th u n' s → ((q_set S v w x).1 = 0 → n' = (q_set S v w x).2.1.toInt64) → post (nI (q_set S v w x).1) G') : w_L_set K post (some L.1) v w x (some u) G :=
  c_rcv h.1 (c_set h.1 (L_res (a := q_set S v w x) h (sp_at_lt (Nat.le_of_ble_eq_true rfl) (fun _ _ _ _ => if_lt (Nat.le_of_ble_eq_true rfl) (Nat.le_of_ble_eq_true rfl))) hp))
theorem Lm_set {v w x : Int32} (h : Bo G L M S S' th u n s) (hp : ∀ G' M', M'.1 = M.1 → Bo G' L M' S (q_set S' v w x).2.2 (nI (q_set S' v w x).1) u n s → post (q_set S' v w x).2.1 G') : rcv G (some M.1.1) 5 (w_X3_set K post (some M.1.1) v w x G) :=
  m_rcv h.2.1 (m_set h.2.1 (L_mod (a := q_set S' v w x) h hp))
theorem Lc_get {v w : Int32} (h : Bo G L M S S' th u n s) (hp : ∀ G' n', Bo G' L M (q_get S v w).2.2 S' th u n' s → ((q_get S v w).1 = 0 → n' = (q_get S v w).2.1.toInt64) → post (nI (q_get S v w).1) G') : w_L_get K post (some L.1) v w (some u) G :=
  c_rcv h.1 (c_get h.1 (L_res1 (a := q_get S v w) h (sp_at_lt (Nat.le_of_ble_eq_true rfl) (fun _ _ _ _ => (Nat.le_of_ble_eq_true rfl))) hp))
theorem Lm_get {v w : Int32} (h : Bo G L M S S' th u n s) (hp : ∀ G' M', M'.1 = M.1 → Bo G' L M' S (q_get S' v w).2.2 (nI (q_get S' v w).1) u n s → post (q_get S' v w).2.1 G') : rcv G (some M.1.1) 5 (w_X3_get K post (some M.1.1) v w G) :=
  m_rcv h.2.1 (m_get h.2.1 (L_mod (a := q_get S' v w) h hp))
theorem Lc_length {v : Int32} (h : Bo G L M S S' th u n s) (hp : ∀ G' n', Bo G' L M (q_length S v).2.2 S' th u n' s → ((q_length S v).1 = 0 → n' = (q_length S v).2.1.toInt64) → post (nI (q_length S v).1) G') : w_L_length K post (some L.1) v (some u) G :=
  c_rcv h.1 (c_length h.1 (L_res1 (a := q_length S v) h (sp_li_lt (Nat.le_of_ble_eq_true rfl) (fun _ _ _ => (Nat.le_of_ble_eq_true rfl))) hp))
theorem Lm_length {v : Int32} (h : Bo G L M S S' th u n s) (hp : ∀ G' M', M'.1 = M.1 → Bo G' L M' S (q_length S' v).2.2 (nI (q_length S' v).1) u n s → post (q_length S' v).2.1 G') : rcv G (some M.1.1) 5 (w_X3_length K post (some M.1.1) v G) :=
  m_rcv h.2.1 (m_length h.2.1 (L_mod (a := q_length S' v) h hp))
theorem Lc_isEmpty {v : Int32} (h : Bo G L M S S' th u n s) (hp : ∀ G' n', Bo G' L M (q_isEmpty S v).2.2 S' th u n' s → ((q_isEmpty S v).1 = 0 → n' = if (q_isEmpty S v).2.1 = 0 then 0 else 1) → post (nI (q_isEmpty S v).1) G') : w_L_isEmpty K post (some L.1) v (some u) G :=
  c_rcv h.1 (c_isEmpty h.1 (L_resB1 (a := q_isEmpty S v) h (sp_li_lt (Nat.le_of_ble_eq_true rfl) (fun _ _ _ => (Nat.le_of_ble_eq_true rfl))) hp))
theorem Lm_isEmpty {v : Int32} (h : Bo G L M S S' th u n s) (hp : ∀ G' M', M'.1 = M.1 → Bo G' L M' S (q_isEmpty S' v).2.2 (nI (q_isEmpty S' v).1) u n s → post (q_isEmpty S' v).2.1 G') : rcv G (some M.1.1) 5 (w_X3_isEmpty K post (some M.1.1) v G) :=
  m_rcv h.2.1 (m_isEmpty h.2.1 (L_mod (a := q_isEmpty S' v) h hp))
theorem Lc_indexOf {v x : Int32} (h : Bo G L M S S' th u n s) (hp : ∀ G' n', Bo G' L M (q_indexOf S v x).2.2 S' th u n' s → ((q_indexOf S v x).1 = 0 → n' = (q_indexOf S v x).2.1.toInt64) → post (nI (q_indexOf S v x).1) G') : w_L_indexOf K post (some L.1) v x (some u) G :=
  c_rcv h.1 (c_indexOf h.1 (L_res (a := q_indexOf S v x) h (sp_li_lt (Nat.le_of_ble_eq_true rfl) (fun _ _ _ => if_lt (Nat.le_of_ble_eq_true rfl) (Nat.le_of_ble_eq_true rfl))) hp))
theorem Lm_indexOf {v x : Int32} (h : Bo G L M S S' th u n s) (hp : ∀ G' M', M'.1 = M.1 → Bo G' L M' S (q_indexOf S' v x).2.2 (nI (q_indexOf S' v x).1) u n s → post (q_indexOf S' v x).2.1 G') : rcv G (some M.1.1) 5 (w_X3_indexOf K post (some M.1.1) v x G) :=
  m_rcv h.2.1 (m_indexOf h.2.1 (L_mod (a := q_indexOf S' v x) h hp))
theorem Lc_lastIndexOf {v x : Int32} (h : Bo G L M S S' th u n s) (hp : ∀ G' n', Bo G' L M (q_lastIndexOf S v x).2.2 S' th u n' s → ((q_lastIndexOf S v x).1 = 0 → n' = (q_lastIndexOf S v x).2.1.toInt64) → post (nI (q_lastIndexOf S v x).1) G') : w_L_lastIndexOf K post (some L.1) v x (some u) G :=
  c_rcv h.1 (c_lastIndexOf h.1 (L_res (a := q_lastIndexOf S v x) h (sp_li_lt (Nat.le_of_ble_eq_true rfl) (fun _ _ _ => if_lt (Nat.le_of_ble_eq_true rfl) (Nat.le_of_ble_eq_true rfl))) hp))
theorem Lm_lastIndexOf {v x : Int32} (h : Bo G L M S S' th u n s) (hp : ∀ G' M', M'.1 = M.1 → Bo G' L M' S (q_lastIndexOf S' v x).2.2 (nI (q_lastIndexOf S' v x).1) u n s → post (q_lastIndexOf S' v x).2.1 G') : rcv G (some M.1.1) 5 (w_X3_lastIndexOf K post (some M.1.1) v x G) :=
  m_rcv h.2.1 (m_lastIndexOf h.2.1 (L_mod (a := q_lastIndexOf S' v x) h hp))
theorem Lc_has {v x : Int32} (h : Bo G L M S S' th u n s) (hp : ∀ G' n', Bo G' L M (q_has S v x).2.2 S' th u n' s → ((q_has S v x).1 = 0 → n' = if (q_has S v x).2.1 = 0 then 0 else 1) → post (nI (q_has S v x).1) G') : w_L_has K post (some L.1) v x (some u) G :=
  c_rcv h.1 (c_has h.1 (L_resB (a := q_has S v x) h (sp_li_lt (Nat.le_of_ble_eq_true rfl) (fun _ _ _ => if_lt (Nat.le_of_ble_eq_true rfl) (Nat.le_of_ble_eq_true rfl))) hp))
theorem Lm_has {v x : Int32} (h : Bo G L M S S' th u n s) (hp : ∀ G' M', M'.1 = M.1 → Bo G' L M' S (q_has S' v x).2.2 (nI (q_has S' v x).1) u n s → post (q_has S' v x).2.1 G') : rcv G (some M.1.1) 5 (w_X3_has K post (some M.1.1) v x G) :=
  m_rcv h.2.1 (m_has h.2.1 (L_mod (a := q_has S' v x) h hp))
theorem Lc_often {v x : Int32} (h : Bo G L M S S' th u n s) (hp : ∀ G' n', Bo G' L M (q_often S v x).2.2 S' th u n' s → ((q_often S v x).1 = 0 → n' = (q_often S v x).2.1.toInt64) → post (nI (q_often S v x).1) G') : w_L_often K post (some L.1) v x (some u) G :=
  c_rcv h.1 (c_often h.1 (L_res (a := q_often S v x) h (sp_li_lt (Nat.le_of_ble_eq_true rfl) (fun _ _ _ => if_lt (Nat.le_of_ble_eq_true rfl) (Nat.le_of_ble_eq_true rfl))) hp))
theorem Lm_often {v x : Int32} (h : Bo G L M S S' th u n s) (hp : ∀ G' M', M'.1 = M.1 → Bo G' L M' S (q_often S' v x).2.2 (nI (q_often S' v x).1) u n s → post (q_often S' v x).2.1 G') : rcv G (some M.1.1) 5 (w_X3_often K post (some M.1.1) v x G) :=
  m_rcv h.2.1 (m_often h.2.1 (L_mod (a := q_often S' v x) h hp))
theorem Lc_hasAll {v w : Int32} (h : Bo G L M S S' th u n s) (hp : ∀ G' n', Bo G' L M (q_hasAll S v w).2.2 S' th u n' s → ((q_hasAll S v w).1 = 0 → n' = if (q_hasAll S v w).2.1 = 0 then 0 else 1) → post (nI (q_hasAll S v w).1) G') : w_L_hasAll K post (some L.1) v w (some u) G :=
  c_rcv h.1 (c_hasAll h.1 (L_resB1 (a := q_hasAll S v w) h (sp_2_lt (Nat.le_of_ble_eq_true rfl) (fun _ _ _ _ _ _ => (Nat.le_of_ble_eq_true rfl))) hp))
theorem Lm_hasAll {v w : Int32} (h : Bo G L M S S' th u n s) (hp : ∀ G' M', M'.1 = M.1 → Bo G' L M' S (q_hasAll S' v w).2.2 (nI (q_hasAll S' v w).1) u n s → post (q_hasAll S' v w).2.1 G') : rcv G (some M.1.1) 5 (w_X3_hasAll K post (some M.1.1) v w G) :=
  m_rcv h.2.1 (m_hasAll h.2.1 (L_mod (a := q_hasAll S' v w) h hp))
theorem Lc_areApart {v w : Int32} (h : Bo G L M S S' th u n s) (hp : ∀ G' n', Bo G' L M (q_areApart S v w).2.2 S' th u n' s → ((q_areApart S v w).1 = 0 → n' = if (q_areApart S v w).2.1 = 0 then 0 else 1) → post (nI (q_areApart S v w).1) G') : w_L_areApart K post (some L.1) v w (some u) G :=
  c_rcv h.1 (c_areApart h.1 (L_resB1 (a := q_areApart S v w) h (sp_2_lt (Nat.le_of_ble_eq_true rfl) (fun _ _ _ _ _ _ => (Nat.le_of_ble_eq_true rfl))) hp))
theorem Lm_areApart {v w : Int32} (h : Bo G L M S S' th u n s) (hp : ∀ G' M', M'.1 = M.1 → Bo G' L M' S (q_areApart S' v w).2.2 (nI (q_areApart S' v w).1) u n s → post (q_areApart S' v w).2.1 G') : rcv G (some M.1.1) 5 (w_X3_areApart K post (some M.1.1) v w G) :=
  m_rcv h.2.1 (m_areApart h.2.1 (L_mod (a := q_areApart S' v w) h hp))
theorem Lc_indexOfAll {v w : Int32} (h : Bo G L M S S' th u n s) (hp : ∀ G' n', Bo G' L M (q_indexOfAll S v w).2.2 S' th u n' s → ((q_indexOfAll S v w).1 = 0 → n' = (q_indexOfAll S v w).2.1.toInt64) → post (nI (q_indexOfAll S v w).1) G') : w_L_indexOfAll K post (some L.1) v w (some u) G :=
  c_rcv h.1 (c_indexOfAll h.1 (L_res1 (a := q_indexOfAll S v w) h (sp_2_lt (Nat.le_of_ble_eq_true rfl) (fun _ _ _ _ _ _ => (Nat.le_of_ble_eq_true rfl))) hp))
theorem Lm_indexOfAll {v w : Int32} (h : Bo G L M S S' th u n s) (hp : ∀ G' M', M'.1 = M.1 → Bo G' L M' S (q_indexOfAll S' v w).2.2 (nI (q_indexOfAll S' v w).1) u n s → post (q_indexOfAll S' v w).2.1 G') : rcv G (some M.1.1) 5 (w_X3_indexOfAll K post (some M.1.1) v w G) :=
  m_rcv h.2.1 (m_indexOfAll h.2.1 (L_mod (a := q_indexOfAll S' v w) h hp))
theorem Lc_areEqual {v w : Int32} (h : Bo G L M S S' th u n s) (hp : ∀ G' n', Bo G' L M (q_areEqual S v w).2.2 S' th u n' s → ((q_areEqual S v w).1 = 0 → n' = if (q_areEqual S v w).2.1 = 0 then 0 else 1) → post (nI (q_areEqual S v w).1) G') : w_L_areEqual K post (some L.1) v w (some u) G :=
  c_rcv h.1 (c_areEqual h.1 (L_resB1 (a := q_areEqual S v w) h (sp_2_lt (Nat.le_of_ble_eq_true rfl) (fun _ _ _ _ _ _ => (Nat.le_of_ble_eq_true rfl))) hp))
theorem Lm_areEqual {v w : Int32} (h : Bo G L M S S' th u n s) (hp : ∀ G' M', M'.1 = M.1 → Bo G' L M' S (q_areEqual S' v w).2.2 (nI (q_areEqual S' v w).1) u n s → post (q_areEqual S' v w).2.1 G') : rcv G (some M.1.1) 5 (w_X3_areEqual K post (some M.1.1) v w G) :=
  m_rcv h.2.1 (m_areEqual h.2.1 (L_mod (a := q_areEqual S' v w) h hp))
theorem Lc_code {v : Int32} (h : Bo G L M S S' th u n s) (hp : ∀ G' n', Bo G' L M (q_code S v).2.2 S' th u n' s → ((q_code S v).1 = 0 → n' = (q_code S v).2.1.toInt64) → post (nI (q_code S v).1) G') : w_L_code K post (some L.1) v (some u) G :=
  c_rcv h.1 (c_code h.1 (L_res1 (a := q_code S v) h (sp_li_lt (Nat.le_of_ble_eq_true rfl) (fun _ _ _ => (Nat.le_of_ble_eq_true rfl))) hp))
theorem Lm_code {v : Int32} (h : Bo G L M S S' th u n s) (hp : ∀ G' M', M'.1 = M.1 → Bo G' L M' S (q_code S' v).2.2 (nI (q_code S' v).1) u n s → post (q_code S' v).2.1 G') : rcv G (some M.1.1) 5 (w_X3_code K post (some M.1.1) v G) :=
  m_rcv h.2.1 (m_code h.2.1 (L_mod (a := q_code S' v) h hp))
theorem Lc_sum {v : Int32} (h : Bo G L M S S' th u n s) (hp : ∀ G' n', Bo G' L M (q_sum S v).2.2 S' th u n' s → ((q_sum S v).1 = 0 → n' = (q_sum S v).2.1.toInt64) → post (nI (q_sum S v).1) G') : w_L_sum K post (some L.1) v (some u) G :=
  c_rcv h.1 (c_sum h.1 (L_res1 (a := q_sum S v) h (sp_li_lt (Nat.le_of_ble_eq_true rfl) (fun _ _ _ => (Nat.le_of_ble_eq_true rfl))) hp))
theorem Lm_sum {v : Int32} (h : Bo G L M S S' th u n s) (hp : ∀ G' M', M'.1 = M.1 → Bo G' L M' S (q_sum S' v).2.2 (nI (q_sum S' v).1) u n s → post (q_sum S' v).2.1 G') : rcv G (some M.1.1) 5 (w_X3_sum K post (some M.1.1) v G) :=
  m_rcv h.2.1 (m_sum h.2.1 (L_mod (a := q_sum S' v) h hp))
theorem Lc_walkSet {v p rule w back : Int32} (h : Bo G L M S S' th u n s) (hp : ∀ G' n', Bo G' L M (q_walkSet S v p rule w back).2.2 S' th u n' s → ((q_walkSet S v p rule w back).1 = 0 → n' = (q_walkSet S v p rule w back).2.1.toInt64) → post (nI (q_walkSet S v p rule w back).1) G') : w_L_walkSet K post (some L.1) v p rule w back (some u) G :=
  c_rcv h.1 (c_walkSet h.1 (L_res (a := q_walkSet S v p rule w back) h (sp_li_lt (Nat.le_of_ble_eq_true rfl) (fun _ _ _ => if_lt (Nat.le_of_ble_eq_true rfl) (Nat.le_of_ble_eq_true rfl))) hp))
theorem Lm_walkSet {v p rule w back : Int32} (h : Bo G L M S S' th u n s) (hp : ∀ G' M', M'.1 = M.1 → Bo G' L M' S (q_walkSet S' v p rule w back).2.2 (nI (q_walkSet S' v p rule w back).1) u n s → post (q_walkSet S' v p rule w back).2.1 G') : rcv G (some M.1.1) 5 (w_X3_walkSet K post (some M.1.1) v p rule w back G) :=
  m_rcv h.2.1 (m_walkSet h.2.1 (L_mod (a := q_walkSet S' v p rule w back) h hp))
theorem Lc_replaceAll {v rule w : Int32} (h : Bo G L M S S' th u n s) (hp : ∀ G' n', Bo G' L M (q_replaceAll S v rule w).2.2 S' th u n' s → ((q_replaceAll S v rule w).1 = 0 → n' = (q_replaceAll S v rule w).2.1.toInt64) → post (nI (q_replaceAll S v rule w).1) G') : w_L_replaceAll K post (some L.1) v rule w (some u) G :=
  c_rcv h.1 (c_replaceAll h.1 (L_res (a := q_replaceAll S v rule w) h (sp_li_lt (Nat.le_of_ble_eq_true rfl) (fun _ _ _ => if_lt (Nat.le_of_ble_eq_true rfl) (Nat.le_of_ble_eq_true rfl))) hp))
theorem Lm_replaceAll {v rule w : Int32} (h : Bo G L M S S' th u n s) (hp : ∀ G' M', M'.1 = M.1 → Bo G' L M' S (q_replaceAll S' v rule w).2.2 (nI (q_replaceAll S' v rule w).1) u n s → post (q_replaceAll S' v rule w).2.1 G') : rcv G (some M.1.1) 5 (w_X3_replaceAll K post (some M.1.1) v rule w G) :=
  m_rcv h.2.1 (m_replaceAll h.2.1 (L_mod (a := q_replaceAll S' v rule w) h hp))
theorem Lc_replaceOld {v y x : Int32} (h : Bo G L M S S' th u n s) (hp : ∀ G' n', Bo G' L M (q_replaceOld S v y x).2.2 S' th u n' s → ((q_replaceOld S v y x).1 = 0 → n' = (q_replaceOld S v y x).2.1.toInt64) → post (nI (q_replaceOld S v y x).1) G') : w_L_replaceOld K post (some L.1) v y x (some u) G :=
  c_rcv h.1 (c_replaceOld h.1 (L_res (a := q_replaceOld S v y x) h (sp_li_lt (Nat.le_of_ble_eq_true rfl) (fun _ _ _ => if_lt (Nat.le_of_ble_eq_true rfl) (Nat.le_of_ble_eq_true rfl))) hp))
theorem Lm_replaceOld {v y x : Int32} (h : Bo G L M S S' th u n s) (hp : ∀ G' M', M'.1 = M.1 → Bo G' L M' S (q_replaceOld S' v y x).2.2 (nI (q_replaceOld S' v y x).1) u n s → post (q_replaceOld S' v y x).2.1 G') : rcv G (some M.1.1) 5 (w_X3_replaceOld K post (some M.1.1) v y x G) :=
  m_rcv h.2.1 (m_replaceOld h.2.1 (L_mod (a := q_replaceOld S' v y x) h hp))
theorem Lc_fill {v x : Int32} (h : Bo G L M S S' th u n s) (hp : ∀ G' n', Bo G' L M (q_fill S v x).2.2 S' th u n' s → ((q_fill S v x).1 = 0 → n' = (q_fill S v x).2.1.toInt64) → post (nI (q_fill S v x).1) G') : w_L_fill K post (some L.1) v x (some u) G :=
  c_rcv h.1 (c_fill h.1 (L_res (a := q_fill S v x) h (sp_li_lt (Nat.le_of_ble_eq_true rfl) (fun _ _ _ => if_lt (Nat.le_of_ble_eq_true rfl) (Nat.le_of_ble_eq_true rfl))) hp))
theorem Lm_fill {v x : Int32} (h : Bo G L M S S' th u n s) (hp : ∀ G' M', M'.1 = M.1 → Bo G' L M' S (q_fill S' v x).2.2 (nI (q_fill S' v x).1) u n s → post (q_fill S' v x).2.1 G') : rcv G (some M.1.1) 5 (w_X3_fill K post (some M.1.1) v x G) :=
  m_rcv h.2.1 (m_fill h.2.1 (L_mod (a := q_fill S' v x) h hp))
theorem Lc_sort {v fall : Int32} (h : Bo G L M S S' th u n s) (hp : ∀ G' n', Bo G' L M (q_sort S v fall).2.2 S' th u n' s → ((q_sort S v fall).1 = 0 → n' = (q_sort S v fall).2.1.toInt64) → post (nI (q_sort S v fall).1) G') : w_L_sort K post (some L.1) v fall (some u) G :=
  c_rcv h.1 (c_sort h.1 (L_res1 (a := q_sort S v fall) h (sp_li_lt (Nat.le_of_ble_eq_true rfl) (fun _ _ _ => (Nat.le_of_ble_eq_true rfl))) hp))
theorem Lm_sort {v fall : Int32} (h : Bo G L M S S' th u n s) (hp : ∀ G' M', M'.1 = M.1 → Bo G' L M' S (q_sort S' v fall).2.2 (nI (q_sort S' v fall).1) u n s → post (q_sort S' v fall).2.1 G') : rcv G (some M.1.1) 5 (w_X3_sort K post (some M.1.1) v fall G) :=
  m_rcv h.2.1 (m_sort h.2.1 (L_mod (a := q_sort S' v fall) h hp))
theorem Lc_reverse {v : Int32} (h : Bo G L M S S' th u n s) (hp : ∀ G' n', Bo G' L M (q_reverse S v).2.2 S' th u n' s → ((q_reverse S v).1 = 0 → n' = (q_reverse S v).2.1.toInt64) → post (nI (q_reverse S v).1) G') : w_L_reverse K post (some L.1) v (some u) G :=
  c_rcv h.1 (c_reverse h.1 (L_res1 (a := q_reverse S v) h (sp_li_lt (Nat.le_of_ble_eq_true rfl) (fun _ _ _ => (Nat.le_of_ble_eq_true rfl))) hp))
theorem Lm_reverse {v : Int32} (h : Bo G L M S S' th u n s) (hp : ∀ G' M', M'.1 = M.1 → Bo G' L M' S (q_reverse S' v).2.2 (nI (q_reverse S' v).1) u n s → post (q_reverse S' v).2.1 G') : rcv G (some M.1.1) 5 (w_X3_reverse K post (some M.1.1) v G) :=
  m_rcv h.2.1 (m_reverse h.2.1 (L_mod (a := q_reverse S' v) h hp))
theorem Lc_rotate {v x : Int32} (h : Bo G L M S S' th u n s) (hp : ∀ G' n', Bo G' L M (q_rotate S v x).2.2 S' th u n' s → ((q_rotate S v x).1 = 0 → n' = (q_rotate S v x).2.1.toInt64) → post (nI (q_rotate S v x).1) G') : w_L_rotate K post (some L.1) v x (some u) G :=
  c_rcv h.1 (c_rotate h.1 (L_res (a := q_rotate S v x) h (sp_li_lt (Nat.le_of_ble_eq_true rfl) (fun _ _ _ => if_lt (Nat.le_of_ble_eq_true rfl) (Nat.le_of_ble_eq_true rfl))) hp))
theorem Lm_rotate {v x : Int32} (h : Bo G L M S S' th u n s) (hp : ∀ G' M', M'.1 = M.1 → Bo G' L M' S (q_rotate S' v x).2.2 (nI (q_rotate S' v x).1) u n s → post (q_rotate S' v x).2.1 G') : rcv G (some M.1.1) 5 (w_X3_rotate K post (some M.1.1) v x G) :=
  m_rcv h.2.1 (m_rotate h.2.1 (L_mod (a := q_rotate S' v x) h hp))
theorem Lc_swap {v w x : Int32} (h : Bo G L M S S' th u n s) (hp : ∀ G' n', Bo G' L M (q_swap S v w x).2.2 S' th u n' s → ((q_swap S v w x).1 = 0 → n' = (q_swap S v w x).2.1.toInt64) → post (nI (q_swap S v w x).1) G') : w_L_swap K post (some L.1) v w x (some u) G :=
  c_rcv h.1 (c_swap h.1 (L_res1 (a := q_swap S v w x) h (sp_at_lt (Nat.le_of_ble_eq_true rfl) (fun _ _ _ _ => if_lt (Nat.le_of_ble_eq_true rfl) (Nat.le_of_ble_eq_true rfl))) hp))
theorem Lm_swap {v w x : Int32} (h : Bo G L M S S' th u n s) (hp : ∀ G' M', M'.1 = M.1 → Bo G' L M' S (q_swap S' v w x).2.2 (nI (q_swap S' v w x).1) u n s → post (q_swap S' v w x).2.1 G') : rcv G (some M.1.1) 5 (w_X3_swap K post (some M.1.1) v w x G) :=
  m_rcv h.2.1 (m_swap h.2.1 (L_mod (a := q_swap S' v w x) h hp))
theorem Lc_add {v x : Int32} (h : Bo G L M S S' th u n s) (hp : ∀ G' n', Bo G' L M (q_add S v x).2.2 S' th u n' s → ((q_add S v x).1 = 0 → n' = (q_add S v x).2.1.toInt64) → post (nI (q_add S v x).1) G') : w_L_add K post (some L.1) v x (some u) G :=
  c_rcv h.1 (c_add h.1 (L_res (a := q_add S v x) h (sp_li_lt (Nat.le_of_ble_eq_true rfl) (fun _ _ _ => if_lt (Nat.le_of_ble_eq_true rfl) (Nat.le_of_ble_eq_true rfl))) hp))
theorem Lm_add {v x : Int32} (h : Bo G L M S S' th u n s) (hp : ∀ G' M', M'.1 = M.1 → Bo G' L M' S (q_add S' v x).2.2 (nI (q_add S' v x).1) u n s → post (q_add S' v x).2.1 G') : rcv G (some M.1.1) 5 (w_X3_add K post (some M.1.1) v x G) :=
  m_rcv h.2.1 (m_add h.2.1 (L_mod (a := q_add S' v x) h hp))
theorem Lc_addAt {v w x : Int32} (h : Bo G L M S S' th u n s) (hp : ∀ G' n', Bo G' L M (q_addAt S v w x).2.2 S' th u n' s → ((q_addAt S v w x).1 = 0 → n' = (q_addAt S v w x).2.1.toInt64) → post (nI (q_addAt S v w x).1) G') : w_L_addAt K post (some L.1) v w x (some u) G :=
  c_rcv h.1 (c_addAt h.1 (L_res (a := q_addAt S v w x) h (sp_li_lt (Nat.le_of_ble_eq_true rfl) (fun _ _ _ => if_lt (Nat.le_of_ble_eq_true rfl) (Nat.le_of_ble_eq_true rfl))) hp))
theorem Lm_addAt {v w x : Int32} (h : Bo G L M S S' th u n s) (hp : ∀ G' M', M'.1 = M.1 → Bo G' L M' S (q_addAt S' v w x).2.2 (nI (q_addAt S' v w x).1) u n s → post (q_addAt S' v w x).2.1 G') : rcv G (some M.1.1) 5 (w_X3_addAt K post (some M.1.1) v w x G) :=
  m_rcv h.2.1 (m_addAt h.2.1 (L_mod (a := q_addAt S' v w x) h hp))
theorem Lc_addAll {v w : Int32} (h : Bo G L M S S' th u n s) (hp : ∀ G' n', Bo G' L M (q_addAll S v w).2.2 S' th u n' s → ((q_addAll S v w).1 = 0 → n' = (q_addAll S v w).2.1.toInt64) → post (nI (q_addAll S v w).1) G') : w_L_addAll K post (some L.1) v w (some u) G :=
  c_rcv h.1 (c_addAll h.1 (L_res1 (a := q_addAll S v w) h (sp_2_lt (Nat.le_of_ble_eq_true rfl) (fun _ _ _ _ _ _ => if_lt (Nat.le_of_ble_eq_true rfl) (Nat.le_of_ble_eq_true rfl))) hp))
theorem Lm_addAll {v w : Int32} (h : Bo G L M S S' th u n s) (hp : ∀ G' M', M'.1 = M.1 → Bo G' L M' S (q_addAll S' v w).2.2 (nI (q_addAll S' v w).1) u n s → post (q_addAll S' v w).2.1 G') : rcv G (some M.1.1) 5 (w_X3_addAll K post (some M.1.1) v w G) :=
  m_rcv h.2.1 (m_addAll h.2.1 (L_mod (a := q_addAll S' v w) h hp))
theorem Lc_remove {v w : Int32} (h : Bo G L M S S' th u n s) (hp : ∀ G' n', Bo G' L M (q_remove S v w).2.2 S' th u n' s → ((q_remove S v w).1 = 0 → n' = (q_remove S v w).2.1.toInt64) → post (nI (q_remove S v w).1) G') : w_L_remove K post (some L.1) v w (some u) G :=
  c_rcv h.1 (c_remove h.1 (L_res1 (a := q_remove S v w) h (sp_at_lt (Nat.le_of_ble_eq_true rfl) (fun _ _ _ _ => (Nat.le_of_ble_eq_true rfl))) hp))
theorem Lm_remove {v w : Int32} (h : Bo G L M S S' th u n s) (hp : ∀ G' M', M'.1 = M.1 → Bo G' L M' S (q_remove S' v w).2.2 (nI (q_remove S' v w).1) u n s → post (q_remove S' v w).2.1 G') : rcv G (some M.1.1) 5 (w_X3_remove K post (some M.1.1) v w G) :=
  m_rcv h.2.1 (m_remove h.2.1 (L_mod (a := q_remove S' v w) h hp))
theorem Lc_removeValue {v x : Int32} (h : Bo G L M S S' th u n s) (hp : ∀ G' n', Bo G' L M (q_removeValue S v x).2.2 S' th u n' s → ((q_removeValue S v x).1 = 0 → n' = (q_removeValue S v x).2.1.toInt64) → post (nI (q_removeValue S v x).1) G') : w_L_removeValue K post (some L.1) v x (some u) G :=
  c_rcv h.1 (c_removeValue h.1 (L_res (a := q_removeValue S v x) h (sp_li_lt (Nat.le_of_ble_eq_true rfl) (fun _ _ _ => if_lt (if_lt (Nat.le_of_ble_eq_true rfl) (Nat.le_of_ble_eq_true rfl)) (Nat.le_of_ble_eq_true rfl))) hp))
theorem Lm_removeValue {v x : Int32} (h : Bo G L M S S' th u n s) (hp : ∀ G' M', M'.1 = M.1 → Bo G' L M' S (q_removeValue S' v x).2.2 (nI (q_removeValue S' v x).1) u n s → post (q_removeValue S' v x).2.1 G') : rcv G (some M.1.1) 5 (w_X3_removeValue K post (some M.1.1) v x G) :=
  m_rcv h.2.1 (m_removeValue h.2.1 (L_mod (a := q_removeValue S' v x) h hp))
theorem Lc_removeAll {v w : Int32} (h : Bo G L M S S' th u n s) (hp : ∀ G' n', Bo G' L M (q_removeAll S v w).2.2 S' th u n' s → ((q_removeAll S v w).1 = 0 → n' = (q_removeAll S v w).2.1.toInt64) → post (nI (q_removeAll S v w).1) G') : w_L_removeAll K post (some L.1) v w (some u) G :=
  c_rcv h.1 (c_removeAll h.1 (L_res1 (a := q_removeAll S v w) h (sp_2_lt (Nat.le_of_ble_eq_true rfl) (fun _ _ _ _ _ _ => if_lt (Nat.le_of_ble_eq_true rfl) (Nat.le_of_ble_eq_true rfl))) hp))
theorem Lm_removeAll {v w : Int32} (h : Bo G L M S S' th u n s) (hp : ∀ G' M', M'.1 = M.1 → Bo G' L M' S (q_removeAll S' v w).2.2 (nI (q_removeAll S' v w).1) u n s → post (q_removeAll S' v w).2.1 G') : rcv G (some M.1.1) 5 (w_X3_removeAll K post (some M.1.1) v w G) :=
  m_rcv h.2.1 (m_removeAll h.2.1 (L_mod (a := q_removeAll S' v w) h hp))
theorem Lc_retainAll {v w : Int32} (h : Bo G L M S S' th u n s) (hp : ∀ G' n', Bo G' L M (q_retainAll S v w).2.2 S' th u n' s → ((q_retainAll S v w).1 = 0 → n' = (q_retainAll S v w).2.1.toInt64) → post (nI (q_retainAll S v w).1) G') : w_L_retainAll K post (some L.1) v w (some u) G :=
  c_rcv h.1 (c_retainAll h.1 (L_res1 (a := q_retainAll S v w) h (sp_2_lt (Nat.le_of_ble_eq_true rfl) (fun _ _ _ _ _ _ => if_lt (Nat.le_of_ble_eq_true rfl) (Nat.le_of_ble_eq_true rfl))) hp))
theorem Lm_retainAll {v w : Int32} (h : Bo G L M S S' th u n s) (hp : ∀ G' M', M'.1 = M.1 → Bo G' L M' S (q_retainAll S' v w).2.2 (nI (q_retainAll S' v w).1) u n s → post (q_retainAll S' v w).2.1 G') : rcv G (some M.1.1) 5 (w_X3_retainAll K post (some M.1.1) v w G) :=
  m_rcv h.2.1 (m_retainAll h.2.1 (L_mod (a := q_retainAll S' v w) h hp))
theorem Lc_removeIf {v t w : Int32} (h : Bo G L M S S' th u n s) (hp : ∀ G' n', Bo G' L M (q_removeIf S v t w).2.2 S' th u n' s → ((q_removeIf S v t w).1 = 0 → n' = (q_removeIf S v t w).2.1.toInt64) → post (nI (q_removeIf S v t w).1) G') : w_L_removeIf K post (some L.1) v t w (some u) G :=
  c_rcv h.1 (c_removeIf h.1 (L_res (a := q_removeIf S v t w) h (sp_li_lt (Nat.le_of_ble_eq_true rfl) (fun _ _ _ => if_lt (if_lt (Nat.le_of_ble_eq_true rfl) (Nat.le_of_ble_eq_true rfl)) (Nat.le_of_ble_eq_true rfl))) hp))
theorem Lm_removeIf {v t w : Int32} (h : Bo G L M S S' th u n s) (hp : ∀ G' M', M'.1 = M.1 → Bo G' L M' S (q_removeIf S' v t w).2.2 (nI (q_removeIf S' v t w).1) u n s → post (q_removeIf S' v t w).2.1 G') : rcv G (some M.1.1) 5 (w_X3_removeIf K post (some M.1.1) v t w G) :=
  m_rcv h.2.1 (m_removeIf h.2.1 (L_mod (a := q_removeIf S' v t w) h hp))
theorem Lc_clear {v : Int32} (h : Bo G L M S S' th u n s) (hp : ∀ G' n', Bo G' L M (q_clear S v).2.2 S' th u n' s → ((q_clear S v).1 = 0 → n' = (q_clear S v).2.1.toInt64) → post (nI (q_clear S v).1) G') : w_L_clear K post (some L.1) v (some u) G :=
  c_rcv h.1 (c_clear h.1 (L_res1 (a := q_clear S v) h (sp_li_lt (Nat.le_of_ble_eq_true rfl) (fun _ _ _ => if_lt (Nat.le_of_ble_eq_true rfl) (Nat.le_of_ble_eq_true rfl))) hp))
theorem Lm_clear {v : Int32} (h : Bo G L M S S' th u n s) (hp : ∀ G' M', M'.1 = M.1 → Bo G' L M' S (q_clear S' v).2.2 (nI (q_clear S' v).1) u n s → post (q_clear S' v).2.1 G') : rcv G (some M.1.1) 5 (w_X3_clear K post (some M.1.1) v G) :=
  m_rcv h.2.1 (m_clear h.2.1 (L_mod (a := q_clear S' v) h hp))
theorem Lc_walkChange {v w x : Int32} (h : Bo G L M S S' th u n s) (hp : ∀ G' n', Bo G' L M (q_walkChange S v w x).2.2 S' th u n' s → ((q_walkChange S v w x).1 = 0 → n' = (q_walkChange S v w x).2.1.toInt64) → post (nI (q_walkChange S v w x).1) G') : w_L_walkChange K post (some L.1) v w x (some u) G :=
  c_rcv h.1 (c_walkChange h.1 (L_res (a := q_walkChange S v w x) h (sp_at_lt (Nat.le_of_ble_eq_true rfl) (fun _ _ _ _ => if_lt (Nat.le_of_ble_eq_true rfl) (Nat.le_of_ble_eq_true rfl))) hp))
theorem Lm_walkChange {v w x : Int32} (h : Bo G L M S S' th u n s) (hp : ∀ G' M', M'.1 = M.1 → Bo G' L M' S (q_walkChange S' v w x).2.2 (nI (q_walkChange S' v w x).1) u n s → post (q_walkChange S' v w x).2.1 G') : rcv G (some M.1.1) 5 (w_X3_walkChange K post (some M.1.1) v w x G) :=
  m_rcv h.2.1 (m_walkChange h.2.1 (L_mod (a := q_walkChange S' v w x) h hp))
def q_house (S : tS) (v : Int32) : tA := if inR v 0 3 then (0, hoF S v, S) else (1, 0, S)
def q_rowOf (S : tS) (v : Int32) : tA := if inR v 0 6 then (0, ro1 (S_at S v), S) else (1, 0, S)
def q_begin (S : tS) (v : Int32) : tA := if inR v 0 6 then (0, be1 (S_at S v), S) else (1, 0, S)
theorem Lc_house {v : Int32} (h : Bo G L M S S' th u n s) (hp : ∀ G' n', Bo G' L M (q_house S v).2.2 S' th u n' s → ((q_house S v).1 = 0 → n' = (q_house S v).2.1.toInt64) → post (nI (q_house S v).1) G') : w_L_house K post (some L.1) v (some u) G := by
  refine c_rcv h.1 (c_house h.1 ?_)
  unfold q_house at hp
  by_cases c : inR v 0 3
  · rw [if_pos c]
    simp only [if_pos c] at hp
    exact L_res2 (a := (0, hoF S v, S)) h (Or.inl rfl) (fun G' n' h1 h2 => hp G' n' h1 (fun _ => h2 rfl))
  · rw [if_neg c]
    simp only [if_neg c] at hp
    exact L_res2 (a := (2, 0, S)) h (Or.inr rfl) (fun G' n' h1 h2 => hp G' n' h1 (fun z => absurd z (by decide)))
theorem Lm_house {v : Int32} (h : Bo G L M S S' th u n s) (hp : ∀ G' M', M'.1 = M.1 → Bo G' L M' S (q_house S' v).2.2 (nI (q_house S' v).1) u n s → post (q_house S' v).2.1 G') : rcv G (some M.1.1) 5 (w_X3_house K post (some M.1.1) v G) :=
  m_rcv h.2.1 (m_house h.2.1 (L_mod (a := q_house S' v) h hp))
theorem Lc_rowOf {v : Int32} (h : Bo G L M S S' th u n s) (hp : ∀ G' n', Bo G' L M (q_rowOf S v).2.2 S' th u n' s → ((q_rowOf S v).1 = 0 → n' = (q_rowOf S v).2.1.toInt64) → post (nI (q_rowOf S v).1) G') : w_L_rowOf K post (some L.1) v (some u) G := by
  refine c_rcv h.1 (c_rowOf h.1 ?_)
  unfold q_rowOf at hp
  by_cases c : inR v 0 6
  · rw [if_pos c]
    simp only [if_pos c] at hp
    exact L_res2 (a := (0, ro1 (S_at S v), S)) h (Or.inl rfl) (fun G' n' h1 h2 => hp G' n' h1 (fun _ => h2 rfl))
  · rw [if_neg c]
    simp only [if_neg c] at hp
    exact L_res2 (a := (2, 0, S)) h (Or.inr rfl) (fun G' n' h1 h2 => hp G' n' h1 (fun z => absurd z (by decide)))
theorem Lm_rowOf {v : Int32} (h : Bo G L M S S' th u n s) (hp : ∀ G' M', M'.1 = M.1 → Bo G' L M' S (q_rowOf S' v).2.2 (nI (q_rowOf S' v).1) u n s → post (q_rowOf S' v).2.1 G') : rcv G (some M.1.1) 5 (w_X3_rowOf K post (some M.1.1) v G) :=
  m_rcv h.2.1 (m_rowOf h.2.1 (L_mod (a := q_rowOf S' v) h hp))
theorem Lc_begin {v : Int32} (h : Bo G L M S S' th u n s) (hp : ∀ G' n', Bo G' L M (q_begin S v).2.2 S' th u n' s → ((q_begin S v).1 = 0 → n' = (q_begin S v).2.1.toInt64) → post (nI (q_begin S v).1) G') : w_L_begin K post (some L.1) v (some u) G := by
  refine c_rcv h.1 (c_begin h.1 ?_)
  unfold q_begin at hp
  by_cases c : inR v 0 6
  · rw [if_pos c]
    simp only [if_pos c] at hp
    exact L_res2 (a := (0, be1 (S_at S v), S)) h (Or.inl rfl) (fun G' n' h1 h2 => hp G' n' h1 (fun _ => h2 rfl))
  · rw [if_neg c]
    simp only [if_neg c] at hp
    exact L_res2 (a := (2, 0, S)) h (Or.inr rfl) (fun G' n' h1 h2 => hp G' n' h1 (fun z => absurd z (by decide)))
theorem Lm_begin {v : Int32} (h : Bo G L M S S' th u n s) (hp : ∀ G' M', M'.1 = M.1 → Bo G' L M' S (q_begin S' v).2.2 (nI (q_begin S' v).1) u n s → post (q_begin S' v).2.1 G') : rcv G (some M.1.1) 5 (w_X3_begin K post (some M.1.1) v G) :=
  m_rcv h.2.1 (m_begin h.2.1 (L_mod (a := q_begin S' v) h hp))
def S_kn1 (S : tS) : tS := (S.1, S.2.1, S.2.2.1 + 1, S.2.2.2)
theorem Lc_knock (h : Bo G L M S S' th u n s) (hp : ∀ G', Bo G' L M (S_kn1 S) S' th u n s → post (S.2.2.1 + 1) G') : rcv G (some L.1) 3 (w_X1_knock K post (some L.1) G) :=
  c_rcv h.1 (c_knock h.1 (fun G' f h' => hp G' (Bo_cls h f h')))
theorem Lm_knock (h : Bo G L M S S' th u n s) (hp : ∀ G', Bo G' L M S (S_kn1 S') 0 u n s → post (S'.2.2.1 + 1) G') : rcv G (some M.1.1) 5 (w_X3_knock K post (some M.1.1) G) :=
  m_rcv h.2.1 (m_knock h.2.1 (fun G' f h' => hp G' (Bo_mod h f (fun _ z => Or.inl z) h')))
theorem Lc_isSound (h : Bo G L M S S' th u n s) (hp : ∀ G', Bo G' L M S S' th u n s → post 1 G') : rcv G (some L.1) 3 (w_X1_isSound K post (some L.1) G) :=
  c_rcv h.1 (c_isSound h.1 (fun G' f h' => hp G' (Bo_cls h f h')))
theorem Lm_isSound (h : Bo G L M S S' th u n s) (hp : ∀ G', Bo G' L M S S' 0 u n s → post 1 G') : rcv G (some M.1.1) 5 (w_X3_isSound K post (some M.1.1) G) :=
  m_rcv h.2.1 (m_isSound h.2.1 (fun G' f h' => hp G' (Bo_mod h f (fun _ z => Or.inl z) h')))
theorem Lc_digest {pl : Int64 → tG → Prop} {px : String → tG → Prop} (h : Bo G L M S S' th u n s) (hp : ∀ G', Bo G' L M S S' th u n s → pl (diF S) G') : rcv G (some L.1) 3 (w_X1_digest K pl px (some L.1) G) :=
  c_rcv h.1 (c_digest h.1 (fun G' f h' => hp G' (Bo_cls h f h')))
theorem Lm_digest {pl : Int64 → tG → Prop} (h : Bo G L M S S' th u n s) (hp : ∀ G', Bo G' L M S S' 0 u n s → pl (diF S') G') : rcv G (some M.1.1) 5 (w_X3_digest K pl (some M.1.1) G) :=
  m_rcv h.2.1 (m_digest h.2.1 (fun G' f h' => hp G' (Bo_mod h f (fun _ z => Or.inl z) h')))
theorem Lc_text {v : Int32} {mc ms : Nat} (hK : KOK K) (h : Bo G L M S S' th u n s) (hmc : 70 ≤ mc) (hms : 600 ≤ ms) (hp : ∀ k G' s', Bo G' L M S S' th u n s' → post k G') : w_L_text K mc ms post (some L.1) v (some u) G :=
  ⟨mc, ms, by omega, by omega, c_rcv h.1 (c_text hK h.1 hmc hms (fun _ => ⟨fun _ => hp _ _ s h, fun z => absurd rfl z⟩) (fun _ _ _ _ x G' f h' => pfV_i (Bo_cls h f h').2.2.1 (Nat.le_of_ble_eq_true rfl) (hp _ _ _ (Bo_out (Bo_cls h f h') n (va_rf x)))))⟩
theorem Lm_text {v : Int32} {mc ms : Nat} {pr : Option Nat → tG → Prop} (hK : KOK K) (h : Bo G L M S S' th u n s) (hmc : 160 ≤ mc) (hms : 3200 ≤ ms) (hp : ∀ x G' th', Bo G' L M S S' th' u n s → pr x G') : rcv G (some M.1.1) 5 (w_X3_text K mc ms pr (some M.1.1) v G) :=
  m_rcv h.2.1 (m_text hK h.2.1 hmc hms (fun _ x G' f h' => hp x G' _ (Bo_mod h f (fun _ z => Or.inl z) h')) (fun _ _ _ _ _ _ _ x G' f h' => hp x G' _ (Bo_mod h f (fun _ z => Or.inl z) h')))
theorem Lc_back {v : Int32} {mc ms : Nat} (hK : KOK K) (h : Bo G L M S S' th u n s) (hmc : 70 ≤ mc) (hms : 600 ≤ ms) (hp : ∀ k G' s', Bo G' L M S S' th u n s' → post k G') : w_L_back K mc ms post (some L.1) v (some u) G :=
  ⟨mc, ms, by omega, by omega, c_rcv h.1 (c_back hK h.1 hmc hms (fun _ => ⟨fun _ => hp _ _ s h, fun z => absurd rfl z⟩) (fun _ _ _ _ x G' f h' => pfV_i (Bo_cls h f h').2.2.1 (Nat.le_of_ble_eq_true rfl) (hp _ _ _ (Bo_out (Bo_cls h f h') n (va_rf x)))))⟩
theorem Lm_back {v : Int32} {mc ms : Nat} {pr : Option Nat → tG → Prop} (hK : KOK K) (h : Bo G L M S S' th u n s) (hmc : 160 ≤ mc) (hms : 3200 ≤ ms) (hp : ∀ x G' th', Bo G' L M S S' th' u n s → pr x G') : rcv G (some M.1.1) 5 (w_X3_back K mc ms pr (some M.1.1) v G) :=
  m_rcv h.2.1 (m_back hK h.2.1 hmc hms (fun _ x G' f h' => hp x G' _ (Bo_mod h f (fun _ z => Or.inl z) h')) (fun _ _ _ _ _ _ _ x G' f h' => hp x G' _ (Bo_mod h f (fun _ z => Or.inl z) h')))
theorem Lc_walk {v p many back : Int32} {mc ms : Nat} (hK : KOK K) (h : Bo G L M S S' th u n s) (hmc : 70 ≤ mc) (hms : 600 ≤ ms) (hp : ∀ k G' s', Bo G' L M S S' th u n s' → post k G') : w_L_walk K mc ms post (some L.1) v p many back (some u) G :=
  ⟨mc, ms, by omega, by omega, c_rcv h.1 (c_walk hK h.1 hmc hms (fun _ => ⟨fun _ => hp _ _ s h, fun z => absurd rfl z⟩) (fun _ _ _ _ _ => ⟨fun z => absurd z (by decide), fun _ => ⟨fun _ => hp _ _ s h, fun z => absurd rfl z⟩⟩) (fun _ _ _ _ _ _ x G' f h' => pfV_i (Bo_cls h f h').2.2.1 (Nat.le_of_ble_eq_true rfl) (hp _ _ _ (Bo_out (Bo_cls h f h') n (va_rf x)))))⟩
theorem Lm_walk {v p many back : Int32} {mc ms : Nat} {pr : Option Nat → tG → Prop} (hK : KOK K) (h : Bo G L M S S' th u n s) (hmc : 200 ≤ mc) (hms : 6100 ≤ ms) (hp : ∀ x G' th', Bo G' L M S S' th' u n s → pr x G') : rcv G (some M.1.1) 5 (w_X3_walk K mc ms pr (some M.1.1) v p many back G) :=
  m_rcv h.2.1 (m_walk hK h.2.1 hmc hms (fun _ x G' f h' => hp x G' _ (Bo_mod h f (fun _ z => Or.inl z) h')) (fun _ _ _ _ _ _ _ _ x G' f h' => hp x G' _ (Bo_mod h f (fun _ z => Or.inl z) h')) (fun _ _ _ _ _ _ _ _ _ x G' f h' => hp x G' _ (Bo_mod h f (fun _ z => Or.inl z) h')))
end BOB
end
section
/-! the law: its loop, its start -/
theorem sl {xL : Nat} {xs : Nat → Int32} {i0 : Nat} {P : Int32 → Prop} (hi : i0 + 6 ≤ xL) (hx : xL ≤ 3072) (k : Nat) (hk : k < 6) (hp : P (xs (i0 + k))) : sld xL xs (nI i0 + nI k) P :=
  ⟨i0 + k, by rw [nI_add]; exact nI_toInt (by omega), by omega, hp⟩
theorem lg_self (x : Int64) : lg_cmp x x = 0 := by unfold lg_cmp; simp
theorem nI_z0 {a : Nat} (h : a < 3) (hz : nI a = 0) : a = 0 := (nI_eq (b := 0) (by omega) (by omega)).mp hz
def LK (k27 : Nat → Nat → Option Nat → Option Nat → Option Nat → Int32 → tG → Prop) (L : tL) (m0 u i0 nc ns : Nat) : Prop := ∀ (nc' ns' : Nat) (G' : tG) (M' : tM) (S' : tS) (th' : Int32) (n' : Int64) (s' : Value), Bo G' L M' S' S' th' u n' s' → M'.1.1 = m0 → nc' ≤ nc + 300 → ns' ≤ ns + 7000 → k27 nc' ns' (some L.1) (some m0) (some u) (nI (i0 + 6)) G' 
theorem law_end {K : tK} {xL : Nat} {xs : Nat → Int32} {k27 : Nat → Nat → Option Nat → Option Nat → Option Nat → Int32 → tG → Prop} {L : tL} {M M' : tM} {u i0 nc ns nc' ns' : Nat} {G' : tG} {S' : tS} {th' : Int32} {n' : Int64} {s' : Value} (hk : LK k27 L M.1.1 u i0 nc ns) (hB : Bo G' L M' S' S' th' u n' s') (e : M'.1 = M.1) (h1 : nc' ≤ nc + 300) (h2 : ns' ≤ ns + 7000) : w_L_law_2055 K xL xs k27 nc' ns' (some L.1) (some M.1.1) (some u) (nI i0) G' := by
  show k27 nc' ns' (some L.1) (some M.1.1) (some u) (nI i0 + 6) G'
  rw [show nI i0 + (6 : Int32) = nI (i0 + 6) from nI_add i0 6]
  exact hk nc' ns' G' M' S' th' n' s' hB (by rw [e]) h1 h2
section LAW
variable {K : tK} {xL : Nat} {xs : Nat → Int32} {k27 : Nat → Nat → Option Nat → Option Nat → Option Nat → Int32 → tG → Prop} {G : tG} {L : tL} {M : tM} {S : tS} {th : Int32} {u i0 nc ns : Nat} {n : Int64} {s : Value}
theorem law_round (hK : KOK K) (hx : xL ≤ 3072) (hi : i0 + 6 ≤ xL) (hB : Bo G L M S S th u n s) (hnc : nc + 300 ≤ 618168) (hns : ns + 7000 ≤ 7241600) (hk : LK k27 L M.1.1 u i0 nc ns) (hne : ¬ (Int32.ofNat xL - (6 : Int32)) < nI i0) : w_L_law_27_b K xL xs k27 nc ns (some L.1) (some M.1.1) (some u) (nI i0) G := by
  refine ⟨fun z => absurd z hne, fun _ => ⟨i0, nI_toInt (by omega), by omega, ?_⟩⟩
  refine ⟨fun _ => ?_, ?_⟩
  · refine sl hi hx 1 (by omega) ?_
    refine sl hi hx 2 (by omega) ?_
    refine ⟨⟨by omega, by omega⟩, ?_⟩
    refine Lc_lay hB (fun G1 n1 hB1 hn1 => ?_)
    refine sl hi hx 1 (by omega) ?_
    refine sl hi hx 2 (by omega) ?_
    refine ⟨⟨by omega, by omega⟩, ?_⟩
    refine Lm_lay hB1 (fun G2 M2 e2 hB2 => ?_)
    exact law_end hk hB2 e2 (by omega) (by omega)
  refine ⟨fun _ => ?_, ?_⟩
  · refine sl hi hx 1 (by omega) ?_
    refine sl hi hx 2 (by omega) ?_
    refine sl hi hx 3 (by omega) ?_
    refine ⟨⟨by omega, by omega⟩, ?_⟩
    refine Lc_put hB (fun G3 n3 hB3 hn3 => ?_)
    refine sl hi hx 1 (by omega) ?_
    refine sl hi hx 2 (by omega) ?_
    refine sl hi hx 3 (by omega) ?_
    refine Lm_put hB3 (fun G4 M4 e4 hB4 => ?_)
    exact law_end hk hB4 e4 (by omega) (by omega)
  refine ⟨fun _ => ?_, ?_⟩
  · refine sl hi hx 1 (by omega) ?_
    refine sl hi hx 2 (by omega) ?_
    refine ⟨⟨by omega, by omega⟩, ?_⟩
    refine Lc_at hB (fun G5 n5 hB5 hn5 => ?_)
    refine sl hi hx 1 (by omega) ?_
    refine sl hi hx 2 (by omega) ?_
    refine Lm_at hB5 (fun G6 M6 e6 hB6 => ?_)
    exact law_end hk hB6 e6 (by omega) (by omega)
  refine ⟨fun _ => ?_, ?_⟩
  · refine sl hi hx 1 (by omega) ?_
    refine sl hi hx 2 (by omega) ?_
    refine sl hi hx 3 (by omega) ?_
    refine sl hi hx 4 (by omega) ?_
    refine ⟨⟨by omega, by omega⟩, ?_⟩
    refine Lc_part hB (fun G7 n7 hB7 hn7 => ?_)
    refine sl hi hx 1 (by omega) ?_
    refine sl hi hx 2 (by omega) ?_
    refine sl hi hx 3 (by omega) ?_
    refine sl hi hx 4 (by omega) ?_
    refine Lm_part hB7 (fun G8 M8 e8 hB8 => ?_)
    exact law_end hk hB8 e8 (by omega) (by omega)
  refine ⟨fun _ => ?_, ?_⟩
  · refine sl hi hx 1 (by omega) ?_
    refine sl hi hx 2 (by omega) ?_
    refine sl hi hx 3 (by omega) ?_
    refine ⟨⟨by omega, by omega⟩, ?_⟩
    refine Lc_set hB (fun G9 n9 hB9 hn9 => ?_)
    refine sl hi hx 1 (by omega) ?_
    refine sl hi hx 2 (by omega) ?_
    refine sl hi hx 3 (by omega) ?_
    refine Lm_set hB9 (fun G10 M10 e10 hB10 => ?_)
    exact law_end hk hB10 e10 (by omega) (by omega)
  refine ⟨fun _ => ?_, ?_⟩
  · refine sl hi hx 1 (by omega) ?_
    refine sl hi hx 2 (by omega) ?_
    refine ⟨⟨by omega, by omega⟩, ?_⟩
    refine Lc_get hB (fun G11 n11 hB11 hn11 => ?_)
    refine sl hi hx 1 (by omega) ?_
    refine sl hi hx 2 (by omega) ?_
    refine Lm_get hB11 (fun G12 M12 e12 hB12 => ?_)
    exact law_end hk hB12 e12 (by omega) (by omega)
  refine ⟨fun _ => ?_, ?_⟩
  · refine sl hi hx 1 (by omega) ?_
    refine ⟨⟨by omega, by omega⟩, ?_⟩
    refine Lc_length hB (fun G13 n13 hB13 hn13 => ?_)
    refine sl hi hx 1 (by omega) ?_
    refine Lm_length hB13 (fun G14 M14 e14 hB14 => ?_)
    exact law_end hk hB14 e14 (by omega) (by omega)
  refine ⟨fun _ => ?_, ?_⟩
  · refine sl hi hx 1 (by omega) ?_
    refine ⟨⟨by omega, by omega⟩, ?_⟩
    refine Lc_isEmpty hB (fun G15 n15 hB15 hn15 => ?_)
    refine sl hi hx 1 (by omega) ?_
    refine Lm_isEmpty hB15 (fun G16 M16 e16 hB16 => ?_)
    exact law_end hk hB16 e16 (by omega) (by omega)
  refine ⟨fun _ => ?_, ?_⟩
  · refine sl hi hx 1 (by omega) ?_
    refine ⟨70, 600, by omega, by omega, ?_⟩
    refine Lc_text hK hB (Nat.le_refl _) (Nat.le_refl _) (fun _ G17 s17 hB17 => ?_)
    refine sl hi hx 1 (by omega) ?_
    refine ⟨160, 3200, by omega, by omega, ?_⟩
    refine Lm_text hK hB17 (Nat.le_refl _) (Nat.le_refl _) (fun _ G18 th18 hB18 => ?_)
    exact law_end hk hB18 rfl (by omega) (by omega)
  refine ⟨fun _ => ?_, ?_⟩
  · refine sl hi hx 1 (by omega) ?_
    refine ⟨70, 600, by omega, by omega, ?_⟩
    refine Lc_back hK hB (Nat.le_refl _) (Nat.le_refl _) (fun _ G19 s19 hB19 => ?_)
    refine sl hi hx 1 (by omega) ?_
    refine ⟨160, 3200, by omega, by omega, ?_⟩
    refine Lm_back hK hB19 (Nat.le_refl _) (Nat.le_refl _) (fun _ G20 th20 hB20 => ?_)
    exact law_end hk hB20 rfl (by omega) (by omega)
  refine ⟨fun _ => ?_, ?_⟩
  · refine sl hi hx 1 (by omega) ?_
    refine sl hi hx 2 (by omega) ?_
    refine ⟨⟨by omega, by omega⟩, ?_⟩
    refine Lc_indexOf hB (fun G21 n21 hB21 hn21 => ?_)
    refine sl hi hx 1 (by omega) ?_
    refine sl hi hx 2 (by omega) ?_
    refine ⟨⟨by omega, by omega⟩, ?_⟩
    refine Lm_indexOf hB21 (fun G22 M22 e22 hB22 => ?_)
    exact law_end hk hB22 e22 (by omega) (by omega)
  refine ⟨fun _ => ?_, ?_⟩
  · refine sl hi hx 1 (by omega) ?_
    refine sl hi hx 2 (by omega) ?_
    refine ⟨⟨by omega, by omega⟩, ?_⟩
    refine Lc_lastIndexOf hB (fun G23 n23 hB23 hn23 => ?_)
    refine sl hi hx 1 (by omega) ?_
    refine sl hi hx 2 (by omega) ?_
    refine Lm_lastIndexOf hB23 (fun G24 M24 e24 hB24 => ?_)
    exact law_end hk hB24 e24 (by omega) (by omega)
  refine ⟨fun _ => ?_, ?_⟩
  · refine sl hi hx 1 (by omega) ?_
    refine sl hi hx 2 (by omega) ?_
    refine ⟨⟨by omega, by omega⟩, ?_⟩
    refine Lc_has hB (fun G25 n25 hB25 hn25 => ?_)
    refine sl hi hx 1 (by omega) ?_
    refine sl hi hx 2 (by omega) ?_
    refine ⟨⟨by omega, by omega⟩, ?_⟩
    refine Lm_has hB25 (fun G26 M26 e26 hB26 => ?_)
    exact law_end hk hB26 e26 (by omega) (by omega)
  refine ⟨fun _ => ?_, ?_⟩
  · refine sl hi hx 1 (by omega) ?_
    refine sl hi hx 2 (by omega) ?_
    refine ⟨⟨by omega, by omega⟩, ?_⟩
    refine Lc_often hB (fun G27 n27 hB27 hn27 => ?_)
    refine sl hi hx 1 (by omega) ?_
    refine sl hi hx 2 (by omega) ?_
    refine ⟨⟨by omega, by omega⟩, ?_⟩
    refine Lm_often hB27 (fun G28 M28 e28 hB28 => ?_)
    exact law_end hk hB28 e28 (by omega) (by omega)
  refine ⟨fun _ => ?_, ?_⟩
  · refine sl hi hx 1 (by omega) ?_
    refine sl hi hx 2 (by omega) ?_
    refine ⟨⟨by omega, by omega⟩, ?_⟩
    refine Lc_hasAll hB (fun G29 n29 hB29 hn29 => ?_)
    refine sl hi hx 1 (by omega) ?_
    refine sl hi hx 2 (by omega) ?_
    refine ⟨⟨by omega, by omega⟩, ?_⟩
    refine Lm_hasAll hB29 (fun G30 M30 e30 hB30 => ?_)
    exact law_end hk hB30 e30 (by omega) (by omega)
  refine ⟨fun _ => ?_, ?_⟩
  · refine sl hi hx 1 (by omega) ?_
    refine sl hi hx 2 (by omega) ?_
    refine ⟨⟨by omega, by omega⟩, ?_⟩
    refine Lc_areApart hB (fun G31 n31 hB31 hn31 => ?_)
    refine sl hi hx 1 (by omega) ?_
    refine sl hi hx 2 (by omega) ?_
    refine ⟨⟨by omega, by omega⟩, ?_⟩
    refine Lm_areApart hB31 (fun G32 M32 e32 hB32 => ?_)
    exact law_end hk hB32 e32 (by omega) (by omega)
  refine ⟨fun _ => ?_, ?_⟩
  · refine sl hi hx 1 (by omega) ?_
    refine sl hi hx 2 (by omega) ?_
    refine ⟨⟨by omega, by omega⟩, ?_⟩
    refine Lc_indexOfAll hB (fun G33 n33 hB33 hn33 => ?_)
    refine sl hi hx 1 (by omega) ?_
    refine sl hi hx 2 (by omega) ?_
    refine ⟨⟨by omega, by omega⟩, ?_⟩
    refine Lm_indexOfAll hB33 (fun G34 M34 e34 hB34 => ?_)
    exact law_end hk hB34 e34 (by omega) (by omega)
  refine ⟨fun _ => ?_, ?_⟩
  · refine sl hi hx 1 (by omega) ?_
    refine sl hi hx 2 (by omega) ?_
    refine ⟨⟨by omega, by omega⟩, ?_⟩
    refine Lc_areEqual hB (fun G35 n35 hB35 hn35 => ?_)
    refine sl hi hx 1 (by omega) ?_
    refine sl hi hx 2 (by omega) ?_
    refine ⟨⟨by omega, by omega⟩, ?_⟩
    refine Lm_areEqual hB35 (fun G36 M36 e36 hB36 => ?_)
    exact law_end hk hB36 e36 (by omega) (by omega)
  refine ⟨fun _ => ?_, ?_⟩
  · refine sl hi hx 1 (by omega) ?_
    refine ⟨⟨by omega, by omega⟩, ?_⟩
    refine Lc_code hB (fun G37 n37 hB37 hn37 => ?_)
    refine sl hi hx 1 (by omega) ?_
    refine ⟨⟨by omega, by omega⟩, ?_⟩
    refine Lm_code hB37 (fun G38 M38 e38 hB38 => ?_)
    exact law_end hk hB38 e38 (by omega) (by omega)
  refine ⟨fun _ => ?_, ?_⟩
  · by_cases c : xs (i0 + 4) = 0
    · refine sl hi hx 1 (by omega) ?_
      refine sl hi hx 2 (by omega) ?_
      refine sl hi hx 3 (by omega) ?_
      refine sl hi hx 4 (by omega) ?_
      refine ⟨fun _ => ?_, fun z => absurd c z⟩
      unfold w_L_law_1021
      refine ⟨70, 600, by omega, by omega, ?_⟩
      refine Lc_walk hK hB (Nat.le_refl _) (Nat.le_refl _) (fun _ G39 s39 hB39 => ?_)
      refine sl hi hx 1 (by omega) ?_
      refine sl hi hx 2 (by omega) ?_
      refine sl hi hx 3 (by omega) ?_
      refine sl hi hx 4 (by omega) ?_
      refine ⟨fun _ => ?_, fun z => absurd c z⟩
      unfold w_L_law_1060
      refine ⟨200, 6100, by omega, by omega, ?_⟩
      refine Lm_walk hK hB39 (Nat.le_refl _) (Nat.le_refl _) (fun _ G40 th40 hB40 => ?_)
      exact law_end hk hB40 rfl (by omega) (by omega)
    · refine sl hi hx 1 (by omega) ?_
      refine sl hi hx 2 (by omega) ?_
      refine sl hi hx 3 (by omega) ?_
      refine sl hi hx 4 (by omega) ?_
      refine ⟨fun z => absurd z c, fun _ => ?_⟩
      unfold w_L_law_1021
      refine ⟨70, 600, by omega, by omega, ?_⟩
      refine Lc_walk hK hB (Nat.le_refl _) (Nat.le_refl _) (fun _ G41 s41 hB41 => ?_)
      refine sl hi hx 1 (by omega) ?_
      refine sl hi hx 2 (by omega) ?_
      refine sl hi hx 3 (by omega) ?_
      refine sl hi hx 4 (by omega) ?_
      refine ⟨fun z => absurd z c, fun _ => ?_⟩
      unfold w_L_law_1060
      refine ⟨200, 6100, by omega, by omega, ?_⟩
      refine Lm_walk hK hB41 (Nat.le_refl _) (Nat.le_refl _) (fun _ G42 th42 hB42 => ?_)
      exact law_end hk hB42 rfl (by omega) (by omega)
  refine ⟨fun _ => ?_, ?_⟩
  · refine sl hi hx 1 (by omega) ?_
    refine ⟨⟨by omega, by omega⟩, ?_⟩
    refine Lc_sum hB (fun G43 n43 hB43 hn43 => ?_)
    refine sl hi hx 1 (by omega) ?_
    refine ⟨⟨by omega, by omega⟩, ?_⟩
    refine Lm_sum hB43 (fun G44 M44 e44 hB44 => ?_)
    exact law_end hk hB44 e44 (by omega) (by omega)
  refine ⟨fun _ => ?_, ?_⟩
  · by_cases c : xs (i0 + 5) = 0
    · refine sl hi hx 1 (by omega) ?_
      refine sl hi hx 2 (by omega) ?_
      refine sl hi hx 3 (by omega) ?_
      refine sl hi hx 4 (by omega) ?_
      refine sl hi hx 5 (by omega) ?_
      refine ⟨fun _ => ?_, fun z => absurd c z⟩
      unfold w_L_law_1135
      refine ⟨⟨by omega, by omega⟩, ?_⟩
      refine Lc_walkSet hB (fun G45 n45 hB45 hn45 => ?_)
      refine sl hi hx 1 (by omega) ?_
      refine sl hi hx 2 (by omega) ?_
      refine sl hi hx 3 (by omega) ?_
      refine sl hi hx 4 (by omega) ?_
      refine sl hi hx 5 (by omega) ?_
      refine ⟨fun _ => ?_, fun z => absurd c z⟩
      unfold w_L_law_1180
      refine Lm_walkSet hB45 (fun G46 M46 e46 hB46 => ?_)
      exact law_end hk hB46 e46 (by omega) (by omega)
    · refine sl hi hx 1 (by omega) ?_
      refine sl hi hx 2 (by omega) ?_
      refine sl hi hx 3 (by omega) ?_
      refine sl hi hx 4 (by omega) ?_
      refine sl hi hx 5 (by omega) ?_
      refine ⟨fun z => absurd z c, fun _ => ?_⟩
      unfold w_L_law_1135
      refine ⟨⟨by omega, by omega⟩, ?_⟩
      refine Lc_walkSet hB (fun G47 n47 hB47 hn47 => ?_)
      refine sl hi hx 1 (by omega) ?_
      refine sl hi hx 2 (by omega) ?_
      refine sl hi hx 3 (by omega) ?_
      refine sl hi hx 4 (by omega) ?_
      refine sl hi hx 5 (by omega) ?_
      refine ⟨fun z => absurd z c, fun _ => ?_⟩
      unfold w_L_law_1180
      refine Lm_walkSet hB47 (fun G48 M48 e48 hB48 => ?_)
      exact law_end hk hB48 e48 (by omega) (by omega)
  refine ⟨fun _ => ?_, ?_⟩
  · refine sl hi hx 1 (by omega) ?_
    refine sl hi hx 2 (by omega) ?_
    refine sl hi hx 3 (by omega) ?_
    refine ⟨⟨by omega, by omega⟩, ?_⟩
    refine Lc_replaceAll hB (fun G49 n49 hB49 hn49 => ?_)
    refine sl hi hx 1 (by omega) ?_
    refine sl hi hx 2 (by omega) ?_
    refine sl hi hx 3 (by omega) ?_
    refine Lm_replaceAll hB49 (fun G50 M50 e50 hB50 => ?_)
    exact law_end hk hB50 e50 (by omega) (by omega)
  refine ⟨fun _ => ?_, ?_⟩
  · refine sl hi hx 1 (by omega) ?_
    refine sl hi hx 2 (by omega) ?_
    refine sl hi hx 3 (by omega) ?_
    refine ⟨⟨by omega, by omega⟩, ?_⟩
    refine Lc_replaceOld hB (fun G51 n51 hB51 hn51 => ?_)
    refine sl hi hx 1 (by omega) ?_
    refine sl hi hx 2 (by omega) ?_
    refine sl hi hx 3 (by omega) ?_
    refine ⟨⟨by omega, by omega⟩, ?_⟩
    refine Lm_replaceOld hB51 (fun G52 M52 e52 hB52 => ?_)
    exact law_end hk hB52 e52 (by omega) (by omega)
  refine ⟨fun _ => ?_, ?_⟩
  · refine sl hi hx 1 (by omega) ?_
    refine sl hi hx 2 (by omega) ?_
    refine ⟨⟨by omega, by omega⟩, ?_⟩
    refine Lc_fill hB (fun G53 n53 hB53 hn53 => ?_)
    refine sl hi hx 1 (by omega) ?_
    refine sl hi hx 2 (by omega) ?_
    refine Lm_fill hB53 (fun G54 M54 e54 hB54 => ?_)
    exact law_end hk hB54 e54 (by omega) (by omega)
  refine ⟨fun _ => ?_, ?_⟩
  · by_cases c : xs (i0 + 2) = 0
    · refine sl hi hx 1 (by omega) ?_
      refine sl hi hx 2 (by omega) ?_
      refine ⟨fun _ => ?_, fun z => absurd c z⟩
      unfold w_L_law_1353
      refine ⟨⟨by omega, by omega⟩, ?_⟩
      refine Lc_sort hB (fun G55 n55 hB55 hn55 => ?_)
      refine sl hi hx 1 (by omega) ?_
      refine sl hi hx 2 (by omega) ?_
      refine ⟨fun _ => ?_, fun z => absurd c z⟩
      unfold w_L_law_1380
      refine ⟨⟨by omega, by omega⟩, ?_⟩
      refine Lm_sort hB55 (fun G56 M56 e56 hB56 => ?_)
      exact law_end hk hB56 e56 (by omega) (by omega)
    · refine sl hi hx 1 (by omega) ?_
      refine sl hi hx 2 (by omega) ?_
      refine ⟨fun z => absurd z c, fun _ => ?_⟩
      unfold w_L_law_1353
      refine ⟨⟨by omega, by omega⟩, ?_⟩
      refine Lc_sort hB (fun G57 n57 hB57 hn57 => ?_)
      refine sl hi hx 1 (by omega) ?_
      refine sl hi hx 2 (by omega) ?_
      refine ⟨fun z => absurd z c, fun _ => ?_⟩
      unfold w_L_law_1380
      refine ⟨⟨by omega, by omega⟩, ?_⟩
      refine Lm_sort hB57 (fun G58 M58 e58 hB58 => ?_)
      exact law_end hk hB58 e58 (by omega) (by omega)
  refine ⟨fun _ => ?_, ?_⟩
  · refine sl hi hx 1 (by omega) ?_
    refine ⟨⟨by omega, by omega⟩, ?_⟩
    refine Lc_reverse hB (fun G59 n59 hB59 hn59 => ?_)
    refine sl hi hx 1 (by omega) ?_
    refine ⟨⟨by omega, by omega⟩, ?_⟩
    refine Lm_reverse hB59 (fun G60 M60 e60 hB60 => ?_)
    exact law_end hk hB60 e60 (by omega) (by omega)
  refine ⟨fun _ => ?_, ?_⟩
  · refine sl hi hx 1 (by omega) ?_
    refine sl hi hx 2 (by omega) ?_
    refine ⟨⟨by omega, by omega⟩, ?_⟩
    refine Lc_rotate hB (fun G61 n61 hB61 hn61 => ?_)
    refine sl hi hx 1 (by omega) ?_
    refine sl hi hx 2 (by omega) ?_
    refine ⟨⟨by omega, by omega⟩, ?_⟩
    refine Lm_rotate hB61 (fun G62 M62 e62 hB62 => ?_)
    exact law_end hk hB62 e62 (by omega) (by omega)
  refine ⟨fun _ => ?_, ?_⟩
  · refine sl hi hx 1 (by omega) ?_
    refine sl hi hx 2 (by omega) ?_
    refine sl hi hx 3 (by omega) ?_
    refine ⟨⟨by omega, by omega⟩, ?_⟩
    refine Lc_swap hB (fun G63 n63 hB63 hn63 => ?_)
    refine sl hi hx 1 (by omega) ?_
    refine sl hi hx 2 (by omega) ?_
    refine sl hi hx 3 (by omega) ?_
    refine Lm_swap hB63 (fun G64 M64 e64 hB64 => ?_)
    exact law_end hk hB64 e64 (by omega) (by omega)
  refine ⟨fun _ => ?_, ?_⟩
  · refine sl hi hx 1 (by omega) ?_
    refine sl hi hx 2 (by omega) ?_
    refine ⟨⟨by omega, by omega⟩, ?_⟩
    refine Lc_add hB (fun G65 n65 hB65 hn65 => ?_)
    refine sl hi hx 1 (by omega) ?_
    refine sl hi hx 2 (by omega) ?_
    refine Lm_add hB65 (fun G66 M66 e66 hB66 => ?_)
    exact law_end hk hB66 e66 (by omega) (by omega)
  refine ⟨fun _ => ?_, ?_⟩
  · refine sl hi hx 1 (by omega) ?_
    refine sl hi hx 2 (by omega) ?_
    refine sl hi hx 3 (by omega) ?_
    refine ⟨⟨by omega, by omega⟩, ?_⟩
    refine Lc_addAt hB (fun G67 n67 hB67 hn67 => ?_)
    refine sl hi hx 1 (by omega) ?_
    refine sl hi hx 2 (by omega) ?_
    refine sl hi hx 3 (by omega) ?_
    refine Lm_addAt hB67 (fun G68 M68 e68 hB68 => ?_)
    exact law_end hk hB68 e68 (by omega) (by omega)
  refine ⟨fun _ => ?_, ?_⟩
  · refine sl hi hx 1 (by omega) ?_
    refine sl hi hx 2 (by omega) ?_
    refine ⟨⟨by omega, by omega⟩, ?_⟩
    refine Lc_addAll hB (fun G69 n69 hB69 hn69 => ?_)
    refine sl hi hx 1 (by omega) ?_
    refine sl hi hx 2 (by omega) ?_
    refine Lm_addAll hB69 (fun G70 M70 e70 hB70 => ?_)
    exact law_end hk hB70 e70 (by omega) (by omega)
  refine ⟨fun _ => ?_, ?_⟩
  · refine sl hi hx 1 (by omega) ?_
    refine sl hi hx 2 (by omega) ?_
    refine ⟨⟨by omega, by omega⟩, ?_⟩
    refine Lc_remove hB (fun G71 n71 hB71 hn71 => ?_)
    refine sl hi hx 1 (by omega) ?_
    refine sl hi hx 2 (by omega) ?_
    refine Lm_remove hB71 (fun G72 M72 e72 hB72 => ?_)
    exact law_end hk hB72 e72 (by omega) (by omega)
  refine ⟨fun _ => ?_, ?_⟩
  · refine sl hi hx 1 (by omega) ?_
    refine sl hi hx 2 (by omega) ?_
    refine ⟨⟨by omega, by omega⟩, ?_⟩
    refine Lc_removeValue hB (fun G73 n73 hB73 hn73 => ?_)
    refine sl hi hx 1 (by omega) ?_
    refine sl hi hx 2 (by omega) ?_
    refine ⟨⟨by omega, by omega⟩, ?_⟩
    refine Lm_removeValue hB73 (fun G74 M74 e74 hB74 => ?_)
    exact law_end hk hB74 e74 (by omega) (by omega)
  refine ⟨fun _ => ?_, ?_⟩
  · refine sl hi hx 1 (by omega) ?_
    refine sl hi hx 2 (by omega) ?_
    refine ⟨⟨by omega, by omega⟩, ?_⟩
    refine Lc_removeAll hB (fun G75 n75 hB75 hn75 => ?_)
    refine sl hi hx 1 (by omega) ?_
    refine sl hi hx 2 (by omega) ?_
    refine ⟨⟨by omega, by omega⟩, ?_⟩
    refine Lm_removeAll hB75 (fun G76 M76 e76 hB76 => ?_)
    exact law_end hk hB76 e76 (by omega) (by omega)
  refine ⟨fun _ => ?_, ?_⟩
  · refine sl hi hx 1 (by omega) ?_
    refine sl hi hx 2 (by omega) ?_
    refine ⟨⟨by omega, by omega⟩, ?_⟩
    refine Lc_retainAll hB (fun G77 n77 hB77 hn77 => ?_)
    refine sl hi hx 1 (by omega) ?_
    refine sl hi hx 2 (by omega) ?_
    refine ⟨⟨by omega, by omega⟩, ?_⟩
    refine Lm_retainAll hB77 (fun G78 M78 e78 hB78 => ?_)
    exact law_end hk hB78 e78 (by omega) (by omega)
  refine ⟨fun _ => ?_, ?_⟩
  · refine sl hi hx 1 (by omega) ?_
    refine sl hi hx 2 (by omega) ?_
    refine sl hi hx 3 (by omega) ?_
    refine ⟨⟨by omega, by omega⟩, ?_⟩
    refine Lc_removeIf hB (fun G79 n79 hB79 hn79 => ?_)
    refine sl hi hx 1 (by omega) ?_
    refine sl hi hx 2 (by omega) ?_
    refine sl hi hx 3 (by omega) ?_
    refine ⟨⟨by omega, by omega⟩, ?_⟩
    refine Lm_removeIf hB79 (fun G80 M80 e80 hB80 => ?_)
    exact law_end hk hB80 e80 (by omega) (by omega)
  refine ⟨fun _ => ?_, ?_⟩
  · refine sl hi hx 1 (by omega) ?_
    refine ⟨⟨by omega, by omega⟩, ?_⟩
    refine Lc_clear hB (fun G81 n81 hB81 hn81 => ?_)
    refine sl hi hx 1 (by omega) ?_
    refine Lm_clear hB81 (fun G82 M82 e82 hB82 => ?_)
    exact law_end hk hB82 e82 (by omega) (by omega)
  refine ⟨fun _ => ?_, ?_⟩
  · refine sl hi hx 1 (by omega) ?_
    refine sl hi hx 2 (by omega) ?_
    refine sl hi hx 3 (by omega) ?_
    refine ⟨⟨by omega, by omega⟩, ?_⟩
    refine Lc_walkChange hB (fun G83 n83 hB83 hn83 => ?_)
    refine sl hi hx 1 (by omega) ?_
    refine sl hi hx 2 (by omega) ?_
    refine sl hi hx 3 (by omega) ?_
    refine Lm_walkChange hB83 (fun G84 M84 e84 hB84 => ?_)
    exact law_end hk hB84 e84 (by omega) (by omega)
  refine ⟨fun _ => ?_, ?_⟩
  · refine Lc_knock hB (fun G85 hB85 => ?_)
    refine Lm_knock hB85 (fun G86 hB86 => ?_)
    refine ⟨fun _ => ?_, fun z => absurd rfl z⟩
    exact law_end hk hB86 rfl (by omega) (by omega)
  refine ⟨fun _ => ?_, ?_⟩
  · refine sl hi hx 1 (by omega) ?_
    refine ⟨⟨by omega, by omega⟩, ?_⟩
    refine Lc_house hB (fun G87 n87 hB87 hn87 => ?_)
    refine sl hi hx 1 (by omega) ?_
    refine ⟨⟨by omega, by omega⟩, ?_⟩
    refine Lm_house hB87 (fun G88 M88 e88 hB88 => ?_)
    exact law_end hk hB88 e88 (by omega) (by omega)
  refine ⟨fun _ => ?_, ?_⟩
  · refine sl hi hx 1 (by omega) ?_
    refine ⟨⟨by omega, by omega⟩, ?_⟩
    refine Lc_rowOf hB (fun G89 n89 hB89 hn89 => ?_)
    refine sl hi hx 1 (by omega) ?_
    refine Lm_rowOf hB89 (fun G90 M90 e90 hB90 => ?_)
    exact law_end hk hB90 e90 (by omega) (by omega)
  refine ⟨fun _ => ?_, ?_⟩
  · refine sl hi hx 1 (by omega) ?_
    refine ⟨⟨by omega, by omega⟩, ?_⟩
    refine Lc_begin hB (fun G91 n91 hB91 hn91 => ?_)
    refine sl hi hx 1 (by omega) ?_
    refine Lm_begin hB91 (fun G92 M92 e92 hB92 => ?_)
    exact law_end hk hB92 e92 (by omega) (by omega)
  refine ⟨fun _ => ?_, ?_⟩
  · refine ⟨⟨by omega, by omega⟩, ?_⟩
    refine Lc_isSound hB (fun G93 hB93 => ?_)
    refine Lm_isSound hB93 (fun G94 hB94 => ?_)
    exact law_end hk hB94 rfl (by omega) (by omega)
  refine ⟨fun _ => ?_, ?_⟩
  · refine ⟨⟨by omega, by omega⟩, ?_⟩
    refine Lc_digest hB (fun G95 hB95 => ?_)
    refine ⟨⟨by omega, by omega⟩, ?_⟩
    refine Lm_digest hB95 (fun G96 hB96 => ?_)
    exact law_end hk hB96 rfl (by omega) (by omega)
  exact fun _ => law_end hk hB rfl (by omega) (by omega)
set_option maxRecDepth 20000 in
theorem law_loop (hK : KOK K) (hx : xL ≤ 3072) : ∀ (k t : Nat) (G : tG) (M : tM) (S : tS) (th : Int32) (n : Int64) (s : Value) (nc ns : Nat), t + k = 513 → Bo G L M S S th u n s → nc ≤ 20 + 300 * t → ns ≤ 120 + 7000 * t → w_L_law_27 K xL xs (k + 1) nc ns (some L.1) (some M.1.1) (some u) (nI (6 * t)) G := by
  have h6 : (6 : Int32).toInt = 6 := rfl
  have hsub : (Int32.ofNat xL - (6 : Int32)).toInt = (xL : Int) - 6 := nI_sub (b := 6) (by omega) (by omega)
  intro k
  induction k with
  | zero =>
    intro t G M S th n s nc ns ht hB hnc hns
    show w_L_law_27_b K xL xs (w_L_law_27 K xL xs 0) nc ns (some L.1) (some M.1.1) (some u) (nI (6 * t)) G
    refine ⟨fun _ => rfl, fun z => absurd ?_ z⟩
    rw [i32_lt, hsub, nI_toInt (by omega)]
    omega
  | succ k ih =>
    intro t G M S th n s nc ns ht hB hnc hns
    show w_L_law_27_b K xL xs (w_L_law_27 K xL xs (k + 1)) nc ns (some L.1) (some M.1.1) (some u) (nI (6 * t)) G
    by_cases c : (Int32.ofNat xL - (6 : Int32)) < nI (6 * t)
    · exact ⟨fun _ => rfl, fun z => absurd c z⟩
    · refine law_round hK hx ?_ hB (by omega) (by omega) (fun nc' ns' G' M' S' th' n' s' h1 h2 h3 h4 => ?_) c
      · rw [i32_lt, hsub, nI_toInt (by omega)] at c
        omega
      · have := ih (t + 1) G' M' S' th' n' s' nc' ns' (by omega) h1 (by omega) (by omega)
        rw [h2, show 6 * (t + 1) = 6 * t + 6 by omega] at this
        exact this
theorem law_pure (hK : KOK K) (hx : xL ≤ 3072) : w_L_law K xL xs (fun _ => none) := by
  refine ⟨⟨by omega, by omega⟩, fun x hx0 => ⟨⟨by omega, by omega⟩, ⟨x, rfl⟩, c_init1 (tg_s _ _ _) (fun G1 L e1 h1 f1 w1 => ⟨⟨by omega, by omega⟩, fun y hy => ⟨⟨by omega, by omega⟩, ⟨y, rfl⟩, ?_⟩⟩)⟩⟩
  have h2 := TwR_fresh h1 hy (fun a ha => tg_n G1 (.inr (5, [.null, .null, .null, .null, .int 0, .int 0, .int 0, .long 0])) ha)
  refine m_init (tg_s _ _ _) (fun G2 M e2 h3 f2 w2 => ⟨⟨by omega, by omega⟩, fun u hu => ⟨⟨u, rfl⟩, ⟨u, rfl⟩, ?_⟩⟩)
  subst e1
  subst e2
  have hd : ∀ q, clsW L q → ¬ moW M q := fun q hq hm => by
    obtain ⟨e, he⟩ := TwR_some h1 hq
    rcases w2 q hm with c | c
    · rw [c, hy] at he; cases he
    · rw [(tg_none c).2] at he; cases he
  have h4 : TwR G2 L S_0 := TwR_fr h2 f2 (fun q hq e => hd q hq (Or.inl e)) (fun q fs e hg => by
    have e : q = M.1.1 := e
    rw [e, tg_s] at hg
    cases hg)
  have hB : Bo (tg_up G2 u (oOut 0 .null)) L M S_0 S_0 0 u 0 .null := by
    refine ⟨TwR_fresh h4 hu (fun a ha => tg_n _ _ ha), MoR_fresh h3 hu (fun a ha => tg_n _ _ ha), tg_s _ _ _, hd⟩
  exact ⟨514, law_loop hK hx 513 0 _ M S_0 0 0 .null _ _ (by omega) hB (by omega) (by omega)⟩
end LAW
end
section
/-! THE START: what the launch gives of the constants -/
section START
variable {s : State} {A : Nat → Prop} {args : Array Value}
def st_S (A : Nat → Prop) (s : State) (a v : Nat) : Prop := va_O "java/lang/String" a A s s.heap ∧ va_OF "java/lang/String" "coder" "B" (.int 0) a A s s.heap ∧ va_OF "java/lang/String" "value" "[B" (.ref v) a A s s.heap
def st_T (A : Nat → Prop) (s : State) (v n : Nat) (f : Nat → Int32) : Prop := va_T .byte v n (fun j => .int (f j)) A s s.heap ∧ (∀ j, fits .byte (.int (f j)) = true) ∧ n < 2 ^ 31
noncomputable def st_k1 (A : Nat → Prop) (s : State) (a : Nat) : Option Nat := @dite _ (∃ v, st_S A s a v) (Classical.propDecidable _) (fun h => some h.choose) (fun _ => none)
noncomputable def st_k2 (A : Nat → Prop) (s : State) (v : Nat) : Option (Nat × (Nat → Int32)) := @dite _ (∃ q : Nat × (Nat → Int32), st_T A s v q.1 q.2) (Classical.propDecidable _) (fun h => some h.choose) (fun _ => none)
theorem st_OF_inj {o n d : String} {v w : Value} {t : Nat} {U : State} {H : Heap} (h1 : va_OF o n d v t A U H) (h2 : va_OF o n d w t A U H) : v = w := by
  obtain ⟨cf, k, i, f, cell, a1, a2, a3, a4, a5, a6⟩ := h1
  obtain ⟨cf', k', i', f', cell', b1, b2, b3, b4, b5, b6⟩ := h2
  cases a1.symm.trans b1
  cases a3.symm.trans b3
  exact Option.some.inj (a5.symm.trans b5)
theorem st_T_inj {ty : FieldType} {t n k : Nat} {f g : Nat → Value} {U : State} {H : Heap} (hn : n < 2 ^ 31) (hk : k < 2 ^ 31) (h1 : va_T ty t n f A U H) (h2 : va_T ty t k g A U H) : n = k := by
  obtain ⟨cell, a1, a2, a3, a4, a5, a6⟩ := h1
  obtain ⟨cell', b1, b2, b3, b4, b5, b6⟩ := h2
  cases a1.symm.trans b1
  have e : Int32.ofNat n = Int32.ofNat k := a5.symm.trans b5
  have e1 := congrArg Int32.toInt e
  rw [Int32.toInt_ofNat_of_lt hn, Int32.toInt_ofNat_of_lt hk] at e1
  omega
theorem st_k1_of {a v : Nat} (h : st_S A s a v) : st_k1 A s a = some v := by
  have hx : ∃ v, st_S A s a v := ⟨v, h⟩
  unfold st_k1
  rw [dif_pos hx]
  have := st_OF_inj hx.choose_spec.2.2 h.2.2
  rw [Value.ref.inj this]
theorem st_k1_spec {a v : Nat} (h : st_k1 A s a = some v) : st_S A s a v := by
  unfold st_k1 at h
  by_cases hx : ∃ v, st_S A s a v
  · rw [dif_pos hx] at h
    have := hx.choose_spec
    rw [Option.some.inj h] at this
    exact this
  · rw [dif_neg hx] at h
    cases h
theorem st_k2_spec {v n : Nat} {f : Nat → Int32} (h : st_k2 A s v = some (n, f)) : st_T A s v n f := by
  unfold st_k2 at h
  by_cases hx : ∃ q : Nat × (Nat → Int32), st_T A s v q.1 q.2
  · rw [dif_pos hx] at h
    have := hx.choose_spec
    rw [Option.some.inj h] at this
    exact this
  · rw [dif_neg hx] at h
    cases h
theorem st_k2_of {v n : Nat} {f : Nat → Int32} (h : st_T A s v n f) : ∃ g, st_k2 A s v = some (n, g) ∧ ∀ j, fits .byte (.int (g j)) = true := by
  have hx : ∃ q : Nat × (Nat → Int32), st_T A s v q.1 q.2 := ⟨(n, f), h⟩
  have h1 := hx.choose_spec
  have h2 : st_k2 A s v = some hx.choose := by unfold st_k2; rw [dif_pos hx]
  have h3 := st_T_inj h1.2.2 h.2.2 h1.1 h.1
  refine ⟨hx.choose.2, ?_, h1.2.1⟩
  rw [h2, ← h3]
theorem st_ref {own : String} {k : Nat} (hex : (Cond.exactly (.string own k) "java/lang/String").before args s = true) : ∃ a, (Term.string own k).eval args s none [] s = some (.ref a) := by
  obtain ⟨a, c, cA, kA, q1, q2, q3, q4, q5, q6, -⟩ := Cond.exactly_spec (args := args) (first := s) (o := none) (s := s) (idx := []) (t := .string own k) (cls := "java/lang/String") hex
  exact ⟨a, q1⟩
theorem st_str {own : String} {k : Nat} (n : Nat) (f : Nat → Int32) (hn : n < 2 ^ 31) (hf : ∀ j, fits .byte (.int (f j)) = true) (hex : (Cond.exactly (.string own k) "java/lang/String").before args s = true) (hco : (Cond.eq (.field (.string own k) "java/lang/String" "coder" "B") (.int 0)).before args s = true)
    (har : (Cond.arrayOf (.field (.string own k) "java/lang/String" "value" "[B") .byte).before args s = true) (hle : (Cond.eq (.length (.field (.string own k) "java/lang/String" "value" "[B")) (.int (Int32.ofNat n))).before args s = true)
    (hel : ∀ j, j < n → (Cond.eq (.elem (.field (.string own k) "java/lang/String" "value" "[B") (.int (Int32.ofNat j))) (.int (f j))).before args s = true) (hA : ∀ a : Nat, a < s.heap.size → ¬ A a) :
    ∃ a, (Term.string own k).eval args s none [] s = some (.ref a) ∧ ∃ w g, st_k1 A s a = some w ∧ st_k2 A s w = some (n, g) ∧ ∀ j, fits .byte (.int (g j)) = true := by
  obtain ⟨a, c, cA, kA, q1, q2, q3, q4, q5, q6, -⟩ := Cond.exactly_spec (args := args) (first := s) (o := none) (s := s) (idx := []) (t := .string own k) (cls := "java/lang/String") hex
  obtain ⟨t, ht, hT⟩ := va_Tof (f := fun j => .int (f j)) (A := A) hn har (va_eqt hle) (fun j hj => va_eqt (hel j hj)) hA
  obtain ⟨g, g1, g2⟩ := st_k2_of (A := A) (s := s) ⟨hT, hf, hn⟩
  exact ⟨a, q1, t, g, st_k1_of ⟨⟨cA, q3, q5, by rw [q6]; exact q2, hA a (Array.getElem?_eq_some_iff.mp q3).1⟩, vk_OFof q1 (va_eqt hco) hA, vk_OFof q1 ht hA⟩, g1, g2⟩
def st_f1 (x : Int32) (_ : Nat) : Int32 := x
theorem st_one {own : String} {k : Nat} (x : Int32) (hx : fits .byte (.int x) = true) (hex : (Cond.exactly (.string own k) "java/lang/String").before args s = true) (hco : (Cond.eq (.field (.string own k) "java/lang/String" "coder" "B") (.int 0)).before args s = true)
    (har : (Cond.arrayOf (.field (.string own k) "java/lang/String" "value" "[B") .byte).before args s = true) (hle : (Cond.eq (.length (.field (.string own k) "java/lang/String" "value" "[B")) (.int 1)).before args s = true)
    (hel : (Cond.eq (.elem (.field (.string own k) "java/lang/String" "value" "[B") (.int 0)) (.int x)).before args s = true) (hA : ∀ a : Nat, a < s.heap.size → ¬ A a) :
    ∃ a, (Term.string own k).eval args s none [] s = some (.ref a) ∧ ∃ w g, st_k1 A s a = some w ∧ st_k2 A s w = some (1, g) ∧ ∀ j, fits .byte (.int (g j)) = true :=
  st_str 1 (st_f1 x) (by decide) (fun _ => hx) hex hco har hle (fun j hj => by
    obtain rfl : j = 0 := by omega
    exact hel) hA
def st_oT (j : Nat) : Int32 := Int32.ofNat (48 + (j % 100) / 10)
def st_oO (j : Nat) : Int32 := Int32.ofNat (48 + j % 10)
theorem st_oT_f (j : Nat) : fits .byte (.int (st_oT j)) = true := by
  have h : ∀ r, r < 100 → fits .byte (.int (Int32.ofNat (48 + r / 10))) = true := by decide
  exact h (j % 100) (Nat.mod_lt _ (by decide))
theorem st_oO_f (j : Nat) : fits .byte (.int (st_oO j)) = true := by
  have h : ∀ r, r < 10 → fits .byte (.int (Int32.ofNat (48 + r))) = true := by decide
  exact h (j % 10) (Nat.mod_lt _ (by decide))
theorem st_in (j : Nat) (hj : j < 100) : Cond.eq (.elem (.static "java/lang/Integer" "DigitTens" "[B") (.int (Int32.ofNat j))) (.int (st_oT j)) ∈ flatC (Jvm.Cond.and given_1 narrow_1) :=
  va_run (L := flatC (Jvm.Cond.and given_1 narrow_1)) (N := 100) (p := 117) (f := fun j => Cond.eq (.elem (.static "java/lang/Integer" "DigitTens" "[B") (.int (Int32.ofNat j))) (.int (st_oT j))) (by decide +kernel) j hj
theorem st_on (j : Nat) (hj : j < 100) : Cond.eq (.elem (.static "java/lang/Integer" "DigitOnes" "[B") (.int (Int32.ofNat j))) (.int (st_oO j)) ∈ flatC (Jvm.Cond.and given_1 narrow_1) :=
  va_run (L := flatC (Jvm.Cond.and given_1 narrow_1)) (N := 100) (p := 14) (f := fun j => Cond.eq (.elem (.static "java/lang/Integer" "DigitOnes" "[B") (.int (Int32.ofNat j))) (.int (st_oO j))) (by decide +kernel) j hj
theorem st_tab {n : String} (f : Nat → Int32) (hf : ∀ j, fits .byte (.int (f j)) = true) (hl : (Cond.laysStatic "java/lang/Integer" n "[B").before args s = true) (hi : (Cond.initialized "java/lang/Integer").before args s = true) (har : (Cond.arrayOf (.static "java/lang/Integer" n "[B") .byte).before args s = true) (hle : (Cond.eq (.length (.static "java/lang/Integer" n "[B")) (.int 100)).before args s = true)
    (hel : ∀ j, j < 100 → (Cond.eq (.elem (.static "java/lang/Integer" n "[B") (.int (Int32.ofNat j))) (.int (f j))).before args s = true) (hA : ∀ a : Nat, a < s.heap.size → ¬ A a) : ∃ t, va_Z "java/lang/Integer" n "[B" (.ref t) A s s.heap ∧ ∃ g, st_k2 A s t = some (100, g) := by
  obtain ⟨t, ht, hT⟩ := va_Tof (f := fun j => .int (f j)) (N := 100) (A := A) (by decide) har (va_eqt hle) (fun j hj => va_eqt (hel j hj)) hA
  obtain ⟨g, g1, -⟩ := st_k2_of (A := A) (s := s) ⟨hT, hf, by decide⟩
  exact ⟨t, va_Zof hl hi ht hA, g, g1⟩
def st_ad (a0 a1 a2 a3 a4 a5 a6 a7 a8 tT tO : Nat) : Nat → Nat
  | 0 => a0
  | 1 => a1
  | 2 => a2
  | 3 => a3
  | 4 => a4
  | 5 => a5
  | 6 => a6
  | 7 => a7
  | 8 => a8
  | 20 => tT
  | _ => tO
set_option maxRecDepth 100000 in
set_option maxHeartbeats 4000000 in
theorem st_C {b : Nat} (hA : ∀ a : Nat, a < s.heap.size → ¬ A a) (hts : ∀ w ∈ lw_tbl, w.before #[Value.ref b] s = true) (hgv : (Jvm.Cond.and given_1 narrow_1).before #[Value.ref b] s = true) : ∃ K : tK, tk_C K A s s.heap ∧ KOK K := by
  have hs := flat_of_before _ hgv
  obtain ⟨a0, e0⟩ := st_ref (hs (Cond.exactly (.string "Twinrow" 190) "java/lang/String") (by decide +kernel))
  obtain ⟨a1, e1⟩ := st_ref (hs (Cond.exactly (.string "Twinrow" 195) "java/lang/String") (by decide +kernel))
  obtain ⟨a2, e2⟩ := st_ref (hs (Cond.exactly (.string "Twinrow" 197) "java/lang/String") (by decide +kernel))
  obtain ⟨a3, e3⟩ := st_ref (hs (Cond.exactly (.string "Twinrow" 203) "java/lang/String") (by decide +kernel))
  obtain ⟨a4, e4⟩ := st_ref (hs (Cond.exactly (.string "Twinrow" 207) "java/lang/String") (by decide +kernel))
  obtain ⟨a5, e5, k5⟩ := st_one (own := "TwinrowModel") (k := 63) (A := A) 45 (by decide) (hs _ (by decide +kernel)) (hs _ (by decide +kernel)) (hs _ (by decide +kernel)) (hs _ (by decide +kernel)) (hs _ (by decide +kernel)) hA
  obtain ⟨a6, e6, k6⟩ := st_str (own := "TwinrowModel") (k := 68) (A := A) 0 (st_f1 0) (by decide) (fun _ => show fits .byte (.int (0 : Int32)) = true by decide) (hs _ (by decide +kernel)) (hs _ (by decide +kernel)) (hs _ (by decide +kernel)) (hs _ (by decide +kernel)) (fun j hj => absurd hj (Nat.not_lt_zero j)) hA
  obtain ⟨a7, e7, k7⟩ := st_one (own := "TwinrowModel") (k := 109) (A := A) 32 (by decide) (hs _ (by decide +kernel)) (hs _ (by decide +kernel)) (hs _ (by decide +kernel)) (hs _ (by decide +kernel)) (hs _ (by decide +kernel)) hA
  obtain ⟨a8, e8, k8⟩ := st_one (own := "TwinrowModel") (k := 138) (A := A) 58 (by decide) (hs _ (by decide +kernel)) (hs _ (by decide +kernel)) (hs _ (by decide +kernel)) (hs _ (by decide +kernel)) (hs _ (by decide +kernel)) hA
  obtain ⟨tT, zT, gT, kT⟩ := st_tab (n := "DigitTens") (A := A) st_oT st_oT_f (hts _ (by decide +kernel)) (hts _ (by decide +kernel)) (hs _ (by decide +kernel)) (hs _ (by decide +kernel)) (fun j hj => hs _ (st_in j hj)) hA
  obtain ⟨tO, zO, gO, kO⟩ := st_tab (n := "DigitOnes") (A := A) st_oO st_oO_f (hts _ (by decide +kernel)) (hts _ (by decide +kernel)) (hs _ (by decide +kernel)) (hs _ (by decide +kernel)) (fun j hj => hs _ (st_on j hj)) hA
  refine ⟨(st_k1 A s, st_k2 A s, st_ad a0 a1 a2 a3 a4 a5 a6 a7 a8 tT tO), ⟨?_, ?_, ?_, ?_, ?_, ?_, ?_, ?_, zT, zO, ?_⟩, ?_⟩
  · exact vx_Zqof (hts _ (by decide +kernel)) (hts _ (by decide +kernel)) (hs _ (by decide +kernel)) hA
  · exact vx_Zqof (hts _ (by decide +kernel)) (hts _ (by decide +kernel)) (hs _ (by decide +kernel)) hA
  · exact va_AO.of (hts _ (by decide +kernel))
  · exact hts (Cond.arrayOver (.array .int)) (by decide +kernel)
  · intro q hq
    unfold tk_strs at hq
    rcases List.mem_cons.mp hq with rfl | hq
    · exact vk_R.of (hts _ (by decide +kernel)) e0
    rcases List.mem_cons.mp hq with rfl | hq
    · exact vk_R.of (hts _ (by decide +kernel)) e1
    rcases List.mem_cons.mp hq with rfl | hq
    · exact vk_R.of (hts _ (by decide +kernel)) e2
    rcases List.mem_cons.mp hq with rfl | hq
    · exact vk_R.of (hts _ (by decide +kernel)) e3
    rcases List.mem_cons.mp hq with rfl | hq
    · exact vk_R.of (hts _ (by decide +kernel)) e4
    rcases List.mem_cons.mp hq with rfl | hq
    · exact vk_R.of (hts _ (by decide +kernel)) e5
    rcases List.mem_cons.mp hq with rfl | hq
    · exact vk_R.of (hts _ (by decide +kernel)) e6
    rcases List.mem_cons.mp hq with rfl | hq
    · exact vk_R.of (hts _ (by decide +kernel)) e7
    rcases List.mem_cons.mp hq with rfl | hq
    · exact vk_R.of (hts _ (by decide +kernel)) e8
    · exact absurd hq List.not_mem_nil
  · exact fun a v hv => st_k1_spec hv
  · exact fun v n f hv => ⟨(st_k2_spec hv).1, (st_k2_spec hv).2.1⟩
  · exact va_Zof (hts _ (by decide +kernel)) (hts _ (by decide +kernel)) (va_eqi (hs _ (by decide +kernel))) hA
  · refine ⟨va_Nw.of rfl (hts _ (by decide +kernel)), va_Nw.of rfl (hts _ (by decide +kernel)), va_Nw.of rfl (hts _ (by decide +kernel)), va_Nw.of rfl (hts _ (by decide +kernel)), va_Nc.of (hs _ (by decide +kernel)), va_Nw.of rfl (hts _ (by decide +kernel)), va_Nw.of rfl (hts _ (by decide +kernel)), va_Nw.of rfl (hts _ (by decide +kernel)), va_Nw.of rfl (hts _ (by decide +kernel))⟩
  · obtain ⟨w5, g5, x5, y5, z5⟩ := k5
    obtain ⟨w6, g6, x6, y6, z6⟩ := k6
    obtain ⟨w7, g7, x7, y7, z7⟩ := k7
    obtain ⟨w8, g8, x8, y8, z8⟩ := k8
    exact ⟨⟨w5, g5, x5, y5, fun i _ => z5 i⟩, ⟨w6, g6, x6, y6, fun i _ => z6 i⟩, ⟨w7, g7, x7, y7, fun i _ => z7 i⟩, ⟨w8, g8, x8, y8, fun i _ => z8 i⟩, ⟨gT, kT⟩, ⟨gO, kO⟩⟩
end START
end
