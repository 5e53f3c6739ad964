def lw_ex : List Cond := [Cond.selects RJ4 ⟨"java/lang/AbstractStringBuilder", "newCapacity", "(I)I"⟩ yJ5_newCapacity_0f7a4, Cond.selects RJ4 ⟨"java/lang/AbstractStringBuilder", "ensureCapacityInternal", "(I)V"⟩ yJ5_ensureCapacityInternal_d00df, Cond.selects RJ4 ⟨"java/lang/AbstractStringBuilder", "inflateIfNeededFor", "(Ljava/lang/String;)V"⟩ yJ5_inflateIfNeededFor_a7421, Cond.selects RJ4 ⟨"java/lang/AbstractStringBuilder", "putStringAt", "(ILjava/lang/String;)V"⟩ yJ5_putStringAt_47b60]
def lw_t2 : List Cond := lw_tbl ++ lw_ex
theorem tw_selP {C : String} {y z : MethodName} {s : State} {args : Array Value} (hy : y.cls ≠ "java/lang/invoke/MethodHandle" ∧ y.cls ≠ "java/lang/invoke/VarHandle") (hz : (Cond.selects C z z).before args s = true) (hyz : z.cls = y.cls) (hpriv : (Cond.privateMethod y).before args s = true) (hinst : (Cond.instanceMethod y).before args s = true) : (Cond.selects C y y).before args s = true := by
  obtain ⟨c, r, m, h1, -, h3, -, kz, h5, h6⟩ := Cond.selects_spec hz
  obtain ⟨mk, methM, hnamed, hmethM, -, -⟩ := Cond.instanceMethod_spec hinst
  have hfound : s.methodFound? y.cls y.name y.desc = some mk := State.methodFound?_of_named hnamed hy
  have e1 : mk.cls = m.cls := Option.some.inj ((findClass_of_methodNamed hnamed).symm.trans (by rw [← hyz]; exact findClass_of_methodNamed h3))
  have hsel : selectMethod {} s.vm c mk = .method mk := selectMethod_private hmethM (Cond.privateMethod_at hpriv mk methM hnamed hmethM)
  simp only [Cond.before, Cond.holds, Cond.value, h1, hfound, hnamed, hsel, e1, h5]
  simp; exact h6
theorem lw_t2_ok {s : State} {args : Array Value} (h : ∀ w ∈ lw_tbl, w.before args s = true) : ∀ w ∈ lw_t2, w.before args s = true := by
  intro w hw
  rcases List.mem_append.mp hw with hw | hw
  · exact h w hw
  · have hz : (Cond.selects RJ4 (⟨"java/lang/AbstractStringBuilder", "isLatin1", "()Z"⟩ : MethodName) (⟨"java/lang/AbstractStringBuilder", "isLatin1", "()Z"⟩ : MethodName)).before args s = true := h _ (List.mem_of_getElem? (i := 485) (by decide +kernel))
    rcases List.mem_cons.mp hw with rfl | hw
    · exact tw_selP (by decide +kernel) hz rfl (h _ (List.mem_of_getElem? (i := 452) (by decide +kernel))) (h _ (List.mem_of_getElem? (i := 453) (by decide +kernel)))
    rcases List.mem_cons.mp hw with rfl | hw
    · exact tw_selP (by decide +kernel) hz rfl (h _ (List.mem_of_getElem? (i := 448) (by decide +kernel))) (h _ (List.mem_of_getElem? (i := 449) (by decide +kernel)))
    rcases List.mem_cons.mp hw with rfl | hw
    · exact tw_selP (by decide +kernel) hz rfl (h _ (List.mem_of_getElem? (i := 641) (by decide +kernel))) (h _ (List.mem_of_getElem? (i := 642) (by decide +kernel)))
    rcases List.mem_cons.mp hw with rfl | hw
    · exact tw_selP (by decide +kernel) hz rfl (h _ (List.mem_of_getElem? (i := 637) (by decide +kernel))) (h _ (List.mem_of_getElem? (i := 638) (by decide +kernel)))
    · exact absurd hw List.not_mem_nil
def w0 : List Cond := lw_t2.filter goodWord
theorem w0_in {w : Cond} (i : Nat) (h : lw_t2[i]? = some w) (hg : goodWord w = true) : w ∈ w0 := List.mem_filter.mpr ⟨List.mem_of_getElem? h, hg⟩
theorem zm {x w : Cond} (h : w ∈ w0) : w ∈ x :: w0 := List.mem_cons_of_mem _ h
theorem zh {x : Cond} {L : List Cond} (h : ∀ w ∈ L, w ∈ w0) : ∀ w ∈ L, w ∈ x :: w0 := fun w hw => List.mem_cons_of_mem _ (h w hw)
theorem gi_0 {x c : Cond} (hc : c ∈ x :: w0) (hx : goodWord c = true) : GoodIn (x :: w0) (c :: w0) := fun w hw => (List.mem_cons.mp hw).elim (fun e => by rw [e]; exact ⟨hc, good_of_word hx⟩) (fun h => ⟨List.mem_cons_of_mem _ h, good_of_word (List.mem_filter.mp h).2⟩)
theorem gi_1 {x w : Cond} {L : List Cond} (hw : w ∈ x :: w0) (hg : goodWord w = true) (h : GoodIn (x :: w0) L) : GoodIn (x :: w0) (w :: L) := fun v hv => (List.mem_cons.mp hv).elim (fun e => by rw [e]; exact ⟨hw, good_of_word hg⟩) (fun q => h v q)
section GI
variable {x : Cond} {own C owner : String} {idx maxL : Nat} {y z : MethodName} {bytes : ByteArray} {ret : Option FieldType} {hh : List (Nat × Nat × Nat × Nat)}
theorem gi_V (a1 : Cond.methodLink own idx y ∈ x :: w0) (a2 : Cond.instanceMethod y ∈ x :: w0) (a3 : Cond.selects C y y ∈ x :: w0) (a4 : Cond.initialized C ∈ x :: w0) (a5 : Cond.code y bytes maxL ret ∈ x :: w0) : GoodIn (x :: w0) (wsV own idx C y (Cond.code y bytes maxL ret :: w0)) := gi_1 a1 rfl (gi_1 a2 rfl (gi_1 a3 rfl (gi_1 a4 rfl (gi_0 a5 rfl))))
theorem gi_S (a1 : Cond.methodLink own idx y ∈ x :: w0) (a2 : Cond.static y ∈ x :: w0) (a4 : Cond.initialized y.cls ∈ x :: w0) (a5 : Cond.code y bytes maxL ret ∈ x :: w0) : GoodIn (x :: w0) (va_wsS own idx y (Cond.code y bytes maxL ret :: w0)) := gi_1 a1 rfl (gi_1 a2 rfl (gi_1 a4 rfl (gi_0 a5 rfl)))
theorem gi_SX (a1 : Cond.methodLink own idx y ∈ x :: w0) (a2 : Cond.static y ∈ x :: w0) (a4 : Cond.initialized y.cls ∈ x :: w0) (a5 : Cond.codeWith y bytes maxL ret hh ∈ x :: w0) : GoodIn (x :: w0) (va_wsS own idx y (Cond.codeWith y bytes maxL ret hh :: w0)) := gi_1 a1 rfl (gi_1 a2 rfl (gi_1 a4 rfl (gi_0 a5 rfl)))
theorem gi_U (a1 : Cond.methodLink own idx z ∈ x :: w0) (a2 : Cond.sameMethod z.cls owner z.name z.desc ∈ x :: w0) (a3 : Cond.selects C z y ∈ x :: w0) (a4 : Cond.instanceMethod y ∈ x :: w0) (a5 : Cond.initialized y.cls ∈ x :: w0) (a6 : Cond.code y bytes maxL ret ∈ x :: w0) : GoodIn (x :: w0) (va_wsU own idx C owner z y (Cond.code y bytes maxL ret :: w0)) := gi_1 a1 rfl (gi_1 a2 rfl (gi_1 a3 rfl (gi_1 a4 rfl (gi_1 a5 rfl (gi_0 a6 rfl)))))
theorem gi_O (a1 : Cond.methodLink own idx z ∈ x :: w0) (a2 : Cond.sameMethod z.cls owner z.name z.desc ∈ x :: w0) (a7 : Cond.instanceMethod ⟨owner, z.name, z.desc⟩ ∈ x :: w0) (a3 : Cond.selects C z y ∈ x :: w0) (a4 : Cond.instanceMethod y ∈ x :: w0) (a5 : Cond.initialized y.cls ∈ x :: w0) (a6 : Cond.code y bytes maxL ret ∈ x :: w0) : GoodIn (x :: w0) (va_wsO own idx C owner z y (Cond.code y bytes maxL ret :: w0)) := gi_1 a1 rfl (gi_1 a2 rfl (gi_1 a7 rfl (gi_1 a3 rfl (gi_1 a4 rfl (gi_1 a5 rfl (gi_0 a6 rfl))))))
theorem gi_SU (a1 : Cond.methodLink own idx y ∈ x :: w0) (a2 : Cond.sameMethod y.cls y.cls y.name y.desc ∈ x :: w0) (a3 : Cond.superclass own y.cls ∈ x :: w0) (a4 : Cond.instanceMethod y ∈ x :: w0) (a5 : Cond.initialized y.cls ∈ x :: w0) (a6 : Cond.code y bytes maxL ret ∈ x :: w0) : GoodIn (x :: w0) (va_wsSU own idx y (Cond.code y bytes maxL ret :: w0)) := gi_1 a1 rfl (gi_1 a2 rfl (gi_1 a3 rfl (gi_1 a4 rfl (gi_1 a5 rfl (gi_0 a6 rfl)))))
theorem gi_I (a5 : Cond.code y bytes maxL ret ∈ x :: w0) : GoodIn (x :: w0) (Cond.code y bytes maxL ret :: w0) := gi_0 a5 rfl
end GI
theorem kw_0 : Cond.methodLink RX0 3 objectInit ∈ w0 := w0_in 67 (by decide +kernel) rfl
theorem kw_1 : Cond.instanceMethod objectInit ∈ w0 := w0_in 59 (by decide +kernel) rfl
set_option maxRecDepth 40000 in
theorem kw_2 : Cond.code objectInit ⟨#[0xb1]⟩ 1 none ∈ w0 := w0_in 60 rfl rfl
theorem kw_3 : Cond.fieldLink RX0 9 "Twinrow$RowList" "row" "I" ∈ w0 := w0_in 68 (by decide +kernel) rfl
theorem kw_4 : Cond.fieldLink RX0 15 "Twinrow$RowList" "values" "[I" ∈ w0 := w0_in 70 (by decide +kernel) rfl
theorem kw_5 : Cond.fieldLink RX0 19 "Twinrow$RowList" "begin" "I" ∈ w0 := w0_in 72 (by decide +kernel) rfl
theorem kw_6 : Cond.fieldLink RX0 22 "Twinrow$RowList" "length" "I" ∈ w0 := w0_in 74 (by decide +kernel) rfl
theorem kw_7 : Cond.fieldLink RX1 11 "Twinrow" "lists" "[LTwinrow$RowList;" ∈ w0 := w0_in 86 (by decide +kernel) rfl
theorem kw_8 : Cond.classLink RX1 9 RX0 ∈ w0 := w0_in 61 (by decide +kernel) rfl
theorem kw_9 : Cond.instantiable RX0 4 ∈ w0 := w0_in 63 (by decide +kernel) rfl
theorem kw_10 : Cond.initialized RX0 ∈ w0 := w0_in 34 (by decide +kernel) rfl
theorem kw_11 : Cond.arrayClass .int ∈ w0 := w0_in 85 (by decide +kernel) rfl
set_option maxRecDepth 40000 in
theorem kw_12 : Cond.code yX0_init cX0_init 5 none ∈ w0 := w0_in 66 rfl rfl
theorem kw_13 : Cond.methodLink RX1 26 yX0_init ∈ w0 := w0_in 64 (by decide +kernel) rfl
theorem kw_14 : Cond.instanceMethod yX0_init ∈ w0 := w0_in 65 (by decide +kernel) rfl
theorem kw_15 : Cond.methodLink RX1 1 objectInit ∈ w0 := w0_in 58 (by decide +kernel) rfl
theorem kw_16 : Cond.fieldLink RX1 15 "Twinrow" "spare" "[I" ∈ w0 := w0_in 87 (by decide +kernel) rfl
theorem kw_17 : Cond.fieldLink RX1 19 "Twinrow" "knocks" "I" ∈ w0 := w0_in 88 (by decide +kernel) rfl
theorem kw_18 : Cond.fieldLink RX1 23 "Twinrow" "refusals" "I" ∈ w0 := w0_in 89 (by decide +kernel) rfl
theorem kw_19 : Cond.methodLink RX3 1 objectInit ∈ w0 := w0_in 948 (by decide +kernel) rfl
theorem kw_20 : Cond.classLink RX3 7 "[I" ∈ w0 := w0_in 949 (by decide +kernel) rfl
theorem kw_21 : Cond.fieldLink RX3 9 "TwinrowModel" "rows" "[[I" ∈ w0 := w0_in 951 (by decide +kernel) rfl
theorem kw_22 : Cond.fieldLink RX3 15 "TwinrowModel" "rowsOf" "[I" ∈ w0 := w0_in 952 (by decide +kernel) rfl
theorem kw_23 : Cond.fieldLink RX3 18 "TwinrowModel" "begins" "[I" ∈ w0 := w0_in 953 (by decide +kernel) rfl
theorem kw_24 : Cond.fieldLink RX3 21 "TwinrowModel" "lengths" "[I" ∈ w0 := w0_in 954 (by decide +kernel) rfl
theorem kw_25 : Cond.methodLink RX2 1 objectInit ∈ w0 := w0_in 312 (by decide +kernel) rfl
set_option maxRecDepth 40000 in
theorem kw_26 : Cond.code yX0_read cX0_read 3 (some .int) ∈ w0 := w0_in 121 rfl rfl
theorem kw_27 : Cond.methodLink RX1 59 yX0_read ∈ w0 := w0_in 118 (by decide +kernel) rfl
theorem kw_28 : Cond.instanceMethod yX0_read ∈ w0 := w0_in 119 (by decide +kernel) rfl
theorem kw_29 : Cond.selects RX0 yX0_read yX0_read ∈ w0 := w0_in 120 (by decide +kernel) rfl
set_option maxRecDepth 40000 in
theorem kw_30 : Cond.code yX1_numberOf cX1_numberOf 1 (some .int) ∈ w0 := w0_in 127 rfl rfl
theorem kw_31 : Cond.methodLink RX1 115 yX1_numberOf ∈ w0 := w0_in 125 (by decide +kernel) rfl
theorem kw_32 : Cond.static yX1_numberOf ∈ w0 := w0_in 126 (by decide +kernel) rfl
theorem kw_33 : Cond.initialized RX1 ∈ w0 := w0_in 33 (by decide +kernel) rfl
theorem kw_34 : Cond.fieldLink RX1 68 "Twinrow$RowList" "length" "I" ∈ w0 := w0_in 75 (by decide +kernel) rfl
set_option maxRecDepth 40000 in
theorem kw_35 : Cond.code yX1_codeOf cX1_codeOf 5 (some .int) ∈ w0 := w0_in 124 rfl rfl
theorem kw_36 : Cond.methodLink RX1 102 yX1_codeOf ∈ w0 := w0_in 122 (by decide +kernel) rfl
theorem kw_37 : Cond.static yX1_codeOf ∈ w0 := w0_in 123 (by decide +kernel) rfl
theorem kw_38 : Cond.fieldLink RX1 161 "Twinrow$RowList" "begin" "I" ∈ w0 := w0_in 73 (by decide +kernel) rfl
set_option maxRecDepth 40000 in
theorem kw_39 : Cond.code yX1_hasAllFrom cX1_hasAllFrom 4 (some .boolean) ∈ w0 := w0_in 142 rfl rfl
theorem kw_40 : Cond.methodLink RX1 94 yX1_hasAllFrom ∈ w0 := w0_in 140 (by decide +kernel) rfl
theorem kw_41 : Cond.static yX1_hasAllFrom ∈ w0 := w0_in 141 (by decide +kernel) rfl
theorem kw_42 : Cond.methodLink RX0 25 yX0_read ∈ w0 := w0_in 136 (by decide +kernel) rfl
set_option maxRecDepth 40000 in
theorem kw_43 : Cond.code yX1_areSame cX1_areSame 2 (some .boolean) ∈ w0 := w0_in 139 rfl rfl
theorem kw_44 : Cond.methodLink RX1 98 yX1_areSame ∈ w0 := w0_in 137 (by decide +kernel) rfl
theorem kw_45 : Cond.static yX1_areSame ∈ w0 := w0_in 138 (by decide +kernel) rfl
set_option maxRecDepth 40000 in
theorem kw_46 : Cond.code yX0_write cX0_write 5 (some .int) ∈ w0 := w0_in 135 rfl rfl
theorem kw_47 : Cond.methodLink RX1 55 yX0_write ∈ w0 := w0_in 132 (by decide +kernel) rfl
theorem kw_48 : Cond.instanceMethod yX0_write ∈ w0 := w0_in 133 (by decide +kernel) rfl
theorem kw_49 : Cond.selects RX0 yX0_write yX0_write ∈ w0 := w0_in 134 (by decide +kernel) rfl
set_option maxRecDepth 40000 in
theorem kw_50 : Cond.code yX1_placeAfter cX1_placeAfter 3 (some .int) ∈ w0 := w0_in 148 rfl rfl
theorem kw_51 : Cond.methodLink RX1 213 yX1_placeAfter ∈ w0 := w0_in 146 (by decide +kernel) rfl
theorem kw_52 : Cond.static yX1_placeAfter ∈ w0 := w0_in 147 (by decide +kernel) rfl
set_option maxRecDepth 40000 in
theorem kw_53 : Cond.code yX1_firstPlace cX1_firstPlace 3 (some .int) ∈ w0 := w0_in 154 rfl rfl
theorem kw_54 : Cond.methodLink RX1 79 yX1_firstPlace ∈ w0 := w0_in 152 (by decide +kernel) rfl
theorem kw_55 : Cond.static yX1_firstPlace ∈ w0 := w0_in 153 (by decide +kernel) rfl
set_option maxRecDepth 40000 in
theorem kw_56 : Cond.code yX1_lastPlace cX1_lastPlace 3 (some .int) ∈ w0 := w0_in 157 rfl rfl
theorem kw_57 : Cond.methodLink RX1 83 yX1_lastPlace ∈ w0 := w0_in 155 (by decide +kernel) rfl
theorem kw_58 : Cond.static yX1_lastPlace ∈ w0 := w0_in 156 (by decide +kernel) rfl
set_option maxRecDepth 40000 in
theorem kw_59 : Cond.code yX0_isPlace cX0_isPlace 2 (some .boolean) ∈ w0 := w0_in 161 rfl rfl
theorem kw_60 : Cond.methodLink RX1 199 yX0_isPlace ∈ w0 := w0_in 158 (by decide +kernel) rfl
theorem kw_61 : Cond.instanceMethod yX0_isPlace ∈ w0 := w0_in 159 (by decide +kernel) rfl
theorem kw_62 : Cond.selects RX0 yX0_isPlace yX0_isPlace ∈ w0 := w0_in 160 (by decide +kernel) rfl
theorem kw_63 : Cond.fieldLink RX1 158 "Twinrow$RowList" "row" "I" ∈ w0 := w0_in 69 (by decide +kernel) rfl
set_option maxRecDepth 40000 in
theorem kw_64 : Cond.code yX1_listOrNull cX1_listOrNull 2 (some (.object "Twinrow$RowList")) ∈ w0 := w0_in 110 rfl rfl
theorem kw_65 : Cond.methodLink RX1 155 yX1_listOrNull ∈ w0 := w0_in 107 (by decide +kernel) rfl
theorem kw_66 : Cond.instanceMethod yX1_listOrNull ∈ w0 := w0_in 109 (by decide +kernel) rfl
theorem kw_67 : Cond.selects RX1 yX1_listOrNull yX1_listOrNull ∈ w0 := w0_in 0 (by decide +kernel) rfl
set_option maxRecDepth 40000 in
theorem kw_68 : Cond.code yX1_isInRow cX1_isInRow 3 (some .boolean) ∈ w0 := w0_in 117 rfl rfl
theorem kw_69 : Cond.methodLink RX1 251 yX1_isInRow ∈ w0 := w0_in 115 (by decide +kernel) rfl
theorem kw_70 : Cond.static yX1_isInRow ∈ w0 := w0_in 116 (by decide +kernel) rfl
set_option maxRecDepth 40000 in
theorem kw_71 : Cond.code yX1_isEqualToOwn cX1_isEqualToOwn 4 (some .boolean) ∈ w0 := w0_in 131 rfl rfl
theorem kw_72 : Cond.methodLink RX1 254 yX1_isEqualToOwn ∈ w0 := w0_in 128 (by decide +kernel) rfl
theorem kw_73 : Cond.instanceMethod yX1_isEqualToOwn ∈ w0 := w0_in 130 (by decide +kernel) rfl
theorem kw_74 : Cond.selects RX1 yX1_isEqualToOwn yX1_isEqualToOwn ∈ w0 := w0_in 2 (by decide +kernel) rfl
set_option maxRecDepth 40000 in
theorem kw_75 : Cond.code yX1_isSameBothWays cX1_isSameBothWays 4 (some .boolean) ∈ w0 := w0_in 145 rfl rfl
theorem kw_76 : Cond.methodLink RX1 257 yX1_isSameBothWays ∈ w0 := w0_in 143 (by decide +kernel) rfl
theorem kw_77 : Cond.static yX1_isSameBothWays ∈ w0 := w0_in 144 (by decide +kernel) rfl
set_option maxRecDepth 40000 in
theorem kw_78 : Cond.code yX1_areFirstsAndLasts cX1_areFirstsAndLasts 5 (some .boolean) ∈ w0 := w0_in 151 rfl rfl
theorem kw_79 : Cond.methodLink RX1 260 yX1_areFirstsAndLasts ∈ w0 := w0_in 149 (by decide +kernel) rfl
theorem kw_80 : Cond.static yX1_areFirstsAndLasts ∈ w0 := w0_in 150 (by decide +kernel) rfl
set_option maxRecDepth 40000 in
theorem kw_81 : Cond.code yX1_isSoundList cX1_isSoundList 3 (some .boolean) ∈ w0 := w0_in 114 rfl rfl
theorem kw_82 : Cond.methodLink RX1 164 yX1_isSoundList ∈ w0 := w0_in 111 (by decide +kernel) rfl
theorem kw_83 : Cond.instanceMethod yX1_isSoundList ∈ w0 := w0_in 113 (by decide +kernel) rfl
theorem kw_84 : Cond.selects RX1 yX1_isSoundList yX1_isSoundList ∈ w0 := w0_in 1 (by decide +kernel) rfl
theorem kw_85 : Cond.constantLong RX1 263 (31) ∈ w0 := w0_in 272 (by decide +kernel) rfl
theorem kw_86 : Cond.classLink RX1 205 "java/lang/IllegalArgumentException" ∈ w0 := w0_in 174 (by decide +kernel) rfl
theorem kw_87 : Cond.initialized "java/lang/IllegalArgumentException" ∈ w0 := w0_in 41 (by decide +kernel) rfl
set_option maxRecDepth 40000 in
theorem kw_88 : Cond.code yX1_checkNumber cX1_checkNumber 3 none ∈ w0 := w0_in 173 rfl rfl
theorem kw_89 : Cond.methodLink RX1 33 yX1_checkNumber ∈ w0 := w0_in 171 (by decide +kernel) rfl
theorem kw_90 : Cond.static yX1_checkNumber ∈ w0 := w0_in 172 (by decide +kernel) rfl
theorem kw_91 : Cond.classLink RX1 188 "java/lang/IndexOutOfBoundsException" ∈ w0 := w0_in 253 (by decide +kernel) rfl
theorem kw_92 : Cond.initialized "java/lang/IndexOutOfBoundsException" ∈ w0 := w0_in 40 (by decide +kernel) rfl
set_option maxRecDepth 40000 in
theorem kw_93 : Cond.code yX1_listAt cX1_listAt 3 (some (.object "Twinrow$RowList")) ∈ w0 := w0_in 296 rfl rfl
theorem kw_94 : Cond.methodLink RX1 65 yX1_listAt ∈ w0 := w0_in 293 (by decide +kernel) rfl
theorem kw_95 : Cond.instanceMethod yX1_listAt ∈ w0 := w0_in 295 (by decide +kernel) rfl
theorem kw_96 : Cond.selects RX1 yX1_listAt yX1_listAt ∈ w0 := w0_in 9 (by decide +kernel) rfl
set_option maxRecDepth 40000 in
theorem kw_97 : Cond.code yX1_rowOf cX1_rowOf 3 (some .int) ∈ w0 := w0_in 284 rfl rfl
theorem kw_98 : Cond.methodLink RX1 265 yX1_rowOf ∈ w0 := w0_in 281 (by decide +kernel) rfl
theorem kw_99 : Cond.instanceMethod yX1_rowOf ∈ w0 := w0_in 282 (by decide +kernel) rfl
theorem kw_100 : Cond.selects RX1 yX1_rowOf yX1_rowOf ∈ w0 := w0_in 283 (by decide +kernel) rfl
set_option maxRecDepth 40000 in
theorem kw_101 : Cond.code yX1_mixed cX1_mixed 4 (some .long) ∈ w0 := w0_in 271 rfl rfl
theorem kw_102 : Cond.methodLink RX1 173 yX1_mixed ∈ w0 := w0_in 269 (by decide +kernel) rfl
theorem kw_103 : Cond.static yX1_mixed ∈ w0 := w0_in 270 (by decide +kernel) rfl
set_option maxRecDepth 40000 in
theorem kw_104 : Cond.code yX1_begin cX1_begin 3 (some .int) ∈ w0 := w0_in 288 rfl rfl
theorem kw_105 : Cond.methodLink RX1 268 yX1_begin ∈ w0 := w0_in 285 (by decide +kernel) rfl
theorem kw_106 : Cond.instanceMethod yX1_begin ∈ w0 := w0_in 286 (by decide +kernel) rfl
theorem kw_107 : Cond.selects RX1 yX1_begin yX1_begin ∈ w0 := w0_in 287 (by decide +kernel) rfl
set_option maxRecDepth 40000 in
theorem kw_108 : Cond.code yX1_length cX1_length 2 (some .int) ∈ w0 := w0_in 292 rfl rfl
theorem kw_109 : Cond.methodLink RX1 270 yX1_length ∈ w0 := w0_in 289 (by decide +kernel) rfl
theorem kw_110 : Cond.instanceMethod yX1_length ∈ w0 := w0_in 290 (by decide +kernel) rfl
theorem kw_111 : Cond.selects RX1 yX1_length yX1_length ∈ w0 := w0_in 291 (by decide +kernel) rfl
set_option maxRecDepth 40000 in
theorem kw_112 : Cond.code yX1_code cX1_code 3 (some .int) ∈ w0 := w0_in 301 rfl rfl
theorem kw_113 : Cond.methodLink RX1 272 yX1_code ∈ w0 := w0_in 298 (by decide +kernel) rfl
theorem kw_114 : Cond.instanceMethod yX1_code ∈ w0 := w0_in 299 (by decide +kernel) rfl
theorem kw_115 : Cond.selects RX1 yX1_code yX1_code ∈ w0 := w0_in 300 (by decide +kernel) rfl
set_option maxRecDepth 40000 in
theorem kw_116 : Cond.code yX1_sum cX1_sum 5 (some .int) ∈ w0 := w0_in 305 rfl rfl
theorem kw_117 : Cond.methodLink RX1 275 yX1_sum ∈ w0 := w0_in 302 (by decide +kernel) rfl
theorem kw_118 : Cond.instanceMethod yX1_sum ∈ w0 := w0_in 303 (by decide +kernel) rfl
theorem kw_119 : Cond.selects RX1 yX1_sum yX1_sum ∈ w0 := w0_in 304 (by decide +kernel) rfl
set_option maxRecDepth 40000 in
theorem kw_120 : Cond.code yX1_twinAt cX1_twinAt 3 (some (.object "Twinrow$RowList")) ∈ w0 := w0_in 252 rfl rfl
theorem kw_121 : Cond.methodLink RX1 29 yX1_twinAt ∈ w0 := w0_in 249 (by decide +kernel) rfl
theorem kw_122 : Cond.instanceMethod yX1_twinAt ∈ w0 := w0_in 251 (by decide +kernel) rfl
theorem kw_123 : Cond.selects RX1 yX1_twinAt yX1_twinAt ∈ w0 := w0_in 6 (by decide +kernel) rfl
set_option maxRecDepth 40000 in
theorem kw_124 : Cond.code yX1_partsThere cX1_partsThere 3 (some .int) ∈ w0 := w0_in 244 rfl rfl
theorem kw_125 : Cond.methodLink RX1 148 yX1_partsThere ∈ w0 := w0_in 241 (by decide +kernel) rfl
theorem kw_126 : Cond.instanceMethod yX1_partsThere ∈ w0 := w0_in 243 (by decide +kernel) rfl
theorem kw_127 : Cond.selects RX1 yX1_partsThere yX1_partsThere ∈ w0 := w0_in 4 (by decide +kernel) rfl
set_option maxRecDepth 40000 in
theorem kw_128 : Cond.code yX1_placesOfRows cX1_placesOfRows 3 (some .int) ∈ w0 := w0_in 248 rfl rfl
theorem kw_129 : Cond.methodLink RX1 152 yX1_placesOfRows ∈ w0 := w0_in 245 (by decide +kernel) rfl
theorem kw_130 : Cond.instanceMethod yX1_placesOfRows ∈ w0 := w0_in 247 (by decide +kernel) rfl
theorem kw_131 : Cond.selects RX1 yX1_placesOfRows yX1_placesOfRows ∈ w0 := w0_in 5 (by decide +kernel) rfl
set_option maxRecDepth 40000 in
theorem kw_132 : Cond.code yX1_isSound cX1_isSound 3 (some .boolean) ∈ w0 := w0_in 106 rfl rfl
theorem kw_133 : Cond.methodLink RX1 184 yX1_isSound ∈ w0 := w0_in 306 (by decide +kernel) rfl
theorem kw_134 : Cond.instanceMethod yX1_isSound ∈ w0 := w0_in 104 (by decide +kernel) rfl
theorem kw_135 : Cond.selects RX1 yX1_isSound yX1_isSound ∈ w0 := w0_in 105 (by decide +kernel) rfl
set_option maxRecDepth 40000 in
theorem kw_136 : Cond.code yX1_mixedWithList cX1_mixedWithList 6 (some .long) ∈ w0 := w0_in 280 rfl rfl
theorem kw_137 : Cond.methodLink RX1 181 yX1_mixedWithList ∈ w0 := w0_in 277 (by decide +kernel) rfl
theorem kw_138 : Cond.instanceMethod yX1_mixedWithList ∈ w0 := w0_in 279 (by decide +kernel) rfl
theorem kw_139 : Cond.selects RX1 yX1_mixedWithList yX1_mixedWithList ∈ w0 := w0_in 8 (by decide +kernel) rfl
set_option maxRecDepth 40000 in
theorem kw_140 : Cond.code yX1_mixedWithRow cX1_mixedWithRow 8 (some .long) ∈ w0 := w0_in 276 rfl rfl
theorem kw_141 : Cond.methodLink RX1 177 yX1_mixedWithRow ∈ w0 := w0_in 273 (by decide +kernel) rfl
theorem kw_142 : Cond.instanceMethod yX1_mixedWithRow ∈ w0 := w0_in 275 (by decide +kernel) rfl
theorem kw_143 : Cond.selects RX1 yX1_mixedWithRow yX1_mixedWithRow ∈ w0 := w0_in 7 (by decide +kernel) rfl
set_option maxRecDepth 40000 in
theorem kw_144 : Cond.code yX1_house cX1_house 2 (some .int) ∈ w0 := w0_in 170 rfl rfl
theorem kw_145 : Cond.methodLink RX1 170 yX1_house ∈ w0 := w0_in 167 (by decide +kernel) rfl
theorem kw_146 : Cond.instanceMethod yX1_house ∈ w0 := w0_in 168 (by decide +kernel) rfl
theorem kw_147 : Cond.selects RX1 yX1_house yX1_house ∈ w0 := w0_in 169 (by decide +kernel) rfl
theorem kw_148 : Cond.constantLong RX1 168 (7778) ∈ w0 := w0_in 166 (by decide +kernel) rfl
theorem kw_149 : Cond.fieldLink RX3 177 "TwinrowModel" "sum" "J" ∈ w0 := w0_in 958 (by decide +kernel) rfl
theorem kw_150 : Cond.constantLong RX3 181 (31) ∈ w0 := w0_in 1285 (by decide +kernel) rfl
set_option maxRecDepth 40000 in
theorem kw_151 : Cond.code yX3_value cX3_value 3 (some .int) ∈ w0 := w0_in 1021 rfl rfl
theorem kw_152 : Cond.methodLink RX3 36 yX3_value ∈ w0 := w0_in 1018 (by decide +kernel) rfl
theorem kw_153 : Cond.instanceMethod yX3_value ∈ w0 := w0_in 1020 (by decide +kernel) rfl
theorem kw_154 : Cond.selects RX3 yX3_value yX3_value ∈ w0 := w0_in 16 (by decide +kernel) rfl
theorem kw_155 : Cond.initialized RX3 ∈ w0 := w0_in 35 (by decide +kernel) rfl
set_option maxRecDepth 40000 in
theorem kw_156 : Cond.code yX3_all cX3_all 4 (some (.array .int)) ∈ w0 := w0_in 1050 rfl rfl
theorem kw_157 : Cond.methodLink RX3 95 yX3_all ∈ w0 := w0_in 1047 (by decide +kernel) rfl
theorem kw_158 : Cond.instanceMethod yX3_all ∈ w0 := w0_in 1049 (by decide +kernel) rfl
theorem kw_159 : Cond.selects RX3 yX3_all yX3_all ∈ w0 := w0_in 19 (by decide +kernel) rfl
set_option maxRecDepth 40000 in
theorem kw_160 : Cond.code yX3_one cX3_one 1 (some .int) ∈ w0 := w0_in 1093 rfl rfl
theorem kw_161 : Cond.methodLink RX3 59 yX3_one ∈ w0 := w0_in 1091 (by decide +kernel) rfl
theorem kw_162 : Cond.static yX3_one ∈ w0 := w0_in 1092 (by decide +kernel) rfl
theorem kw_163 : Cond.fieldLink RX3 168 "TwinrowModel" "knocks" "I" ∈ w0 := w0_in 955 (by decide +kernel) rfl
theorem kw_164 : Cond.fieldLink RX3 44 "TwinrowModel" "refusals" "I" ∈ w0 := w0_in 956 (by decide +kernel) rfl
set_option maxRecDepth 40000 in
theorem kw_165 : Cond.code yX3_add_ cX3_add_ 3 none ∈ w0 := w0_in 1284 rfl rfl
theorem kw_166 : Cond.methodLink RX3 185 yX3_add_ ∈ w0 := w0_in 1281 (by decide +kernel) rfl
theorem kw_167 : Cond.instanceMethod yX3_add_ ∈ w0 := w0_in 1283 (by decide +kernel) rfl
theorem kw_168 : Cond.selects RX3 yX3_add_ yX3_add_ ∈ w0 := w0_in 31 (by decide +kernel) rfl
set_option maxRecDepth 40000 in
theorem kw_169 : Cond.code yX3_beginNow cX3_beginNow 2 (some .int) ∈ w0 := w0_in 1271 rfl rfl
theorem kw_170 : Cond.methodLink RX3 174 yX3_beginNow ∈ w0 := w0_in 1268 (by decide +kernel) rfl
theorem kw_171 : Cond.instanceMethod yX3_beginNow ∈ w0 := w0_in 1270 (by decide +kernel) rfl
theorem kw_172 : Cond.selects RX3 yX3_beginNow yX3_beginNow ∈ w0 := w0_in 30 (by decide +kernel) rfl
set_option maxRecDepth 40000 in
theorem kw_173 : Cond.code yX3_codeNow cX3_codeNow 7 (some .int) ∈ w0 := w0_in 1128 rfl rfl
theorem kw_174 : Cond.methodLink RX3 132 yX3_codeNow ∈ w0 := w0_in 1125 (by decide +kernel) rfl
theorem kw_175 : Cond.instanceMethod yX3_codeNow ∈ w0 := w0_in 1127 (by decide +kernel) rfl
theorem kw_176 : Cond.selects RX3 yX3_codeNow yX3_codeNow ∈ w0 := w0_in 22 (by decide +kernel) rfl
set_option maxRecDepth 40000 in
theorem kw_177 : Cond.code yX3_sumNow cX3_sumNow 7 (some .int) ∈ w0 := w0_in 1145 rfl rfl
theorem kw_178 : Cond.methodLink RX3 140 yX3_sumNow ∈ w0 := w0_in 1142 (by decide +kernel) rfl
theorem kw_179 : Cond.instanceMethod yX3_sumNow ∈ w0 := w0_in 1144 (by decide +kernel) rfl
theorem kw_180 : Cond.selects RX3 yX3_sumNow yX3_sumNow ∈ w0 := w0_in 24 (by decide +kernel) rfl
set_option maxRecDepth 40000 in
theorem kw_181 : Cond.code yX3_houseNow cX3_houseNow 4 (some .int) ∈ w0 := w0_in 1259 rfl rfl
theorem kw_182 : Cond.methodLink RX3 171 yX3_houseNow ∈ w0 := w0_in 1256 (by decide +kernel) rfl
theorem kw_183 : Cond.instanceMethod yX3_houseNow ∈ w0 := w0_in 1258 (by decide +kernel) rfl
theorem kw_184 : Cond.selects RX3 yX3_houseNow yX3_houseNow ∈ w0 := w0_in 29 (by decide +kernel) rfl
theorem kw_185 : Cond.fieldLink RX3 28 "TwinrowModel" "thrown" "I" ∈ w0 := w0_in 957 (by decide +kernel) rfl
theorem kw_186 : Cond.constantLong RX3 183 (7778) ∈ w0 := w0_in 1280 (by decide +kernel) rfl
theorem kw_187 : Cond.methodLink RL 156 yX1_begin ∈ w0 := w0_in 942 (by decide +kernel) rfl
theorem kw_188 : Cond.classLink RL 21 "java/lang/IllegalArgumentException" ∈ w0 := w0_in 324 (by decide +kernel) rfl
set_option maxRecDepth 40000 in
theorem kw_189 : Cond.code yX3_fails cX3_fails 3 (some .boolean) ∈ w0 := w0_in 986 rfl rfl
theorem kw_190 : Cond.methodLink RX3 81 yX3_fails ∈ w0 := w0_in 983 (by decide +kernel) rfl
theorem kw_191 : Cond.instanceMethod yX3_fails ∈ w0 := w0_in 985 (by decide +kernel) rfl
theorem kw_192 : Cond.selects RX3 yX3_fails yX3_fails ∈ w0 := w0_in 12 (by decide +kernel) rfl
set_option maxRecDepth 40000 in
theorem kw_193 : Cond.code yX3_isIn cX3_isIn 3 (some .boolean) ∈ w0 := w0_in 982 rfl rfl
theorem kw_194 : Cond.methodLink RX3 24 yX3_isIn ∈ w0 := w0_in 980 (by decide +kernel) rfl
theorem kw_195 : Cond.static yX3_isIn ∈ w0 := w0_in 981 (by decide +kernel) rfl
theorem kw_196 : Cond.methodLink RL 153 yX1_rowOf ∈ w0 := w0_in 938 (by decide +kernel) rfl
theorem kw_197 : Cond.methodLink RL 150 yX1_house ∈ w0 := w0_in 934 (by decide +kernel) rfl
set_option maxRecDepth 40000 in
theorem kw_198 : Cond.code yX1_checkPlace cX1_checkPlace 2 none ∈ w0 := w0_in 345 rfl rfl
theorem kw_199 : Cond.methodLink RX1 48 yX1_checkPlace ∈ w0 := w0_in 343 (by decide +kernel) rfl
theorem kw_200 : Cond.static yX1_checkPlace ∈ w0 := w0_in 344 (by decide +kernel) rfl
set_option maxRecDepth 40000 in
theorem kw_201 : Cond.code yX1_refuseIf cX1_refuseIf 2 (some .int) ∈ w0 := w0_in 861 rfl rfl
theorem kw_202 : Cond.methodLink RX1 140 yX1_refuseIf ∈ w0 := w0_in 858 (by decide +kernel) rfl
theorem kw_203 : Cond.instanceMethod yX1_refuseIf ∈ w0 := w0_in 860 (by decide +kernel) rfl
theorem kw_204 : Cond.selects RX1 yX1_refuseIf yX1_refuseIf ∈ w0 := w0_in 11 (by decide +kernel) rfl
set_option maxRecDepth 40000 in
theorem kw_205 : Cond.code yX1_walkChange cX1_walkChange 5 (some .int) ∈ w0 := w0_in 930 rfl rfl
theorem kw_206 : Cond.methodLink RL 147 yX1_walkChange ∈ w0 := w0_in 927 (by decide +kernel) rfl
theorem kw_207 : Cond.instanceMethod yX1_walkChange ∈ w0 := w0_in 928 (by decide +kernel) rfl
theorem kw_208 : Cond.selects RX1 yX1_walkChange yX1_walkChange ∈ w0 := w0_in 929 (by decide +kernel) rfl
theorem kw_209 : Cond.classLink RL 19 "java/lang/IndexOutOfBoundsException" ∈ w0 := w0_in 323 (by decide +kernel) rfl
set_option maxRecDepth 40000 in
theorem kw_210 : Cond.code yX3_isNoList cX3_isNoList 2 (some .boolean) ∈ w0 := w0_in 1009 rfl rfl
theorem kw_211 : Cond.methodLink RX3 32 yX3_isNoList ∈ w0 := w0_in 1006 (by decide +kernel) rfl
theorem kw_212 : Cond.instanceMethod yX3_isNoList ∈ w0 := w0_in 1008 (by decide +kernel) rfl
theorem kw_213 : Cond.selects RX3 yX3_isNoList yX3_isNoList ∈ w0 := w0_in 14 (by decide +kernel) rfl
set_option maxRecDepth 40000 in
theorem kw_214 : Cond.code yX3_refused cX3_refused 1 (some .int) ∈ w0 := w0_in 1204 rfl rfl
theorem kw_215 : Cond.methodLink RX3 158 yX3_refused ∈ w0 := w0_in 1201 (by decide +kernel) rfl
theorem kw_216 : Cond.instanceMethod yX3_refused ∈ w0 := w0_in 1203 (by decide +kernel) rfl
theorem kw_217 : Cond.selects RX3 yX3_refused yX3_refused ∈ w0 := w0_in 27 (by decide +kernel) rfl
set_option maxRecDepth 40000 in
theorem kw_218 : Cond.code yX3_isNoPlace cX3_isNoPlace 3 (some .boolean) ∈ w0 := w0_in 1017 rfl rfl
theorem kw_219 : Cond.methodLink RX3 92 yX3_isNoPlace ∈ w0 := w0_in 1014 (by decide +kernel) rfl
theorem kw_220 : Cond.instanceMethod yX3_isNoPlace ∈ w0 := w0_in 1016 (by decide +kernel) rfl
theorem kw_221 : Cond.selects RX3 yX3_isNoPlace yX3_isNoPlace ∈ w0 := w0_in 15 (by decide +kernel) rfl
set_option maxRecDepth 40000 in
theorem kw_222 : Cond.code yX1_clear cX1_clear 2 (some .int) ∈ w0 := w0_in 923 rfl rfl
theorem kw_223 : Cond.methodLink RL 144 yX1_clear ∈ w0 := w0_in 920 (by decide +kernel) rfl
theorem kw_224 : Cond.instanceMethod yX1_clear ∈ w0 := w0_in 921 (by decide +kernel) rfl
theorem kw_225 : Cond.selects RX1 yX1_clear yX1_clear ∈ w0 := w0_in 922 (by decide +kernel) rfl
set_option maxRecDepth 40000 in
theorem kw_226 : Cond.code yX3_refusedIf cX3_refusedIf 2 (some .int) ∈ w0 := w0_in 1216 rfl rfl
theorem kw_227 : Cond.methodLink RX3 162 yX3_refusedIf ∈ w0 := w0_in 1213 (by decide +kernel) rfl
theorem kw_228 : Cond.instanceMethod yX3_refusedIf ∈ w0 := w0_in 1215 (by decide +kernel) rfl
theorem kw_229 : Cond.selects RX3 yX3_refusedIf yX3_refusedIf ∈ w0 := w0_in 28 (by decide +kernel) rfl
set_option maxRecDepth 40000 in
theorem kw_230 : Cond.code yX1_isOfTest cX1_isOfTest 3 (some .boolean) ∈ w0 := w0_in 916 rfl rfl
theorem kw_231 : Cond.methodLink RX1 232 yX1_isOfTest ∈ w0 := w0_in 914 (by decide +kernel) rfl
theorem kw_232 : Cond.static yX1_isOfTest ∈ w0 := w0_in 915 (by decide +kernel) rfl
set_option maxRecDepth 40000 in
theorem kw_233 : Cond.code yX1_hasOneOfTest cX1_hasOneOfTest 4 (some .boolean) ∈ w0 := w0_in 913 rfl rfl
theorem kw_234 : Cond.methodLink RX1 144 yX1_hasOneOfTest ∈ w0 := w0_in 911 (by decide +kernel) rfl
theorem kw_235 : Cond.static yX1_hasOneOfTest ∈ w0 := w0_in 912 (by decide +kernel) rfl
set_option maxRecDepth 40000 in
theorem kw_236 : Cond.code yX1_removeIf cX1_removeIf 5 (some .int) ∈ w0 := w0_in 910 rfl rfl
theorem kw_237 : Cond.methodLink RL 141 yX1_removeIf ∈ w0 := w0_in 907 (by decide +kernel) rfl
theorem kw_238 : Cond.instanceMethod yX1_removeIf ∈ w0 := w0_in 908 (by decide +kernel) rfl
theorem kw_239 : Cond.selects RX1 yX1_removeIf yX1_removeIf ∈ w0 := w0_in 909 (by decide +kernel) rfl
set_option maxRecDepth 40000 in
theorem kw_240 : Cond.code yX3_tested cX3_tested 3 (some .boolean) ∈ w0 := w0_in 1239 rfl rfl
theorem kw_241 : Cond.methodLink RX3 165 yX3_tested ∈ w0 := w0_in 1237 (by decide +kernel) rfl
theorem kw_242 : Cond.static yX3_tested ∈ w0 := w0_in 1238 (by decide +kernel) rfl
set_option maxRecDepth 40000 in
theorem kw_243 : Cond.code yX1_stands cX1_stands 2 (some .boolean) ∈ w0 := w0_in 707 rfl rfl
theorem kw_244 : Cond.methodLink RX1 86 yX1_stands ∈ w0 := w0_in 705 (by decide +kernel) rfl
theorem kw_245 : Cond.static yX1_stands ∈ w0 := w0_in 706 (by decide +kernel) rfl
set_option maxRecDepth 40000 in
theorem kw_246 : Cond.code yX1_hasOneThatStands cX1_hasOneThatStands 4 (some .boolean) ∈ w0 := w0_in 724 rfl rfl
theorem kw_247 : Cond.methodLink RX1 90 yX1_hasOneThatStands ∈ w0 := w0_in 722 (by decide +kernel) rfl
theorem kw_248 : Cond.static yX1_hasOneThatStands ∈ w0 := w0_in 723 (by decide +kernel) rfl
set_option maxRecDepth 40000 in
theorem kw_249 : Cond.code yX1_retainAll cX1_retainAll 4 (some .int) ∈ w0 := w0_in 903 rfl rfl
theorem kw_250 : Cond.methodLink RL 138 yX1_retainAll ∈ w0 := w0_in 900 (by decide +kernel) rfl
theorem kw_251 : Cond.instanceMethod yX1_retainAll ∈ w0 := w0_in 901 (by decide +kernel) rfl
theorem kw_252 : Cond.selects RX1 yX1_retainAll yX1_retainAll ∈ w0 := w0_in 902 (by decide +kernel) rfl
set_option maxRecDepth 40000 in
theorem kw_253 : Cond.code yX3_oftenIn cX3_oftenIn 7 (some .int) ∈ w0 := w0_in 1090 rfl rfl
theorem kw_254 : Cond.methodLink RX3 119 yX3_oftenIn ∈ w0 := w0_in 1088 (by decide +kernel) rfl
theorem kw_255 : Cond.static yX3_oftenIn ∈ w0 := w0_in 1089 (by decide +kernel) rfl
set_option maxRecDepth 40000 in
theorem kw_256 : Cond.code yX3_isNoPair cX3_isNoPair 3 (some .boolean) ∈ w0 := w0_in 1101 rfl rfl
theorem kw_257 : Cond.methodLink RX3 122 yX3_isNoPair ∈ w0 := w0_in 1098 (by decide +kernel) rfl
theorem kw_258 : Cond.instanceMethod yX3_isNoPair ∈ w0 := w0_in 1100 (by decide +kernel) rfl
theorem kw_259 : Cond.selects RX3 yX3_isNoPair yX3_isNoPair ∈ w0 := w0_in 20 (by decide +kernel) rfl
set_option maxRecDepth 40000 in
theorem kw_260 : Cond.code yX3_shared cX3_shared 8 (some .int) ∈ w0 := w0_in 1105 rfl rfl
theorem kw_261 : Cond.methodLink RX3 125 yX3_shared ∈ w0 := w0_in 1102 (by decide +kernel) rfl
theorem kw_262 : Cond.instanceMethod yX3_shared ∈ w0 := w0_in 1104 (by decide +kernel) rfl
theorem kw_263 : Cond.selects RX3 yX3_shared yX3_shared ∈ w0 := w0_in 21 (by decide +kernel) rfl
set_option maxRecDepth 40000 in
theorem kw_264 : Cond.code yX1_removeAll cX1_removeAll 4 (some .int) ∈ w0 := w0_in 896 rfl rfl
theorem kw_265 : Cond.methodLink RL 135 yX1_removeAll ∈ w0 := w0_in 893 (by decide +kernel) rfl
theorem kw_266 : Cond.instanceMethod yX1_removeAll ∈ w0 := w0_in 894 (by decide +kernel) rfl
theorem kw_267 : Cond.selects RX1 yX1_removeAll yX1_removeAll ∈ w0 := w0_in 895 (by decide +kernel) rfl
set_option maxRecDepth 40000 in
theorem kw_268 : Cond.code yX1_checkValue cX1_checkValue 1 none ∈ w0 := w0_in 349 rfl rfl
theorem kw_269 : Cond.methodLink RX1 51 yX1_checkValue ∈ w0 := w0_in 347 (by decide +kernel) rfl
theorem kw_270 : Cond.static yX1_checkValue ∈ w0 := w0_in 348 (by decide +kernel) rfl
set_option maxRecDepth 40000 in
theorem kw_271 : Cond.code yX1_removeValue cX1_removeValue 4 (some .int) ∈ w0 := w0_in 889 rfl rfl
theorem kw_272 : Cond.methodLink RL 132 yX1_removeValue ∈ w0 := w0_in 886 (by decide +kernel) rfl
theorem kw_273 : Cond.instanceMethod yX1_removeValue ∈ w0 := w0_in 887 (by decide +kernel) rfl
theorem kw_274 : Cond.selects RX1 yX1_removeValue yX1_removeValue ∈ w0 := w0_in 888 (by decide +kernel) rfl
set_option maxRecDepth 40000 in
theorem kw_275 : Cond.code yX3_isNoValue cX3_isNoValue 1 (some .boolean) ∈ w0 := w0_in 997 rfl rfl
theorem kw_276 : Cond.methodLink RX3 89 yX3_isNoValue ∈ w0 := w0_in 995 (by decide +kernel) rfl
theorem kw_277 : Cond.static yX3_isNoValue ∈ w0 := w0_in 996 (by decide +kernel) rfl
set_option maxRecDepth 40000 in
theorem kw_278 : Cond.code yX1_remove cX1_remove 4 (some .int) ∈ w0 := w0_in 882 rfl rfl
theorem kw_279 : Cond.methodLink RL 129 yX1_remove ∈ w0 := w0_in 879 (by decide +kernel) rfl
theorem kw_280 : Cond.instanceMethod yX1_remove ∈ w0 := w0_in 880 (by decide +kernel) rfl
theorem kw_281 : Cond.selects RX1 yX1_remove yX1_remove ∈ w0 := w0_in 881 (by decide +kernel) rfl
set_option maxRecDepth 40000 in
theorem kw_282 : Cond.code yX1_addAll cX1_addAll 3 (some .int) ∈ w0 := w0_in 875 rfl rfl
theorem kw_283 : Cond.methodLink RL 126 yX1_addAll ∈ w0 := w0_in 872 (by decide +kernel) rfl
theorem kw_284 : Cond.instanceMethod yX1_addAll ∈ w0 := w0_in 873 (by decide +kernel) rfl
theorem kw_285 : Cond.selects RX1 yX1_addAll yX1_addAll ∈ w0 := w0_in 874 (by decide +kernel) rfl
set_option maxRecDepth 40000 in
theorem kw_286 : Cond.code yX1_addAt cX1_addAt 5 (some .int) ∈ w0 := w0_in 868 rfl rfl
theorem kw_287 : Cond.methodLink RL 123 yX1_addAt ∈ w0 := w0_in 865 (by decide +kernel) rfl
theorem kw_288 : Cond.instanceMethod yX1_addAt ∈ w0 := w0_in 866 (by decide +kernel) rfl
theorem kw_289 : Cond.selects RX1 yX1_addAt yX1_addAt ∈ w0 := w0_in 867 (by decide +kernel) rfl
set_option maxRecDepth 40000 in
theorem kw_290 : Cond.code yX3_isBeyond cX3_isBeyond 3 (some .boolean) ∈ w0 := w0_in 1136 rfl rfl
theorem kw_291 : Cond.methodLink RX3 135 yX3_isBeyond ∈ w0 := w0_in 1133 (by decide +kernel) rfl
theorem kw_292 : Cond.instanceMethod yX3_isBeyond ∈ w0 := w0_in 1135 (by decide +kernel) rfl
theorem kw_293 : Cond.selects RX3 yX3_isBeyond yX3_isBeyond ∈ w0 := w0_in 23 (by decide +kernel) rfl
set_option maxRecDepth 40000 in
theorem kw_294 : Cond.code yX1_add cX1_add 3 (some .int) ∈ w0 := w0_in 857 rfl rfl
theorem kw_295 : Cond.methodLink RL 120 yX1_add ∈ w0 := w0_in 854 (by decide +kernel) rfl
theorem kw_296 : Cond.instanceMethod yX1_add ∈ w0 := w0_in 855 (by decide +kernel) rfl
theorem kw_297 : Cond.selects RX1 yX1_add yX1_add ∈ w0 := w0_in 856 (by decide +kernel) rfl
theorem kw_298 : Cond.methodLink RX0 29 yX0_write ∈ w0 := w0_in 823 (by decide +kernel) rfl
set_option maxRecDepth 40000 in
theorem kw_299 : Cond.code yX0_exchange cX0_exchange 3 none ∈ w0 := w0_in 822 rfl rfl
theorem kw_300 : Cond.methodLink RX1 137 yX0_exchange ∈ w0 := w0_in 819 (by decide +kernel) rfl
theorem kw_301 : Cond.instanceMethod yX0_exchange ∈ w0 := w0_in 820 (by decide +kernel) rfl
theorem kw_302 : Cond.selects RX0 yX0_exchange yX0_exchange ∈ w0 := w0_in 821 (by decide +kernel) rfl
set_option maxRecDepth 40000 in
theorem kw_303 : Cond.code yX1_swap cX1_swap 6 (some .int) ∈ w0 := w0_in 850 rfl rfl
theorem kw_304 : Cond.methodLink RL 117 yX1_swap ∈ w0 := w0_in 847 (by decide +kernel) rfl
theorem kw_305 : Cond.instanceMethod yX1_swap ∈ w0 := w0_in 848 (by decide +kernel) rfl
theorem kw_306 : Cond.selects RX1 yX1_swap yX1_swap ∈ w0 := w0_in 849 (by decide +kernel) rfl
set_option maxRecDepth 40000 in
theorem kw_307 : Cond.code yX3_write cX3_write 4 none ∈ w0 := w0_in 1025 rfl rfl
theorem kw_308 : Cond.methodLink RX3 40 yX3_write ∈ w0 := w0_in 1022 (by decide +kernel) rfl
theorem kw_309 : Cond.instanceMethod yX3_write ∈ w0 := w0_in 1024 (by decide +kernel) rfl
theorem kw_310 : Cond.selects RX3 yX3_write yX3_write ∈ w0 := w0_in 17 (by decide +kernel) rfl
set_option maxRecDepth 40000 in
theorem kw_311 : Cond.code yJ9_floorMod_7cf53 cJ9_floorMod_7cf53 3 (some .int) ∈ w0 := w0_in 843 rfl rfl
theorem kw_312 : Cond.methodLink RX1 134 yJ9_floorMod_7cf53 ∈ w0 := w0_in 841 (by decide +kernel) rfl
theorem kw_313 : Cond.static yJ9_floorMod_7cf53 ∈ w0 := w0_in 842 (by decide +kernel) rfl
theorem kw_314 : Cond.initialized RJ9 ∈ w0 := w0_in 47 (by decide +kernel) rfl
set_option maxRecDepth 40000 in
theorem kw_315 : Cond.code yX1_turn cX1_turn 5 none ∈ w0 := w0_in 833 rfl rfl
theorem kw_316 : Cond.methodLink RX1 130 yX1_turn ∈ w0 := w0_in 831 (by decide +kernel) rfl
theorem kw_317 : Cond.static yX1_turn ∈ w0 := w0_in 832 (by decide +kernel) rfl
set_option maxRecDepth 40000 in
theorem kw_318 : Cond.code yX1_rotate cX1_rotate 5 (some .int) ∈ w0 := w0_in 840 rfl rfl
theorem kw_319 : Cond.methodLink RL 114 yX1_rotate ∈ w0 := w0_in 837 (by decide +kernel) rfl
theorem kw_320 : Cond.instanceMethod yX1_rotate ∈ w0 := w0_in 838 (by decide +kernel) rfl
theorem kw_321 : Cond.selects RX1 yX1_rotate yX1_rotate ∈ w0 := w0_in 839 (by decide +kernel) rfl
set_option maxRecDepth 40000 in
theorem kw_322 : Cond.code yX1_reverse cX1_reverse 3 (some .int) ∈ w0 := w0_in 830 rfl rfl
theorem kw_323 : Cond.methodLink RL 111 yX1_reverse ∈ w0 := w0_in 827 (by decide +kernel) rfl
theorem kw_324 : Cond.instanceMethod yX1_reverse ∈ w0 := w0_in 828 (by decide +kernel) rfl
theorem kw_325 : Cond.selects RX1 yX1_reverse yX1_reverse ∈ w0 := w0_in 829 (by decide +kernel) rfl
set_option maxRecDepth 40000 in
theorem kw_326 : Cond.code yJ6_compare_7cf53 cJ6_compare_7cf53 2 (some .int) ∈ w0 := w0_in 818 rfl rfl
theorem kw_327 : Cond.methodLink RX1 246 yJ6_compare_7cf53 ∈ w0 := w0_in 816 (by decide +kernel) rfl
theorem kw_328 : Cond.static yJ6_compare_7cf53 ∈ w0 := w0_in 817 (by decide +kernel) rfl
theorem kw_329 : Cond.initialized RJ6 ∈ w0 := w0_in 52 (by decide +kernel) rfl
set_option maxRecDepth 40000 in
theorem kw_330 : Cond.code yX1_sink cX1_sink 5 none ∈ w0 := w0_in 815 rfl rfl
theorem kw_331 : Cond.methodLink RX1 126 yX1_sink ∈ w0 := w0_in 813 (by decide +kernel) rfl
theorem kw_332 : Cond.static yX1_sink ∈ w0 := w0_in 814 (by decide +kernel) rfl
set_option maxRecDepth 40000 in
theorem kw_333 : Cond.code yX1_sort cX1_sort 5 (some .int) ∈ w0 := w0_in 812 rfl rfl
theorem kw_334 : Cond.methodLink RL 107 yX1_sort ∈ w0 := w0_in 809 (by decide +kernel) rfl
theorem kw_335 : Cond.instanceMethod yX1_sort ∈ w0 := w0_in 810 (by decide +kernel) rfl
theorem kw_336 : Cond.selects RX1 yX1_sort yX1_sort ∈ w0 := w0_in 811 (by decide +kernel) rfl
set_option maxRecDepth 40000 in
theorem kw_337 : Cond.code yX1_writeAll cX1_writeAll 3 none ∈ w0 := w0_in 331 rfl rfl
theorem kw_338 : Cond.methodLink RX1 40 yX1_writeAll ∈ w0 := w0_in 329 (by decide +kernel) rfl
theorem kw_339 : Cond.static yX1_writeAll ∈ w0 := w0_in 330 (by decide +kernel) rfl
set_option maxRecDepth 40000 in
theorem kw_340 : Cond.code yX1_fill cX1_fill 4 (some .int) ∈ w0 := w0_in 805 rfl rfl
theorem kw_341 : Cond.methodLink RL 104 yX1_fill ∈ w0 := w0_in 802 (by decide +kernel) rfl
theorem kw_342 : Cond.instanceMethod yX1_fill ∈ w0 := w0_in 803 (by decide +kernel) rfl
theorem kw_343 : Cond.selects RX1 yX1_fill yX1_fill ∈ w0 := w0_in 804 (by decide +kernel) rfl
set_option maxRecDepth 40000 in
theorem kw_344 : Cond.code yX1_replaceOld cX1_replaceOld 7 (some .int) ∈ w0 := w0_in 798 rfl rfl
theorem kw_345 : Cond.methodLink RL 101 yX1_replaceOld ∈ w0 := w0_in 795 (by decide +kernel) rfl
theorem kw_346 : Cond.instanceMethod yX1_replaceOld ∈ w0 := w0_in 796 (by decide +kernel) rfl
theorem kw_347 : Cond.selects RX1 yX1_replaceOld yX1_replaceOld ∈ w0 := w0_in 797 (by decide +kernel) rfl
set_option maxRecDepth 40000 in
theorem kw_348 : Cond.code yX3_writeAll cX3_writeAll 4 none ∈ w0 := w0_in 1176 rfl rfl
theorem kw_349 : Cond.methodLink RX3 154 yX3_writeAll ∈ w0 := w0_in 1173 (by decide +kernel) rfl
theorem kw_350 : Cond.instanceMethod yX3_writeAll ∈ w0 := w0_in 1175 (by decide +kernel) rfl
theorem kw_351 : Cond.selects RX3 yX3_writeAll yX3_writeAll ∈ w0 := w0_in 26 (by decide +kernel) rfl
theorem kw_352 : Cond.methodLink RX1 110 Lib.Math.min.name ∈ w0 := w0_in 760 (by decide +kernel) rfl
theorem kw_353 : Cond.static Lib.Math.min.name ∈ w0 := w0_in 477 (by decide +kernel) rfl
theorem kw_354 : Cond.initialized "java/lang/Math" ∈ w0 := w0_in 47 (by decide +kernel) rfl
set_option maxRecDepth 40000 in
theorem kw_355 : Cond.code Lib.Math.min.name Lib.Math.min.code 2 (some .int) ∈ w0 := w0_in 478 rfl rfl
theorem kw_356 : Cond.methodLink RX1 243 Lib.Math.max.name ∈ w0 := w0_in 784 (by decide +kernel) rfl
theorem kw_357 : Cond.static Lib.Math.max.name ∈ w0 := w0_in 459 (by decide +kernel) rfl
set_option maxRecDepth 40000 in
theorem kw_358 : Cond.code Lib.Math.max.name Lib.Math.max.code 2 (some .int) ∈ w0 := w0_in 460 rfl rfl
set_option maxRecDepth 40000 in
theorem kw_359 : Cond.code yX1_withinNumbers cX1_withinNumbers 1 (some .int) ∈ w0 := w0_in 783 rfl rfl
theorem kw_360 : Cond.methodLink RX1 240 yX1_withinNumbers ∈ w0 := w0_in 781 (by decide +kernel) rfl
theorem kw_361 : Cond.static yX1_withinNumbers ∈ w0 := w0_in 782 (by decide +kernel) rfl
set_option maxRecDepth 40000 in
theorem kw_362 : Cond.code yX1_ruled cX1_ruled 4 (some .int) ∈ w0 := w0_in 780 rfl rfl
theorem kw_363 : Cond.methodLink RX1 236 yX1_ruled ∈ w0 := w0_in 778 (by decide +kernel) rfl
theorem kw_364 : Cond.static yX1_ruled ∈ w0 := w0_in 779 (by decide +kernel) rfl
set_option maxRecDepth 40000 in
theorem kw_365 : Cond.code yX1_stepsLeft cX1_stepsLeft 3 (some .int) ∈ w0 := w0_in 759 rfl rfl
theorem kw_366 : Cond.methodLink RX1 106 yX1_stepsLeft ∈ w0 := w0_in 757 (by decide +kernel) rfl
theorem kw_367 : Cond.static yX1_stepsLeft ∈ w0 := w0_in 758 (by decide +kernel) rfl
set_option maxRecDepth 40000 in
theorem kw_368 : Cond.code yX1_checkRule cX1_checkRule 2 none ∈ w0 := w0_in 774 rfl rfl
theorem kw_369 : Cond.methodLink RX1 118 yX1_checkRule ∈ w0 := w0_in 772 (by decide +kernel) rfl
theorem kw_370 : Cond.static yX1_checkRule ∈ w0 := w0_in 773 (by decide +kernel) rfl
set_option maxRecDepth 40000 in
theorem kw_371 : Cond.code yX1_writeRuled cX1_writeRuled 8 (some .int) ∈ w0 := w0_in 777 rfl rfl
theorem kw_372 : Cond.methodLink RX1 122 yX1_writeRuled ∈ w0 := w0_in 775 (by decide +kernel) rfl
theorem kw_373 : Cond.static yX1_writeRuled ∈ w0 := w0_in 776 (by decide +kernel) rfl
set_option maxRecDepth 40000 in
theorem kw_374 : Cond.code yX1_replaceAll cX1_replaceAll 5 (some .int) ∈ w0 := w0_in 791 rfl rfl
theorem kw_375 : Cond.methodLink RL 98 yX1_replaceAll ∈ w0 := w0_in 788 (by decide +kernel) rfl
theorem kw_376 : Cond.instanceMethod yX1_replaceAll ∈ w0 := w0_in 789 (by decide +kernel) rfl
theorem kw_377 : Cond.selects RX1 yX1_replaceAll yX1_replaceAll ∈ w0 := w0_in 790 (by decide +kernel) rfl
theorem kw_378 : Cond.methodLink RX3 47 Lib.Math.min.name ∈ w0 := w0_in 1163 (by decide +kernel) rfl
theorem kw_379 : Cond.methodLink RX3 52 Lib.Math.max.name ∈ w0 := w0_in 1164 (by decide +kernel) rfl
set_option maxRecDepth 40000 in
theorem kw_380 : Cond.code yX3_bounded cX3_bounded 1 (some .int) ∈ w0 := w0_in 1162 rfl rfl
theorem kw_381 : Cond.methodLink RX3 55 yX3_bounded ∈ w0 := w0_in 1160 (by decide +kernel) rfl
theorem kw_382 : Cond.static yX3_bounded ∈ w0 := w0_in 1161 (by decide +kernel) rfl
set_option maxRecDepth 40000 in
theorem kw_383 : Cond.code yX3_ruled cX3_ruled 4 (some .int) ∈ w0 := w0_in 1159 rfl rfl
theorem kw_384 : Cond.methodLink RX3 143 yX3_ruled ∈ w0 := w0_in 1157 (by decide +kernel) rfl
theorem kw_385 : Cond.static yX3_ruled ∈ w0 := w0_in 1158 (by decide +kernel) rfl
set_option maxRecDepth 40000 in
theorem kw_386 : Cond.code yX3_isNoRule cX3_isNoRule 2 (some .boolean) ∈ w0 := w0_in 1152 rfl rfl
theorem kw_387 : Cond.methodLink RX3 147 yX3_isNoRule ∈ w0 := w0_in 1150 (by decide +kernel) rfl
theorem kw_388 : Cond.static yX3_isNoRule ∈ w0 := w0_in 1151 (by decide +kernel) rfl
set_option maxRecDepth 40000 in
theorem kw_389 : Cond.code yX3_ruledAll cX3_ruledAll 7 (some .int) ∈ w0 := w0_in 1156 rfl rfl
theorem kw_390 : Cond.methodLink RX3 150 yX3_ruledAll ∈ w0 := w0_in 1153 (by decide +kernel) rfl
theorem kw_391 : Cond.instanceMethod yX3_ruledAll ∈ w0 := w0_in 1155 (by decide +kernel) rfl
theorem kw_392 : Cond.selects RX3 yX3_ruledAll yX3_ruledAll ∈ w0 := w0_in 25 (by decide +kernel) rfl
set_option maxRecDepth 40000 in
theorem kw_393 : Cond.code yX1_walkSet cX1_walkSet 7 (some .int) ∈ w0 := w0_in 771 rfl rfl
theorem kw_394 : Cond.methodLink RL 94 yX1_walkSet ∈ w0 := w0_in 768 (by decide +kernel) rfl
theorem kw_395 : Cond.instanceMethod yX1_walkSet ∈ w0 := w0_in 769 (by decide +kernel) rfl
theorem kw_396 : Cond.selects RX1 yX1_walkSet yX1_walkSet ∈ w0 := w0_in 770 (by decide +kernel) rfl
theorem kw_397 : Cond.methodLink RL 91 yX1_sum ∈ w0 := w0_in 764 (by decide +kernel) rfl
theorem kw_398 : Cond.methodLink RJ5 3 objectInit ∈ w0 := w0_in 417 (by decide +kernel) rfl
theorem kw_399 : Cond.fieldLink RJ5 18 "java/lang/String" "COMPACT_STRINGS" "Z" ∈ w0 := w0_in 418 (by decide +kernel) rfl
theorem kw_400 : Cond.arrayClass .byte ∈ w0 := w0_in 240 (by decide +kernel) rfl
theorem kw_401 : Cond.fieldLink RJ5 15 "java/lang/AbstractStringBuilder" "value" "[B" ∈ w0 := w0_in 427 (by decide +kernel) rfl
theorem kw_402 : Cond.fieldLink RJ5 22 "java/lang/AbstractStringBuilder" "coder" "B" ∈ w0 := w0_in 428 (by decide +kernel) rfl
set_option maxRecDepth 40000 in
theorem kw_403 : Cond.code yJ5_init_d00df cJ5_init_d00df 2 none ∈ w0 := w0_in 416 rfl rfl
theorem kw_404 : Cond.initialized RJ5 ∈ w0 := w0_in 42 (by decide +kernel) rfl
theorem kw_405 : Cond.methodLink RJ4 1 yJ5_init_d00df ∈ w0 := w0_in 414 (by decide +kernel) rfl
theorem kw_406 : Cond.instanceMethod yJ5_init_d00df ∈ w0 := w0_in 415 (by decide +kernel) rfl
theorem kw_407 : Cond.fieldLink RJ5 79 "java/lang/AbstractStringBuilder" "count" "I" ∈ w0 := w0_in 430 (by decide +kernel) rfl
set_option maxRecDepth 40000 in
theorem kw_408 : Cond.code yJ5_length_8abf5 cJ5_length_8abf5 1 (some .int) ∈ w0 := w0_in 597 rfl rfl
theorem kw_409 : Cond.methodLink RJ4 343 yJ5_length_8abf5 ∈ w0 := w0_in 596 (by decide +kernel) rfl
theorem kw_410 : Cond.sameMethod "java/lang/AbstractStringBuilder" "java/lang/AbstractStringBuilder" "length" "()I" ∈ w0 := w0_in 592 (by decide +kernel) rfl
theorem kw_411 : Cond.superclass RJ4 RJ5 ∈ w0 := w0_in 439 (by decide +kernel) rfl
theorem kw_412 : Cond.instanceMethod yJ5_length_8abf5 ∈ w0 := w0_in 591 (by decide +kernel) rfl
set_option maxRecDepth 40000 in
theorem kw_413 : Cond.code yJ7_checkLength_df160 cJ7_checkLength_df160 2 none ∈ w0 := w0_in 607 rfl rfl
theorem kw_414 : Cond.methodLink RJ7 343 yJ7_checkLength_df160 ∈ w0 := w0_in 605 (by decide +kernel) rfl
theorem kw_415 : Cond.static yJ7_checkLength_df160 ∈ w0 := w0_in 606 (by decide +kernel) rfl
theorem kw_416 : Cond.initialized RJ7 ∈ w0 := w0_in 48 (by decide +kernel) rfl
theorem kw_417 : Cond.methodLink RJ7 304 Lib.Math.min.name ∈ w0 := w0_in 476 (by decide +kernel) rfl
theorem kw_418 : Cond.methodLink RJ7 150 arraycopyName ∈ w0 := w0_in 479 (by decide +kernel) rfl
theorem kw_419 : Cond.native arraycopyName ∈ w0 := w0_in 481 (by decide +kernel) rfl
theorem kw_420 : Cond.static arraycopyName ∈ w0 := w0_in 480 (by decide +kernel) rfl
theorem kw_421 : Cond.initialized "java/lang/System" ∈ w0 := w0_in 49 (by decide +kernel) rfl
set_option maxRecDepth 40000 in
theorem kw_422 : Cond.code yJ7_copyOfRangeByte_39247 cJ7_copyOfRangeByte_39247 5 (some (.array .byte)) ∈ w0 := w0_in 604 rfl rfl
theorem kw_423 : Cond.methodLink RJ7 339 yJ7_copyOfRangeByte_39247 ∈ w0 := w0_in 602 (by decide +kernel) rfl
theorem kw_424 : Cond.static yJ7_copyOfRangeByte_39247 ∈ w0 := w0_in 603 (by decide +kernel) rfl
theorem kw_425 : Cond.methodLink RJ7 310 ⟨"[B", "clone", "()Ljava/lang/Object;"⟩ ∈ w0 := w0_in 469 (by decide +kernel) rfl
theorem kw_426 : Cond.sameMethod "[B" "java/lang/Object" "clone" "()Ljava/lang/Object;" ∈ w0 := w0_in 470 (by decide +kernel) rfl
theorem kw_427 : Cond.native ⟨"java/lang/Object", "clone", "()Ljava/lang/Object;"⟩ ∈ w0 := w0_in 471 (by decide +kernel) rfl
theorem kw_428 : Cond.instanceMethod ⟨"java/lang/Object", "clone", "()Ljava/lang/Object;"⟩ ∈ w0 := w0_in 472 (by decide +kernel) rfl
theorem kw_429 : Cond.selects "[B" ⟨"[B", "clone", "()Ljava/lang/Object;"⟩ ⟨"java/lang/Object", "clone", "()Ljava/lang/Object;"⟩ ∈ w0 := w0_in 473 (by decide +kernel) rfl
theorem kw_430 : Cond.classLink RJ7 311 "[B" ∈ w0 := w0_in 475 (by decide +kernel) rfl
theorem kw_431 : Cond.fieldLink RJ0 15 "java/lang/String" "coder" "B" ∈ w0 := w0_in 667 (by decide +kernel) rfl
set_option maxRecDepth 40000 in
theorem kw_432 : Cond.code yJ7_copyOfRange_39247 cJ7_copyOfRange_39247 3 (some (.array .byte)) ∈ w0 := w0_in 601 rfl rfl
theorem kw_433 : Cond.methodLink RJ0 54 yJ7_copyOfRange_39247 ∈ w0 := w0_in 599 (by decide +kernel) rfl
theorem kw_434 : Cond.static yJ7_copyOfRange_39247 ∈ w0 := w0_in 600 (by decide +kernel) rfl
theorem kw_435 : Cond.fieldLink RJ0 9 "java/lang/String" "value" "[B" ∈ w0 := w0_in 666 (by decide +kernel) rfl
theorem kw_436 : Cond.methodLink RJ0 1 objectInit ∈ w0 := w0_in 584 (by decide +kernel) rfl
set_option maxRecDepth 40000 in
theorem kw_437 : Cond.code yJ5_getValue_6d5f1 cJ5_getValue_6d5f1 1 (some (.array .byte)) ∈ w0 := w0_in 589 rfl rfl
theorem kw_438 : Cond.methodLink RJ0 552 ⟨"java/lang/AbstractStringBuilder", "getValue", "()[B"⟩ ∈ w0 := w0_in 585 (by decide +kernel) rfl
theorem kw_439 : Cond.sameMethod "java/lang/AbstractStringBuilder" "java/lang/AbstractStringBuilder" "getValue" "()[B" ∈ w0 := w0_in 587 (by decide +kernel) rfl
theorem kw_440 : Cond.selects RJ4 ⟨"java/lang/AbstractStringBuilder", "getValue", "()[B"⟩ yJ5_getValue_6d5f1 ∈ w0 := w0_in 588 (by decide +kernel) rfl
theorem kw_441 : Cond.instanceMethod yJ5_getValue_6d5f1 ∈ w0 := w0_in 586 (by decide +kernel) rfl
set_option maxRecDepth 40000 in
theorem kw_442 : Cond.code yJ4_length_8abf5 cJ4_length_8abf5 1 (some .int) ∈ w0 := w0_in 595 rfl rfl
theorem kw_443 : Cond.methodLink RJ0 549 ⟨"java/lang/AbstractStringBuilder", "length", "()I"⟩ ∈ w0 := w0_in 590 (by decide +kernel) rfl
theorem kw_444 : Cond.instanceMethod ⟨"java/lang/AbstractStringBuilder", "length", "()I"⟩ ∈ w0 := w0_in 591 (by decide +kernel) rfl
theorem kw_445 : Cond.selects RJ4 ⟨"java/lang/AbstractStringBuilder", "length", "()I"⟩ yJ4_length_8abf5 ∈ w0 := w0_in 593 (by decide +kernel) rfl
theorem kw_446 : Cond.instanceMethod yJ4_length_8abf5 ∈ w0 := w0_in 594 (by decide +kernel) rfl
theorem kw_447 : Cond.initialized RJ4 ∈ w0 := w0_in 43 (by decide +kernel) rfl
set_option maxRecDepth 40000 in
theorem kw_448 : Cond.code yJ5_isLatin1_aae02 cJ5_isLatin1_aae02 1 (some .boolean) ∈ w0 := w0_in 486 rfl rfl
theorem kw_449 : Cond.methodLink RJ0 1047 ⟨"java/lang/AbstractStringBuilder", "isLatin1", "()Z"⟩ ∈ w0 := w0_in 598 (by decide +kernel) rfl
theorem kw_450 : Cond.sameMethod "java/lang/AbstractStringBuilder" "java/lang/AbstractStringBuilder" "isLatin1" "()Z" ∈ w0 := w0_in 484 (by decide +kernel) rfl
theorem kw_451 : Cond.selects RJ4 ⟨"java/lang/AbstractStringBuilder", "isLatin1", "()Z"⟩ yJ5_isLatin1_aae02 ∈ w0 := w0_in 485 (by decide +kernel) rfl
theorem kw_452 : Cond.instanceMethod yJ5_isLatin1_aae02 ∈ w0 := w0_in 483 (by decide +kernel) rfl
theorem kw_453 : Cond.fieldLink RJ0 38 "java/lang/String" "COMPACT_STRINGS" "Z" ∈ w0 := w0_in 635 (by decide +kernel) rfl
theorem kw_454 : Cond.fieldLink RJ0 1048 "java/lang/AbstractStringBuilder" "maybeLatin1" "Z" ∈ w0 := w0_in 429 (by decide +kernel) rfl
set_option maxRecDepth 40000 in
theorem kw_455 : Cond.code yJ0_init_db425 cJ0_init_db425 5 none ∈ w0 := w0_in 583 rfl rfl
theorem kw_456 : Cond.initialized RJ0 ∈ w0 := w0_in 44 (by decide +kernel) rfl
theorem kw_457 : Cond.methodLink RJ0 489 yJ0_init_db425 ∈ w0 := w0_in 581 (by decide +kernel) rfl
theorem kw_458 : Cond.instanceMethod yJ0_init_db425 ∈ w0 := w0_in 582 (by decide +kernel) rfl
theorem kw_459 : Cond.classLink RJ4 18 RJ0 ∈ w0 := w0_in 576 (by decide +kernel) rfl
theorem kw_460 : Cond.instantiable RJ0 4 ∈ w0 := w0_in 577 (by decide +kernel) rfl
set_option maxRecDepth 40000 in
theorem kw_461 : Cond.code yJ0_init_81219 cJ0_init_81219 2 none ∈ w0 := w0_in 580 rfl rfl
theorem kw_462 : Cond.methodLink RJ4 137 yJ0_init_81219 ∈ w0 := w0_in 578 (by decide +kernel) rfl
theorem kw_463 : Cond.instanceMethod yJ0_init_81219 ∈ w0 := w0_in 579 (by decide +kernel) rfl
theorem kw_464 : Cond.methodLink RJ8 194 Lib.Math.max.name ∈ w0 := w0_in 458 (by decide +kernel) rfl
theorem kw_465 : Cond.constant RJ8 200 (2147483639) ∈ w0 := w0_in 461 (by decide +kernel) rfl
set_option maxRecDepth 40000 in
theorem kw_466 : Cond.code yJ8_newLength_cabcc cJ8_newLength_cabcc 4 (some .int) ∈ w0 := w0_in 457 rfl rfl
theorem kw_467 : Cond.methodLink RJ5 114 yJ8_newLength_cabcc ∈ w0 := w0_in 455 (by decide +kernel) rfl
theorem kw_468 : Cond.static yJ8_newLength_cabcc ∈ w0 := w0_in 456 (by decide +kernel) rfl
theorem kw_469 : Cond.initialized RJ8 ∈ w0 := w0_in 46 (by decide +kernel) rfl
theorem kw_470 : Cond.constant RJ5 39 (2147483647) ∈ w0 := w0_in 465 (by decide +kernel) rfl
set_option maxRecDepth 40000 in
theorem kw_471 : Cond.code yJ5_newCapacity_0f7a4 cJ5_newCapacity_0f7a4 6 (some .int) ∈ w0 := w0_in 454 rfl rfl
theorem kw_472 : Cond.methodLink RJ5 104 ⟨"java/lang/AbstractStringBuilder", "newCapacity", "(I)I"⟩ ∈ w0 := w0_in 451 (by decide +kernel) rfl
theorem kw_473 : Cond.sameMethod "java/lang/AbstractStringBuilder" "java/lang/AbstractStringBuilder" "newCapacity" "(I)I" ∈ w0 := w0_in 1289 (by decide +kernel) rfl
theorem kw_474 : Cond.selects RJ4 ⟨"java/lang/AbstractStringBuilder", "newCapacity", "(I)I"⟩ yJ5_newCapacity_0f7a4 ∈ w0 := w0_in 1296 (by decide +kernel) rfl
theorem kw_475 : Cond.instanceMethod yJ5_newCapacity_0f7a4 ∈ w0 := w0_in 453 (by decide +kernel) rfl
set_option maxRecDepth 40000 in
theorem kw_476 : Cond.code yJ7_copyOf_9075b cJ7_copyOf_9075b 3 (some (.array .byte)) ∈ w0 := w0_in 468 rfl rfl
theorem kw_477 : Cond.methodLink RJ5 108 yJ7_copyOf_9075b ∈ w0 := w0_in 466 (by decide +kernel) rfl
theorem kw_478 : Cond.static yJ7_copyOf_9075b ∈ w0 := w0_in 467 (by decide +kernel) rfl
theorem kw_479 : Cond.fieldLink RJ6 83 "java/lang/Integer" "DigitOnes" "[B" ∈ w0 := w0_in 548 (by decide +kernel) rfl
theorem kw_480 : Cond.fieldLink RJ6 87 "java/lang/Integer" "DigitTens" "[B" ∈ w0 := w0_in 550 (by decide +kernel) rfl
set_option maxRecDepth 40000 in
theorem kw_481 : Cond.code yJ6_stringSize_0f7a4 cJ6_stringSize_0f7a4 4 (some .int) ∈ w0 := w0_in 544 rfl rfl
theorem kw_482 : Cond.methodLink RJ5 245 yJ6_stringSize_0f7a4 ∈ w0 := w0_in 542 (by decide +kernel) rfl
theorem kw_483 : Cond.static yJ6_stringSize_0f7a4 ∈ w0 := w0_in 543 (by decide +kernel) rfl
set_option maxRecDepth 40000 in
theorem kw_484 : Cond.code yJ5_ensureCapacityInternal_d00df cJ5_ensureCapacityInternal_d00df 3 none ∈ w0 := w0_in 450 rfl rfl
theorem kw_485 : Cond.methodLink RJ5 100 ⟨"java/lang/AbstractStringBuilder", "ensureCapacityInternal", "(I)V"⟩ ∈ w0 := w0_in 447 (by decide +kernel) rfl
theorem kw_486 : Cond.sameMethod "java/lang/AbstractStringBuilder" "java/lang/AbstractStringBuilder" "ensureCapacityInternal" "(I)V" ∈ w0 := w0_in 1288 (by decide +kernel) rfl
theorem kw_487 : Cond.selects RJ4 ⟨"java/lang/AbstractStringBuilder", "ensureCapacityInternal", "(I)V"⟩ yJ5_ensureCapacityInternal_d00df ∈ w0 := w0_in 1297 (by decide +kernel) rfl
theorem kw_488 : Cond.instanceMethod yJ5_ensureCapacityInternal_d00df ∈ w0 := w0_in 449 (by decide +kernel) rfl
theorem kw_489 : Cond.methodLink RJ5 83 ⟨"java/lang/AbstractStringBuilder", "isLatin1", "()Z"⟩ ∈ w0 := w0_in 482 (by decide +kernel) rfl
set_option maxRecDepth 40000 in
theorem kw_490 : Cond.code yJ6_getChars_ba4f3 cJ6_getChars_ba4f3 7 (some .int) ∈ w0 := w0_in 547 rfl rfl
theorem kw_491 : Cond.methodLink RJ5 248 yJ6_getChars_ba4f3 ∈ w0 := w0_in 545 (by decide +kernel) rfl
theorem kw_492 : Cond.static yJ6_getChars_ba4f3 ∈ w0 := w0_in 546 (by decide +kernel) rfl
set_option maxRecDepth 40000 in
theorem kw_493 : Cond.code yJ5_append_c97b9 cJ5_append_c97b9 4 (some (.object "java/lang/AbstractStringBuilder")) ∈ w0 := w0_in 541 rfl rfl
theorem kw_494 : Cond.methodLink RJ4 53 yJ5_append_c97b9 ∈ w0 := w0_in 539 (by decide +kernel) rfl
theorem kw_495 : Cond.sameMethod "java/lang/AbstractStringBuilder" "java/lang/AbstractStringBuilder" "append" "(I)Ljava/lang/AbstractStringBuilder;" ∈ w0 := w0_in 1291 (by decide +kernel) rfl
theorem kw_496 : Cond.instanceMethod yJ5_append_c97b9 ∈ w0 := w0_in 540 (by decide +kernel) rfl
set_option maxRecDepth 40000 in
theorem kw_497 : Cond.code yJ1_canEncode_fc78d cJ1_canEncode_fc78d 1 (some .boolean) ∈ w0 := w0_in 489 rfl rfl
theorem kw_498 : Cond.methodLink RJ5 191 yJ1_canEncode_fc78d ∈ w0 := w0_in 487 (by decide +kernel) rfl
theorem kw_499 : Cond.static yJ1_canEncode_fc78d ∈ w0 := w0_in 488 (by decide +kernel) rfl
theorem kw_500 : Cond.initialized RJ1 ∈ w0 := w0_in 50 (by decide +kernel) rfl
set_option maxRecDepth 40000 in
theorem kw_501 : Cond.code yJ5_append_3fe6f cJ5_append_3fe6f 2 (some (.object "java/lang/AbstractStringBuilder")) ∈ w0 := w0_in 446 rfl rfl
theorem kw_502 : Cond.methodLink RJ4 50 yJ5_append_3fe6f ∈ w0 := w0_in 444 (by decide +kernel) rfl
theorem kw_503 : Cond.sameMethod "java/lang/AbstractStringBuilder" "java/lang/AbstractStringBuilder" "append" "(C)Ljava/lang/AbstractStringBuilder;" ∈ w0 := w0_in 1287 (by decide +kernel) rfl
theorem kw_504 : Cond.instanceMethod yJ5_append_3fe6f ∈ w0 := w0_in 445 (by decide +kernel) rfl
set_option maxRecDepth 40000 in
theorem kw_505 : Cond.code yJ4_append_bf812 cJ4_append_bf812 2 (some (.object "java/lang/StringBuilder")) ∈ w0 := w0_in 538 rfl rfl
theorem kw_506 : Cond.methodLink RX1 221 yJ4_append_bf812 ∈ w0 := w0_in 535 (by decide +kernel) rfl
theorem kw_507 : Cond.instanceMethod yJ4_append_bf812 ∈ w0 := w0_in 536 (by decide +kernel) rfl
theorem kw_508 : Cond.selects RJ4 yJ4_append_bf812 yJ4_append_bf812 ∈ w0 := w0_in 537 (by decide +kernel) rfl
set_option maxRecDepth 40000 in
theorem kw_509 : Cond.code yJ4_append_cf468 cJ4_append_cf468 2 (some (.object "java/lang/StringBuilder")) ∈ w0 := w0_in 443 rfl rfl
theorem kw_510 : Cond.methodLink RX1 217 yJ4_append_cf468 ∈ w0 := w0_in 440 (by decide +kernel) rfl
theorem kw_511 : Cond.instanceMethod yJ4_append_cf468 ∈ w0 := w0_in 441 (by decide +kernel) rfl
theorem kw_512 : Cond.selects RJ4 yJ4_append_cf468 yJ4_append_cf468 ∈ w0 := w0_in 442 (by decide +kernel) rfl
set_option maxRecDepth 40000 in
theorem kw_513 : Cond.code yX1_appendValue cX1_appendValue 2 none ∈ w0 := w0_in 571 rfl rfl
theorem kw_514 : Cond.methodLink RX1 224 yX1_appendValue ∈ w0 := w0_in 569 (by decide +kernel) rfl
theorem kw_515 : Cond.static yX1_appendValue ∈ w0 := w0_in 570 (by decide +kernel) rfl
set_option maxRecDepth 40000 in
theorem kw_516 : Cond.code yJ4_toString_0e30d cJ4_toString_0e30d 1 (some (.object "java/lang/String")) ∈ w0 := w0_in 575 rfl rfl
theorem kw_517 : Cond.methodLink RX1 228 yJ4_toString_0e30d ∈ w0 := w0_in 572 (by decide +kernel) rfl
theorem kw_518 : Cond.instanceMethod yJ4_toString_0e30d ∈ w0 := w0_in 573 (by decide +kernel) rfl
theorem kw_519 : Cond.selects RJ4 yJ4_toString_0e30d yJ4_toString_0e30d ∈ w0 := w0_in 574 (by decide +kernel) rfl
theorem kw_520 : Cond.classLink RX1 210 RJ4 ∈ w0 := w0_in 409 (by decide +kernel) rfl
theorem kw_521 : Cond.instantiable RJ4 4 ∈ w0 := w0_in 410 (by decide +kernel) rfl
set_option maxRecDepth 40000 in
theorem kw_522 : Cond.code yJ4_init_da8c8 cJ4_init_da8c8 1 none ∈ w0 := w0_in 413 rfl rfl
theorem kw_523 : Cond.methodLink RX1 212 yJ4_init_da8c8 ∈ w0 := w0_in 411 (by decide +kernel) rfl
theorem kw_524 : Cond.instanceMethod yJ4_init_da8c8 ∈ w0 := w0_in 412 (by decide +kernel) rfl
set_option maxRecDepth 40000 in
theorem kw_525 : Cond.code yX1_textOf cX1_textOf 8 (some (.object "java/lang/String")) ∈ w0 := w0_in 408 rfl rfl
theorem kw_526 : Cond.methodLink RX1 75 yX1_textOf ∈ w0 := w0_in 406 (by decide +kernel) rfl
theorem kw_527 : Cond.static yX1_textOf ∈ w0 := w0_in 407 (by decide +kernel) rfl
set_option maxRecDepth 40000 in
theorem kw_528 : Cond.code yX1_walk cX1_walk 7 (some (.object "java/lang/String")) ∈ w0 := w0_in 756 rfl rfl
theorem kw_529 : Cond.methodLink RL 87 yX1_walk ∈ w0 := w0_in 753 (by decide +kernel) rfl
theorem kw_530 : Cond.instanceMethod yX1_walk ∈ w0 := w0_in 754 (by decide +kernel) rfl
theorem kw_531 : Cond.selects RX1 yX1_walk yX1_walk ∈ w0 := w0_in 755 (by decide +kernel) rfl
set_option maxRecDepth 40000 in
theorem kw_532 : Cond.code yJ0_coder_7d493 cJ0_coder_7d493 1 (some .byte) ∈ w0 := w0_in 634 rfl rfl
theorem kw_533 : Cond.methodLink RJ0 335 yJ0_coder_7d493 ∈ w0 := w0_in 631 (by decide +kernel) rfl
theorem kw_534 : Cond.instanceMethod yJ0_coder_7d493 ∈ w0 := w0_in 632 (by decide +kernel) rfl
theorem kw_535 : Cond.selects RJ0 yJ0_coder_7d493 yJ0_coder_7d493 ∈ w0 := w0_in 633 (by decide +kernel) rfl
theorem kw_536 : Cond.methodLink RJ5 40 yJ0_coder_7d493 ∈ w0 := w0_in 644 (by decide +kernel) rfl
theorem kw_537 : Cond.methodLink RJ0 212 arraycopyName ∈ w0 := w0_in 649 (by decide +kernel) rfl
set_option maxRecDepth 40000 in
theorem kw_538 : Cond.code yJ5_inflateIfNeededFor_a7421 cJ5_inflateIfNeededFor_a7421 2 none ∈ w0 := w0_in 643 rfl rfl
theorem kw_539 : Cond.methodLink RJ5 397 ⟨"java/lang/AbstractStringBuilder", "inflateIfNeededFor", "(Ljava/lang/String;)V"⟩ ∈ w0 := w0_in 640 (by decide +kernel) rfl
theorem kw_540 : Cond.sameMethod "java/lang/AbstractStringBuilder" "java/lang/AbstractStringBuilder" "inflateIfNeededFor" "(Ljava/lang/String;)V" ∈ w0 := w0_in 1295 (by decide +kernel) rfl
theorem kw_541 : Cond.selects RJ4 ⟨"java/lang/AbstractStringBuilder", "inflateIfNeededFor", "(Ljava/lang/String;)V"⟩ yJ5_inflateIfNeededFor_a7421 ∈ w0 := w0_in 1298 (by decide +kernel) rfl
theorem kw_542 : Cond.instanceMethod yJ5_inflateIfNeededFor_a7421 ∈ w0 := w0_in 642 (by decide +kernel) rfl
set_option maxRecDepth 40000 in
theorem kw_543 : Cond.code yJ0_getBytes_840e7 cJ0_getBytes_840e7 4 none ∈ w0 := w0_in 648 rfl rfl
theorem kw_544 : Cond.methodLink RJ5 399 yJ0_getBytes_840e7 ∈ w0 := w0_in 645 (by decide +kernel) rfl
theorem kw_545 : Cond.instanceMethod yJ0_getBytes_840e7 ∈ w0 := w0_in 646 (by decide +kernel) rfl
theorem kw_546 : Cond.selects RJ0 yJ0_getBytes_840e7 yJ0_getBytes_840e7 ∈ w0 := w0_in 647 (by decide +kernel) rfl
set_option maxRecDepth 40000 in
theorem kw_547 : Cond.code yJ0_length_8abf5 cJ0_length_8abf5 1 (some .int) ∈ w0 := w0_in 630 rfl rfl
theorem kw_548 : Cond.methodLink RJ5 32 yJ0_length_8abf5 ∈ w0 := w0_in 627 (by decide +kernel) rfl
theorem kw_549 : Cond.instanceMethod yJ0_length_8abf5 ∈ w0 := w0_in 628 (by decide +kernel) rfl
theorem kw_550 : Cond.selects RJ0 yJ0_length_8abf5 yJ0_length_8abf5 ∈ w0 := w0_in 629 (by decide +kernel) rfl
set_option maxRecDepth 40000 in
theorem kw_551 : Cond.code yJ5_putStringAt_47b60 cJ5_putStringAt_47b60 3 none ∈ w0 := w0_in 639 rfl rfl
theorem kw_552 : Cond.methodLink RJ5 208 ⟨"java/lang/AbstractStringBuilder", "putStringAt", "(ILjava/lang/String;)V"⟩ ∈ w0 := w0_in 636 (by decide +kernel) rfl
theorem kw_553 : Cond.sameMethod "java/lang/AbstractStringBuilder" "java/lang/AbstractStringBuilder" "putStringAt" "(ILjava/lang/String;)V" ∈ w0 := w0_in 1294 (by decide +kernel) rfl
theorem kw_554 : Cond.selects RJ4 ⟨"java/lang/AbstractStringBuilder", "putStringAt", "(ILjava/lang/String;)V"⟩ yJ5_putStringAt_47b60 ∈ w0 := w0_in 1299 (by decide +kernel) rfl
theorem kw_555 : Cond.instanceMethod yJ5_putStringAt_47b60 ∈ w0 := w0_in 638 (by decide +kernel) rfl
set_option maxRecDepth 40000 in
theorem kw_556 : Cond.code yJ5_append_cf1ce cJ5_append_cf1ce 3 (some (.object "java/lang/AbstractStringBuilder")) ∈ w0 := w0_in 619 rfl rfl
theorem kw_557 : Cond.methodLink RJ4 29 yJ5_append_cf1ce ∈ w0 := w0_in 617 (by decide +kernel) rfl
theorem kw_558 : Cond.sameMethod "java/lang/AbstractStringBuilder" "java/lang/AbstractStringBuilder" "append" "(Ljava/lang/String;)Ljava/lang/AbstractStringBuilder;" ∈ w0 := w0_in 1292 (by decide +kernel) rfl
theorem kw_559 : Cond.instanceMethod yJ5_append_cf1ce ∈ w0 := w0_in 618 (by decide +kernel) rfl
theorem kw_560 : Cond.classLink RX3 65 RJ4 ∈ w0 := w0_in 1059 (by decide +kernel) rfl
theorem kw_561 : Cond.methodLink RX3 67 yJ4_init_da8c8 ∈ w0 := w0_in 1060 (by decide +kernel) rfl
set_option maxRecDepth 40000 in
theorem kw_562 : Cond.code yJ4_append_15ec4 cJ4_append_15ec4 2 (some (.object "java/lang/StringBuilder")) ∈ w0 := w0_in 616 rfl rfl
theorem kw_563 : Cond.methodLink RX3 70 yJ4_append_15ec4 ∈ w0 := w0_in 1061 (by decide +kernel) rfl
theorem kw_564 : Cond.instanceMethod yJ4_append_15ec4 ∈ w0 := w0_in 614 (by decide +kernel) rfl
theorem kw_565 : Cond.selects RJ4 yJ4_append_15ec4 yJ4_append_15ec4 ∈ w0 := w0_in 615 (by decide +kernel) rfl
theorem kw_566 : Cond.methodLink RX3 74 yJ4_append_bf812 ∈ w0 := w0_in 1062 (by decide +kernel) rfl
theorem kw_567 : Cond.methodLink RX3 77 yJ4_toString_0e30d ∈ w0 := w0_in 1063 (by decide +kernel) rfl
set_option maxRecDepth 40000 in
theorem kw_568 : Cond.code yX3_shown cX3_shown 1 (some (.object "java/lang/String")) ∈ w0 := w0_in 1057 rfl rfl
theorem kw_569 : Cond.methodLink RX3 105 yX3_shown ∈ w0 := w0_in 1055 (by decide +kernel) rfl
theorem kw_570 : Cond.static yX3_shown ∈ w0 := w0_in 1056 (by decide +kernel) rfl
set_option maxRecDepth 40000 in
theorem kw_571 : Cond.code yJ0_isEmpty_aae02 cJ0_isEmpty_aae02 1 (some .boolean) ∈ w0 := w0_in 1054 rfl rfl
theorem kw_572 : Cond.methodLink RX3 99 yJ0_isEmpty_aae02 ∈ w0 := w0_in 1051 (by decide +kernel) rfl
theorem kw_573 : Cond.instanceMethod yJ0_isEmpty_aae02 ∈ w0 := w0_in 1052 (by decide +kernel) rfl
theorem kw_574 : Cond.selects RJ0 yJ0_isEmpty_aae02 yJ0_isEmpty_aae02 ∈ w0 := w0_in 1053 (by decide +kernel) rfl
theorem kw_575 : Cond.methodLink RL 84 yX1_code ∈ w0 := w0_in 749 (by decide +kernel) rfl
set_option maxRecDepth 40000 in
theorem kw_576 : Cond.code yX1_areEqual cX1_areEqual 4 (some .boolean) ∈ w0 := w0_in 745 rfl rfl
theorem kw_577 : Cond.methodLink RL 81 yX1_areEqual ∈ w0 := w0_in 742 (by decide +kernel) rfl
theorem kw_578 : Cond.instanceMethod yX1_areEqual ∈ w0 := w0_in 743 (by decide +kernel) rfl
theorem kw_579 : Cond.selects RX1 yX1_areEqual yX1_areEqual ∈ w0 := w0_in 744 (by decide +kernel) rfl
set_option maxRecDepth 40000 in
theorem kw_580 : Cond.code yX3_isAt cX3_isAt 5 (some .boolean) ∈ w0 := w0_in 1116 rfl rfl
theorem kw_581 : Cond.methodLink RX3 128 yX3_isAt ∈ w0 := w0_in 1114 (by decide +kernel) rfl
theorem kw_582 : Cond.static yX3_isAt ∈ w0 := w0_in 1115 (by decide +kernel) rfl
set_option maxRecDepth 40000 in
theorem kw_583 : Cond.code yX1_indexOfAll cX1_indexOfAll 6 (some .int) ∈ w0 := w0_in 738 rfl rfl
theorem kw_584 : Cond.methodLink RL 78 yX1_indexOfAll ∈ w0 := w0_in 735 (by decide +kernel) rfl
theorem kw_585 : Cond.instanceMethod yX1_indexOfAll ∈ w0 := w0_in 736 (by decide +kernel) rfl
theorem kw_586 : Cond.selects RX1 yX1_indexOfAll yX1_indexOfAll ∈ w0 := w0_in 737 (by decide +kernel) rfl
set_option maxRecDepth 40000 in
theorem kw_587 : Cond.code yX1_areApart cX1_areApart 4 (some .boolean) ∈ w0 := w0_in 731 rfl rfl
theorem kw_588 : Cond.methodLink RL 75 yX1_areApart ∈ w0 := w0_in 728 (by decide +kernel) rfl
theorem kw_589 : Cond.instanceMethod yX1_areApart ∈ w0 := w0_in 729 (by decide +kernel) rfl
theorem kw_590 : Cond.selects RX1 yX1_areApart yX1_areApart ∈ w0 := w0_in 730 (by decide +kernel) rfl
set_option maxRecDepth 40000 in
theorem kw_591 : Cond.code yX1_hasAll cX1_hasAll 4 (some .boolean) ∈ w0 := w0_in 721 rfl rfl
theorem kw_592 : Cond.methodLink RL 72 yX1_hasAll ∈ w0 := w0_in 718 (by decide +kernel) rfl
theorem kw_593 : Cond.instanceMethod yX1_hasAll ∈ w0 := w0_in 719 (by decide +kernel) rfl
theorem kw_594 : Cond.selects RX1 yX1_hasAll yX1_hasAll ∈ w0 := w0_in 720 (by decide +kernel) rfl
set_option maxRecDepth 40000 in
theorem kw_595 : Cond.code yX1_often cX1_often 6 (some .int) ∈ w0 := w0_in 714 rfl rfl
theorem kw_596 : Cond.methodLink RL 69 yX1_often ∈ w0 := w0_in 711 (by decide +kernel) rfl
theorem kw_597 : Cond.instanceMethod yX1_often ∈ w0 := w0_in 712 (by decide +kernel) rfl
theorem kw_598 : Cond.selects RX1 yX1_often yX1_often ∈ w0 := w0_in 713 (by decide +kernel) rfl
set_option maxRecDepth 40000 in
theorem kw_599 : Cond.code yX1_has cX1_has 4 (some .boolean) ∈ w0 := w0_in 704 rfl rfl
theorem kw_600 : Cond.methodLink RL 65 yX1_has ∈ w0 := w0_in 701 (by decide +kernel) rfl
theorem kw_601 : Cond.instanceMethod yX1_has ∈ w0 := w0_in 702 (by decide +kernel) rfl
theorem kw_602 : Cond.selects RX1 yX1_has yX1_has ∈ w0 := w0_in 703 (by decide +kernel) rfl
set_option maxRecDepth 40000 in
theorem kw_603 : Cond.code yX3_placeOf cX3_placeOf 3 (some .int) ∈ w0 := w0_in 1075 rfl rfl
theorem kw_604 : Cond.methodLink RX3 115 yX3_placeOf ∈ w0 := w0_in 1073 (by decide +kernel) rfl
theorem kw_605 : Cond.static yX3_placeOf ∈ w0 := w0_in 1074 (by decide +kernel) rfl
set_option maxRecDepth 40000 in
theorem kw_606 : Cond.code yX1_lastIndexOf cX1_lastIndexOf 4 (some .int) ∈ w0 := w0_in 697 rfl rfl
theorem kw_607 : Cond.methodLink RL 62 yX1_lastIndexOf ∈ w0 := w0_in 694 (by decide +kernel) rfl
theorem kw_608 : Cond.instanceMethod yX1_lastIndexOf ∈ w0 := w0_in 695 (by decide +kernel) rfl
theorem kw_609 : Cond.selects RX1 yX1_lastIndexOf yX1_lastIndexOf ∈ w0 := w0_in 696 (by decide +kernel) rfl
set_option maxRecDepth 40000 in
theorem kw_610 : Cond.code yX1_indexOf cX1_indexOf 4 (some .int) ∈ w0 := w0_in 690 rfl rfl
theorem kw_611 : Cond.methodLink RL 59 yX1_indexOf ∈ w0 := w0_in 687 (by decide +kernel) rfl
theorem kw_612 : Cond.instanceMethod yX1_indexOf ∈ w0 := w0_in 688 (by decide +kernel) rfl
theorem kw_613 : Cond.selects RX1 yX1_indexOf yX1_indexOf ∈ w0 := w0_in 689 (by decide +kernel) rfl
set_option maxRecDepth 40000 in
theorem kw_614 : Cond.code yX1_back cX1_back 3 (some (.object "java/lang/String")) ∈ w0 := w0_in 683 rfl rfl
theorem kw_615 : Cond.methodLink RL 56 yX1_back ∈ w0 := w0_in 680 (by decide +kernel) rfl
theorem kw_616 : Cond.instanceMethod yX1_back ∈ w0 := w0_in 681 (by decide +kernel) rfl
theorem kw_617 : Cond.selects RX1 yX1_back yX1_back ∈ w0 := w0_in 682 (by decide +kernel) rfl
set_option maxRecDepth 40000 in
theorem kw_618 : Cond.code yX3_line cX3_line 8 (some (.object "java/lang/String")) ∈ w0 := w0_in 1045 rfl rfl
theorem kw_619 : Cond.methodLink RX3 111 yX3_line ∈ w0 := w0_in 1042 (by decide +kernel) rfl
theorem kw_620 : Cond.instanceMethod yX3_line ∈ w0 := w0_in 1044 (by decide +kernel) rfl
theorem kw_621 : Cond.selects RX3 yX3_line yX3_line ∈ w0 := w0_in 18 (by decide +kernel) rfl
set_option maxRecDepth 40000 in
theorem kw_622 : Cond.code yX1_text cX1_text 3 (some (.object "java/lang/String")) ∈ w0 := w0_in 405 rfl rfl
theorem kw_623 : Cond.methodLink RL 48 yX1_text ∈ w0 := w0_in 402 (by decide +kernel) rfl
theorem kw_624 : Cond.instanceMethod yX1_text ∈ w0 := w0_in 403 (by decide +kernel) rfl
theorem kw_625 : Cond.selects RX1 yX1_text yX1_text ∈ w0 := w0_in 404 (by decide +kernel) rfl
set_option maxRecDepth 40000 in
theorem kw_626 : Cond.code yX1_isEmpty cX1_isEmpty 2 (some .boolean) ∈ w0 := w0_in 398 rfl rfl
theorem kw_627 : Cond.methodLink RL 44 yX1_isEmpty ∈ w0 := w0_in 395 (by decide +kernel) rfl
theorem kw_628 : Cond.instanceMethod yX1_isEmpty ∈ w0 := w0_in 396 (by decide +kernel) rfl
theorem kw_629 : Cond.selects RX1 yX1_isEmpty yX1_isEmpty ∈ w0 := w0_in 397 (by decide +kernel) rfl
theorem kw_630 : Cond.methodLink RL 40 yX1_length ∈ w0 := w0_in 391 (by decide +kernel) rfl
set_option maxRecDepth 40000 in
theorem kw_631 : Cond.code yX1_get cX1_get 4 (some .int) ∈ w0 := w0_in 387 rfl rfl
theorem kw_632 : Cond.methodLink RL 37 yX1_get ∈ w0 := w0_in 384 (by decide +kernel) rfl
theorem kw_633 : Cond.instanceMethod yX1_get ∈ w0 := w0_in 385 (by decide +kernel) rfl
theorem kw_634 : Cond.selects RX1 yX1_get yX1_get ∈ w0 := w0_in 386 (by decide +kernel) rfl
set_option maxRecDepth 40000 in
theorem kw_635 : Cond.code yX1_set cX1_set 5 (some .int) ∈ w0 := w0_in 380 rfl rfl
theorem kw_636 : Cond.methodLink RL 34 yX1_set ∈ w0 := w0_in 377 (by decide +kernel) rfl
theorem kw_637 : Cond.instanceMethod yX1_set ∈ w0 := w0_in 378 (by decide +kernel) rfl
theorem kw_638 : Cond.selects RX1 yX1_set yX1_set ∈ w0 := w0_in 379 (by decide +kernel) rfl
theorem kw_639 : Cond.classLink RX0 10 RX0 ∈ w0 := w0_in 372 (by decide +kernel) rfl
theorem kw_640 : Cond.methodLink RX0 33 yX0_init ∈ w0 := w0_in 373 (by decide +kernel) rfl
set_option maxRecDepth 40000 in
theorem kw_641 : Cond.code yX1_checkPart cX1_checkPart 1 none ∈ w0 := w0_in 366 rfl rfl
theorem kw_642 : Cond.methodLink RX1 62 yX1_checkPart ∈ w0 := w0_in 364 (by decide +kernel) rfl
theorem kw_643 : Cond.static yX1_checkPart ∈ w0 := w0_in 365 (by decide +kernel) rfl
set_option maxRecDepth 40000 in
theorem kw_644 : Cond.code yX0_pieceOf cX0_pieceOf 3 (some (.object "Twinrow$RowList")) ∈ w0 := w0_in 371 rfl rfl
theorem kw_645 : Cond.methodLink RX1 71 yX0_pieceOf ∈ w0 := w0_in 368 (by decide +kernel) rfl
theorem kw_646 : Cond.instanceMethod yX0_pieceOf ∈ w0 := w0_in 369 (by decide +kernel) rfl
theorem kw_647 : Cond.selects RX0 yX0_pieceOf yX0_pieceOf ∈ w0 := w0_in 370 (by decide +kernel) rfl
set_option maxRecDepth 40000 in
theorem kw_648 : Cond.code yX1_part cX1_part 7 (some .int) ∈ w0 := w0_in 363 rfl rfl
theorem kw_649 : Cond.methodLink RL 30 yX1_part ∈ w0 := w0_in 360 (by decide +kernel) rfl
theorem kw_650 : Cond.instanceMethod yX1_part ∈ w0 := w0_in 361 (by decide +kernel) rfl
theorem kw_651 : Cond.selects RX1 yX1_part yX1_part ∈ w0 := w0_in 362 (by decide +kernel) rfl
set_option maxRecDepth 40000 in
theorem kw_652 : Cond.code yX1_at cX1_at 4 (some .int) ∈ w0 := w0_in 356 rfl rfl
theorem kw_653 : Cond.methodLink RL 27 yX1_at ∈ w0 := w0_in 353 (by decide +kernel) rfl
theorem kw_654 : Cond.instanceMethod yX1_at ∈ w0 := w0_in 354 (by decide +kernel) rfl
theorem kw_655 : Cond.selects RX1 yX1_at yX1_at ∈ w0 := w0_in 355 (by decide +kernel) rfl
set_option maxRecDepth 40000 in
theorem kw_656 : Cond.code yX3_isNoRowPlace cX3_isNoRowPlace 3 (some .boolean) ∈ w0 := w0_in 994 rfl rfl
theorem kw_657 : Cond.methodLink RX3 85 yX3_isNoRowPlace ∈ w0 := w0_in 991 (by decide +kernel) rfl
theorem kw_658 : Cond.instanceMethod yX3_isNoRowPlace ∈ w0 := w0_in 993 (by decide +kernel) rfl
theorem kw_659 : Cond.selects RX3 yX3_isNoRowPlace yX3_isNoRowPlace ∈ w0 := w0_in 13 (by decide +kernel) rfl
set_option maxRecDepth 40000 in
theorem kw_660 : Cond.code yX1_put cX1_put 5 (some .int) ∈ w0 := w0_in 342 rfl rfl
theorem kw_661 : Cond.methodLink RL 23 yX1_put ∈ w0 := w0_in 339 (by decide +kernel) rfl
theorem kw_662 : Cond.instanceMethod yX1_put ∈ w0 := w0_in 340 (by decide +kernel) rfl
theorem kw_663 : Cond.selects RX1 yX1_put yX1_put ∈ w0 := w0_in 341 (by decide +kernel) rfl
theorem kw_664 : Cond.fieldLink RX1 37 "Twinrow$RowList" "values" "[I" ∈ w0 := w0_in 71 (by decide +kernel) rfl
set_option maxRecDepth 40000 in
theorem kw_665 : Cond.code yX1_dropPartsOf cX1_dropPartsOf 5 (some .int) ∈ w0 := w0_in 335 rfl rfl
theorem kw_666 : Cond.methodLink RX1 44 yX1_dropPartsOf ∈ w0 := w0_in 332 (by decide +kernel) rfl
theorem kw_667 : Cond.instanceMethod yX1_dropPartsOf ∈ w0 := w0_in 334 (by decide +kernel) rfl
theorem kw_668 : Cond.selects RX1 yX1_dropPartsOf yX1_dropPartsOf ∈ w0 := w0_in 10 (by decide +kernel) rfl
set_option maxRecDepth 40000 in
theorem kw_669 : Cond.code yX1_lay cX1_lay 5 (some .int) ∈ w0 := w0_in 328 rfl rfl
theorem kw_670 : Cond.methodLink RL 7 yX1_lay ∈ w0 := w0_in 325 (by decide +kernel) rfl
theorem kw_671 : Cond.instanceMethod yX1_lay ∈ w0 := w0_in 326 (by decide +kernel) rfl
theorem kw_672 : Cond.selects RX1 yX1_lay yX1_lay ∈ w0 := w0_in 327 (by decide +kernel) rfl
set_option maxRecDepth 40000 in
theorem kw_673 : Cond.code yX3_walk cX3_walk 8 (some (.object "java/lang/String")) ∈ w0 := w0_in 1132 rfl rfl
theorem kw_674 : Cond.methodLink RL 230 yX3_walk ∈ w0 := w0_in 1129 (by decide +kernel) rfl
theorem kw_675 : Cond.instanceMethod yX3_walk ∈ w0 := w0_in 1130 (by decide +kernel) rfl
theorem kw_676 : Cond.selects RX3 yX3_walk yX3_walk ∈ w0 := w0_in 1131 (by decide +kernel) rfl
set_option maxRecDepth 40000 in
theorem kw_677 : Cond.codeWith yL_walk cL_walk 7 (some .int) [(0, 14, 17, 19), (0, 14, 21, 21)] ∈ w0 := w0_in 752 rfl rfl
theorem kw_678 : Cond.methodLink RL 227 yL_walk ∈ w0 := w0_in 750 (by decide +kernel) rfl
theorem kw_679 : Cond.static yL_walk ∈ w0 := w0_in 751 (by decide +kernel) rfl
theorem kw_680 : Cond.initialized RL ∈ w0 := w0_in 32 (by decide +kernel) rfl
set_option maxRecDepth 40000 in
theorem kw_681 : Cond.code yX3_walkSet cX3_walkSet 6 (some .int) ∈ w0 := w0_in 1149 rfl rfl
theorem kw_682 : Cond.methodLink RL 237 yX3_walkSet ∈ w0 := w0_in 1146 (by decide +kernel) rfl
theorem kw_683 : Cond.instanceMethod yX3_walkSet ∈ w0 := w0_in 1147 (by decide +kernel) rfl
theorem kw_684 : Cond.selects RX3 yX3_walkSet yX3_walkSet ∈ w0 := w0_in 1148 (by decide +kernel) rfl
set_option maxRecDepth 40000 in
theorem kw_685 : Cond.codeWith yL_walkSet cL_walkSet 8 (some .int) [(0, 17, 20, 19), (0, 17, 24, 21)] ∈ w0 := w0_in 767 rfl rfl
theorem kw_686 : Cond.methodLink RL 234 yL_walkSet ∈ w0 := w0_in 765 (by decide +kernel) rfl
theorem kw_687 : Cond.static yL_walkSet ∈ w0 := w0_in 766 (by decide +kernel) rfl
set_option maxRecDepth 40000 in
theorem kw_688 : Cond.code yX3_sort cX3_sort 7 (some .int) ∈ w0 := w0_in 1184 rfl rfl
theorem kw_689 : Cond.methodLink RL 250 yX3_sort ∈ w0 := w0_in 1181 (by decide +kernel) rfl
theorem kw_690 : Cond.instanceMethod yX3_sort ∈ w0 := w0_in 1182 (by decide +kernel) rfl
theorem kw_691 : Cond.selects RX3 yX3_sort yX3_sort ∈ w0 := w0_in 1183 (by decide +kernel) rfl
set_option maxRecDepth 40000 in
theorem kw_692 : Cond.codeWith yL_sort cL_sort 5 (some .int) [(0, 11, 14, 19)] ∈ w0 := w0_in 808 rfl rfl
theorem kw_693 : Cond.methodLink RL 247 yL_sort ∈ w0 := w0_in 806 (by decide +kernel) rfl
theorem kw_694 : Cond.static yL_sort ∈ w0 := w0_in 807 (by decide +kernel) rfl
set_option maxRecDepth 40000 in
theorem kw_695 : Cond.codeWith yL_lay cL_lay 5 (some .int) [(0, 11, 14, 19), (0, 11, 18, 21)] ∈ w0 := w0_in 322 rfl rfl
theorem kw_696 : Cond.methodLink RL 164 yL_lay ∈ w0 := w0_in 320 (by decide +kernel) rfl
theorem kw_697 : Cond.static yL_lay ∈ w0 := w0_in 321 (by decide +kernel) rfl
set_option maxRecDepth 40000 in
theorem kw_698 : Cond.code yX3_lay cX3_lay 5 (some .int) ∈ w0 := w0_in 979 rfl rfl
theorem kw_699 : Cond.methodLink RL 169 yX3_lay ∈ w0 := w0_in 976 (by decide +kernel) rfl
theorem kw_700 : Cond.instanceMethod yX3_lay ∈ w0 := w0_in 977 (by decide +kernel) rfl
theorem kw_701 : Cond.selects RX3 yX3_lay yX3_lay ∈ w0 := w0_in 978 (by decide +kernel) rfl
set_option maxRecDepth 40000 in
theorem kw_702 : Cond.codeWith yL_put cL_put 6 (some .int) [(0, 13, 16, 19), (0, 13, 20, 21)] ∈ w0 := w0_in 338 rfl rfl
theorem kw_703 : Cond.methodLink RL 170 yL_put ∈ w0 := w0_in 336 (by decide +kernel) rfl
theorem kw_704 : Cond.static yL_put ∈ w0 := w0_in 337 (by decide +kernel) rfl
set_option maxRecDepth 40000 in
theorem kw_705 : Cond.code yX3_put cX3_put 5 (some .int) ∈ w0 := w0_in 990 rfl rfl
theorem kw_706 : Cond.methodLink RL 173 yX3_put ∈ w0 := w0_in 987 (by decide +kernel) rfl
theorem kw_707 : Cond.instanceMethod yX3_put ∈ w0 := w0_in 988 (by decide +kernel) rfl
theorem kw_708 : Cond.selects RX3 yX3_put yX3_put ∈ w0 := w0_in 989 (by decide +kernel) rfl
set_option maxRecDepth 40000 in
theorem kw_709 : Cond.codeWith yL_at cL_at 5 (some .int) [(0, 11, 14, 19)] ∈ w0 := w0_in 352 rfl rfl
theorem kw_710 : Cond.methodLink RL 174 yL_at ∈ w0 := w0_in 350 (by decide +kernel) rfl
theorem kw_711 : Cond.static yL_at ∈ w0 := w0_in 351 (by decide +kernel) rfl
set_option maxRecDepth 40000 in
theorem kw_712 : Cond.code yX3_at cX3_at 3 (some .int) ∈ w0 := w0_in 1001 rfl rfl
theorem kw_713 : Cond.methodLink RL 176 yX3_at ∈ w0 := w0_in 998 (by decide +kernel) rfl
theorem kw_714 : Cond.instanceMethod yX3_at ∈ w0 := w0_in 999 (by decide +kernel) rfl
theorem kw_715 : Cond.selects RX3 yX3_at yX3_at ∈ w0 := w0_in 1000 (by decide +kernel) rfl
set_option maxRecDepth 40000 in
theorem kw_716 : Cond.codeWith yL_part cL_part 7 (some .int) [(0, 15, 18, 19), (0, 15, 22, 21)] ∈ w0 := w0_in 359 rfl rfl
theorem kw_717 : Cond.methodLink RL 177 yL_part ∈ w0 := w0_in 357 (by decide +kernel) rfl
theorem kw_718 : Cond.static yL_part ∈ w0 := w0_in 358 (by decide +kernel) rfl
set_option maxRecDepth 40000 in
theorem kw_719 : Cond.code yX3_part cX3_part 8 (some .int) ∈ w0 := w0_in 1005 rfl rfl
theorem kw_720 : Cond.methodLink RL 180 yX3_part ∈ w0 := w0_in 1002 (by decide +kernel) rfl
theorem kw_721 : Cond.instanceMethod yX3_part ∈ w0 := w0_in 1003 (by decide +kernel) rfl
theorem kw_722 : Cond.selects RX3 yX3_part yX3_part ∈ w0 := w0_in 1004 (by decide +kernel) rfl
set_option maxRecDepth 40000 in
theorem kw_723 : Cond.codeWith yL_set cL_set 6 (some .int) [(0, 13, 16, 19), (0, 13, 20, 21)] ∈ w0 := w0_in 376 rfl rfl
theorem kw_724 : Cond.methodLink RL 181 yL_set ∈ w0 := w0_in 374 (by decide +kernel) rfl
theorem kw_725 : Cond.static yL_set ∈ w0 := w0_in 375 (by decide +kernel) rfl
set_option maxRecDepth 40000 in
theorem kw_726 : Cond.code yX3_set cX3_set 5 (some .int) ∈ w0 := w0_in 1013 rfl rfl
theorem kw_727 : Cond.methodLink RL 183 yX3_set ∈ w0 := w0_in 1010 (by decide +kernel) rfl
theorem kw_728 : Cond.instanceMethod yX3_set ∈ w0 := w0_in 1011 (by decide +kernel) rfl
theorem kw_729 : Cond.selects RX3 yX3_set yX3_set ∈ w0 := w0_in 1012 (by decide +kernel) rfl
set_option maxRecDepth 40000 in
theorem kw_730 : Cond.codeWith yL_get cL_get 5 (some .int) [(0, 11, 14, 19)] ∈ w0 := w0_in 383 rfl rfl
theorem kw_731 : Cond.methodLink RL 184 yL_get ∈ w0 := w0_in 381 (by decide +kernel) rfl
theorem kw_732 : Cond.static yL_get ∈ w0 := w0_in 382 (by decide +kernel) rfl
set_option maxRecDepth 40000 in
theorem kw_733 : Cond.code yX3_get cX3_get 3 (some .int) ∈ w0 := w0_in 1029 rfl rfl
theorem kw_734 : Cond.methodLink RL 186 yX3_get ∈ w0 := w0_in 1026 (by decide +kernel) rfl
theorem kw_735 : Cond.instanceMethod yX3_get ∈ w0 := w0_in 1027 (by decide +kernel) rfl
theorem kw_736 : Cond.selects RX3 yX3_get yX3_get ∈ w0 := w0_in 1028 (by decide +kernel) rfl
set_option maxRecDepth 40000 in
theorem kw_737 : Cond.codeWith yL_length cL_length 4 (some .int) [(0, 10, 13, 19)] ∈ w0 := w0_in 390 rfl rfl
theorem kw_738 : Cond.methodLink RL 187 yL_length ∈ w0 := w0_in 388 (by decide +kernel) rfl
theorem kw_739 : Cond.static yL_length ∈ w0 := w0_in 389 (by decide +kernel) rfl
set_option maxRecDepth 40000 in
theorem kw_740 : Cond.code yX3_length cX3_length 2 (some .int) ∈ w0 := w0_in 1033 rfl rfl
theorem kw_741 : Cond.methodLink RL 190 yX3_length ∈ w0 := w0_in 1030 (by decide +kernel) rfl
theorem kw_742 : Cond.instanceMethod yX3_length ∈ w0 := w0_in 1031 (by decide +kernel) rfl
theorem kw_743 : Cond.selects RX3 yX3_length yX3_length ∈ w0 := w0_in 1032 (by decide +kernel) rfl
set_option maxRecDepth 40000 in
theorem kw_744 : Cond.codeWith yL_isEmpty cL_isEmpty 4 (some .int) [(0, 17, 20, 19)] ∈ w0 := w0_in 394 rfl rfl
theorem kw_745 : Cond.methodLink RL 191 yL_isEmpty ∈ w0 := w0_in 392 (by decide +kernel) rfl
theorem kw_746 : Cond.static yL_isEmpty ∈ w0 := w0_in 393 (by decide +kernel) rfl
set_option maxRecDepth 40000 in
theorem kw_747 : Cond.code yX3_isEmpty cX3_isEmpty 2 (some .boolean) ∈ w0 := w0_in 1037 rfl rfl
theorem kw_748 : Cond.methodLink RL 193 yX3_isEmpty ∈ w0 := w0_in 1034 (by decide +kernel) rfl
theorem kw_749 : Cond.instanceMethod yX3_isEmpty ∈ w0 := w0_in 1035 (by decide +kernel) rfl
theorem kw_750 : Cond.selects RX3 yX3_isEmpty yX3_isEmpty ∈ w0 := w0_in 1036 (by decide +kernel) rfl
set_option maxRecDepth 40000 in
theorem kw_751 : Cond.codeWith yL_text cL_text 4 (some .int) [(0, 9, 12, 19)] ∈ w0 := w0_in 401 rfl rfl
theorem kw_752 : Cond.methodLink RL 194 yL_text ∈ w0 := w0_in 399 (by decide +kernel) rfl
theorem kw_753 : Cond.static yL_text ∈ w0 := w0_in 400 (by decide +kernel) rfl
set_option maxRecDepth 40000 in
theorem kw_754 : Cond.code yX3_text cX3_text 2 (some (.object "java/lang/String")) ∈ w0 := w0_in 1041 rfl rfl
theorem kw_755 : Cond.methodLink RL 196 yX3_text ∈ w0 := w0_in 1038 (by decide +kernel) rfl
theorem kw_756 : Cond.instanceMethod yX3_text ∈ w0 := w0_in 1039 (by decide +kernel) rfl
theorem kw_757 : Cond.selects RX3 yX3_text yX3_text ∈ w0 := w0_in 1040 (by decide +kernel) rfl
set_option maxRecDepth 40000 in
theorem kw_758 : Cond.codeWith yL_back cL_back 4 (some .int) [(0, 9, 12, 19)] ∈ w0 := w0_in 679 rfl rfl
theorem kw_759 : Cond.methodLink RL 197 yL_back ∈ w0 := w0_in 677 (by decide +kernel) rfl
theorem kw_760 : Cond.static yL_back ∈ w0 := w0_in 678 (by decide +kernel) rfl
set_option maxRecDepth 40000 in
theorem kw_761 : Cond.code yX3_back cX3_back 2 (some (.object "java/lang/String")) ∈ w0 := w0_in 1068 rfl rfl
theorem kw_762 : Cond.methodLink RL 199 yX3_back ∈ w0 := w0_in 1065 (by decide +kernel) rfl
theorem kw_763 : Cond.instanceMethod yX3_back ∈ w0 := w0_in 1066 (by decide +kernel) rfl
theorem kw_764 : Cond.selects RX3 yX3_back yX3_back ∈ w0 := w0_in 1067 (by decide +kernel) rfl
set_option maxRecDepth 40000 in
theorem kw_765 : Cond.codeWith yL_indexOf cL_indexOf 5 (some .int) [(0, 11, 14, 19), (0, 11, 18, 21)] ∈ w0 := w0_in 686 rfl rfl
theorem kw_766 : Cond.methodLink RL 200 yL_indexOf ∈ w0 := w0_in 684 (by decide +kernel) rfl
theorem kw_767 : Cond.static yL_indexOf ∈ w0 := w0_in 685 (by decide +kernel) rfl
set_option maxRecDepth 40000 in
theorem kw_768 : Cond.code yX3_indexOf cX3_indexOf 3 (some .int) ∈ w0 := w0_in 1072 rfl rfl
theorem kw_769 : Cond.methodLink RL 202 yX3_indexOf ∈ w0 := w0_in 1069 (by decide +kernel) rfl
theorem kw_770 : Cond.instanceMethod yX3_indexOf ∈ w0 := w0_in 1070 (by decide +kernel) rfl
theorem kw_771 : Cond.selects RX3 yX3_indexOf yX3_indexOf ∈ w0 := w0_in 1071 (by decide +kernel) rfl
set_option maxRecDepth 40000 in
theorem kw_772 : Cond.codeWith yL_lastIndexOf cL_lastIndexOf 5 (some .int) [(0, 11, 14, 19), (0, 11, 18, 21)] ∈ w0 := w0_in 693 rfl rfl
theorem kw_773 : Cond.methodLink RL 203 yL_lastIndexOf ∈ w0 := w0_in 691 (by decide +kernel) rfl
theorem kw_774 : Cond.static yL_lastIndexOf ∈ w0 := w0_in 692 (by decide +kernel) rfl
set_option maxRecDepth 40000 in
theorem kw_775 : Cond.code yX3_lastIndexOf cX3_lastIndexOf 5 (some .int) ∈ w0 := w0_in 1079 rfl rfl
theorem kw_776 : Cond.methodLink RL 205 yX3_lastIndexOf ∈ w0 := w0_in 1076 (by decide +kernel) rfl
theorem kw_777 : Cond.instanceMethod yX3_lastIndexOf ∈ w0 := w0_in 1077 (by decide +kernel) rfl
theorem kw_778 : Cond.selects RX3 yX3_lastIndexOf yX3_lastIndexOf ∈ w0 := w0_in 1078 (by decide +kernel) rfl
set_option maxRecDepth 40000 in
theorem kw_779 : Cond.codeWith yL_has cL_has 5 (some .int) [(0, 18, 21, 19), (0, 18, 25, 21)] ∈ w0 := w0_in 700 rfl rfl
theorem kw_780 : Cond.methodLink RL 206 yL_has ∈ w0 := w0_in 698 (by decide +kernel) rfl
theorem kw_781 : Cond.static yL_has ∈ w0 := w0_in 699 (by decide +kernel) rfl
set_option maxRecDepth 40000 in
theorem kw_782 : Cond.code yX3_has cX3_has 3 (some .boolean) ∈ w0 := w0_in 1083 rfl rfl
theorem kw_783 : Cond.methodLink RL 208 yX3_has ∈ w0 := w0_in 1080 (by decide +kernel) rfl
theorem kw_784 : Cond.instanceMethod yX3_has ∈ w0 := w0_in 1081 (by decide +kernel) rfl
theorem kw_785 : Cond.selects RX3 yX3_has yX3_has ∈ w0 := w0_in 1082 (by decide +kernel) rfl
set_option maxRecDepth 40000 in
theorem kw_786 : Cond.codeWith yL_often cL_often 5 (some .int) [(0, 11, 14, 19), (0, 11, 18, 21)] ∈ w0 := w0_in 710 rfl rfl
theorem kw_787 : Cond.methodLink RL 209 yL_often ∈ w0 := w0_in 708 (by decide +kernel) rfl
theorem kw_788 : Cond.static yL_often ∈ w0 := w0_in 709 (by decide +kernel) rfl
set_option maxRecDepth 40000 in
theorem kw_789 : Cond.code yX3_often cX3_often 3 (some .int) ∈ w0 := w0_in 1087 rfl rfl
theorem kw_790 : Cond.methodLink RL 211 yX3_often ∈ w0 := w0_in 1084 (by decide +kernel) rfl
theorem kw_791 : Cond.instanceMethod yX3_often ∈ w0 := w0_in 1085 (by decide +kernel) rfl
theorem kw_792 : Cond.selects RX3 yX3_often yX3_often ∈ w0 := w0_in 1086 (by decide +kernel) rfl
set_option maxRecDepth 40000 in
theorem kw_793 : Cond.codeWith yL_hasAll cL_hasAll 5 (some .int) [(0, 18, 21, 19)] ∈ w0 := w0_in 717 rfl rfl
theorem kw_794 : Cond.methodLink RL 212 yL_hasAll ∈ w0 := w0_in 715 (by decide +kernel) rfl
theorem kw_795 : Cond.static yL_hasAll ∈ w0 := w0_in 716 (by decide +kernel) rfl
set_option maxRecDepth 40000 in
theorem kw_796 : Cond.code yX3_hasAll cX3_hasAll 3 (some .boolean) ∈ w0 := w0_in 1097 rfl rfl
theorem kw_797 : Cond.methodLink RL 214 yX3_hasAll ∈ w0 := w0_in 1094 (by decide +kernel) rfl
theorem kw_798 : Cond.instanceMethod yX3_hasAll ∈ w0 := w0_in 1095 (by decide +kernel) rfl
theorem kw_799 : Cond.selects RX3 yX3_hasAll yX3_hasAll ∈ w0 := w0_in 1096 (by decide +kernel) rfl
set_option maxRecDepth 40000 in
theorem kw_800 : Cond.codeWith yL_areApart cL_areApart 5 (some .int) [(0, 18, 21, 19)] ∈ w0 := w0_in 727 rfl rfl
theorem kw_801 : Cond.methodLink RL 215 yL_areApart ∈ w0 := w0_in 725 (by decide +kernel) rfl
theorem kw_802 : Cond.static yL_areApart ∈ w0 := w0_in 726 (by decide +kernel) rfl
set_option maxRecDepth 40000 in
theorem kw_803 : Cond.code yX3_areApart cX3_areApart 3 (some .boolean) ∈ w0 := w0_in 1109 rfl rfl
theorem kw_804 : Cond.methodLink RL 217 yX3_areApart ∈ w0 := w0_in 1106 (by decide +kernel) rfl
theorem kw_805 : Cond.instanceMethod yX3_areApart ∈ w0 := w0_in 1107 (by decide +kernel) rfl
theorem kw_806 : Cond.selects RX3 yX3_areApart yX3_areApart ∈ w0 := w0_in 1108 (by decide +kernel) rfl
set_option maxRecDepth 40000 in
theorem kw_807 : Cond.codeWith yL_indexOfAll cL_indexOfAll 5 (some .int) [(0, 11, 14, 19)] ∈ w0 := w0_in 734 rfl rfl
theorem kw_808 : Cond.methodLink RL 218 yL_indexOfAll ∈ w0 := w0_in 732 (by decide +kernel) rfl
theorem kw_809 : Cond.static yL_indexOfAll ∈ w0 := w0_in 733 (by decide +kernel) rfl
set_option maxRecDepth 40000 in
theorem kw_810 : Cond.code yX3_indexOfAll cX3_indexOfAll 4 (some .int) ∈ w0 := w0_in 1113 rfl rfl
theorem kw_811 : Cond.methodLink RL 220 yX3_indexOfAll ∈ w0 := w0_in 1110 (by decide +kernel) rfl
theorem kw_812 : Cond.instanceMethod yX3_indexOfAll ∈ w0 := w0_in 1111 (by decide +kernel) rfl
theorem kw_813 : Cond.selects RX3 yX3_indexOfAll yX3_indexOfAll ∈ w0 := w0_in 1112 (by decide +kernel) rfl
set_option maxRecDepth 40000 in
theorem kw_814 : Cond.codeWith yL_areEqual cL_areEqual 5 (some .int) [(0, 18, 21, 19)] ∈ w0 := w0_in 741 rfl rfl
theorem kw_815 : Cond.methodLink RL 221 yL_areEqual ∈ w0 := w0_in 739 (by decide +kernel) rfl
theorem kw_816 : Cond.static yL_areEqual ∈ w0 := w0_in 740 (by decide +kernel) rfl
set_option maxRecDepth 40000 in
theorem kw_817 : Cond.code yX3_areEqual cX3_areEqual 3 (some .boolean) ∈ w0 := w0_in 1120 rfl rfl
theorem kw_818 : Cond.methodLink RL 223 yX3_areEqual ∈ w0 := w0_in 1117 (by decide +kernel) rfl
theorem kw_819 : Cond.instanceMethod yX3_areEqual ∈ w0 := w0_in 1118 (by decide +kernel) rfl
theorem kw_820 : Cond.selects RX3 yX3_areEqual yX3_areEqual ∈ w0 := w0_in 1119 (by decide +kernel) rfl
set_option maxRecDepth 40000 in
theorem kw_821 : Cond.codeWith yL_code cL_code 4 (some .int) [(0, 10, 13, 19)] ∈ w0 := w0_in 748 rfl rfl
theorem kw_822 : Cond.methodLink RL 224 yL_code ∈ w0 := w0_in 746 (by decide +kernel) rfl
theorem kw_823 : Cond.static yL_code ∈ w0 := w0_in 747 (by decide +kernel) rfl
set_option maxRecDepth 40000 in
theorem kw_824 : Cond.code yX3_code cX3_code 2 (some .int) ∈ w0 := w0_in 1124 rfl rfl
theorem kw_825 : Cond.methodLink RL 226 yX3_code ∈ w0 := w0_in 1121 (by decide +kernel) rfl
theorem kw_826 : Cond.instanceMethod yX3_code ∈ w0 := w0_in 1122 (by decide +kernel) rfl
theorem kw_827 : Cond.selects RX3 yX3_code yX3_code ∈ w0 := w0_in 1123 (by decide +kernel) rfl
set_option maxRecDepth 40000 in
theorem kw_828 : Cond.codeWith yL_sum cL_sum 4 (some .int) [(0, 10, 13, 19)] ∈ w0 := w0_in 763 rfl rfl
theorem kw_829 : Cond.methodLink RL 231 yL_sum ∈ w0 := w0_in 761 (by decide +kernel) rfl
theorem kw_830 : Cond.static yL_sum ∈ w0 := w0_in 762 (by decide +kernel) rfl
set_option maxRecDepth 40000 in
theorem kw_831 : Cond.code yX3_sum cX3_sum 2 (some .int) ∈ w0 := w0_in 1141 rfl rfl
theorem kw_832 : Cond.methodLink RL 233 yX3_sum ∈ w0 := w0_in 1138 (by decide +kernel) rfl
theorem kw_833 : Cond.instanceMethod yX3_sum ∈ w0 := w0_in 1139 (by decide +kernel) rfl
theorem kw_834 : Cond.selects RX3 yX3_sum yX3_sum ∈ w0 := w0_in 1140 (by decide +kernel) rfl
set_option maxRecDepth 40000 in
theorem kw_835 : Cond.codeWith yL_replaceAll cL_replaceAll 6 (some .int) [(0, 13, 16, 19), (0, 13, 20, 21)] ∈ w0 := w0_in 787 rfl rfl
theorem kw_836 : Cond.methodLink RL 238 yL_replaceAll ∈ w0 := w0_in 785 (by decide +kernel) rfl
theorem kw_837 : Cond.static yL_replaceAll ∈ w0 := w0_in 786 (by decide +kernel) rfl
set_option maxRecDepth 40000 in
theorem kw_838 : Cond.code yX3_replaceAll cX3_replaceAll 4 (some .int) ∈ w0 := w0_in 1168 rfl rfl
theorem kw_839 : Cond.methodLink RL 240 yX3_replaceAll ∈ w0 := w0_in 1165 (by decide +kernel) rfl
theorem kw_840 : Cond.instanceMethod yX3_replaceAll ∈ w0 := w0_in 1166 (by decide +kernel) rfl
theorem kw_841 : Cond.selects RX3 yX3_replaceAll yX3_replaceAll ∈ w0 := w0_in 1167 (by decide +kernel) rfl
set_option maxRecDepth 40000 in
theorem kw_842 : Cond.codeWith yL_replaceOld cL_replaceOld 6 (some .int) [(0, 13, 16, 19), (0, 13, 20, 21)] ∈ w0 := w0_in 794 rfl rfl
theorem kw_843 : Cond.methodLink RL 241 yL_replaceOld ∈ w0 := w0_in 792 (by decide +kernel) rfl
theorem kw_844 : Cond.static yL_replaceOld ∈ w0 := w0_in 793 (by decide +kernel) rfl
set_option maxRecDepth 40000 in
theorem kw_845 : Cond.code yX3_replaceOld cX3_replaceOld 7 (some .int) ∈ w0 := w0_in 1172 rfl rfl
theorem kw_846 : Cond.methodLink RL 243 yX3_replaceOld ∈ w0 := w0_in 1169 (by decide +kernel) rfl
theorem kw_847 : Cond.instanceMethod yX3_replaceOld ∈ w0 := w0_in 1170 (by decide +kernel) rfl
theorem kw_848 : Cond.selects RX3 yX3_replaceOld yX3_replaceOld ∈ w0 := w0_in 1171 (by decide +kernel) rfl
set_option maxRecDepth 40000 in
theorem kw_849 : Cond.codeWith yL_fill cL_fill 5 (some .int) [(0, 11, 14, 19), (0, 11, 18, 21)] ∈ w0 := w0_in 801 rfl rfl
theorem kw_850 : Cond.methodLink RL 244 yL_fill ∈ w0 := w0_in 799 (by decide +kernel) rfl
theorem kw_851 : Cond.static yL_fill ∈ w0 := w0_in 800 (by decide +kernel) rfl
set_option maxRecDepth 40000 in
theorem kw_852 : Cond.code yX3_fill cX3_fill 4 (some .int) ∈ w0 := w0_in 1180 rfl rfl
theorem kw_853 : Cond.methodLink RL 246 yX3_fill ∈ w0 := w0_in 1177 (by decide +kernel) rfl
theorem kw_854 : Cond.instanceMethod yX3_fill ∈ w0 := w0_in 1178 (by decide +kernel) rfl
theorem kw_855 : Cond.selects RX3 yX3_fill yX3_fill ∈ w0 := w0_in 1179 (by decide +kernel) rfl
set_option maxRecDepth 40000 in
theorem kw_856 : Cond.codeWith yL_reverse cL_reverse 4 (some .int) [(0, 10, 13, 19)] ∈ w0 := w0_in 826 rfl rfl
theorem kw_857 : Cond.methodLink RL 251 yL_reverse ∈ w0 := w0_in 824 (by decide +kernel) rfl
theorem kw_858 : Cond.static yL_reverse ∈ w0 := w0_in 825 (by decide +kernel) rfl
set_option maxRecDepth 40000 in
theorem kw_859 : Cond.code yX3_reverse cX3_reverse 4 (some .int) ∈ w0 := w0_in 1188 rfl rfl
theorem kw_860 : Cond.methodLink RL 253 yX3_reverse ∈ w0 := w0_in 1185 (by decide +kernel) rfl
theorem kw_861 : Cond.instanceMethod yX3_reverse ∈ w0 := w0_in 1186 (by decide +kernel) rfl
theorem kw_862 : Cond.selects RX3 yX3_reverse yX3_reverse ∈ w0 := w0_in 1187 (by decide +kernel) rfl
set_option maxRecDepth 40000 in
theorem kw_863 : Cond.codeWith yL_rotate cL_rotate 5 (some .int) [(0, 11, 14, 19), (0, 11, 18, 21)] ∈ w0 := w0_in 836 rfl rfl
theorem kw_864 : Cond.methodLink RL 254 yL_rotate ∈ w0 := w0_in 834 (by decide +kernel) rfl
theorem kw_865 : Cond.static yL_rotate ∈ w0 := w0_in 835 (by decide +kernel) rfl
set_option maxRecDepth 40000 in
theorem kw_866 : Cond.code yX3_rotate cX3_rotate 5 (some .int) ∈ w0 := w0_in 1192 rfl rfl
theorem kw_867 : Cond.methodLink RL 256 yX3_rotate ∈ w0 := w0_in 1189 (by decide +kernel) rfl
theorem kw_868 : Cond.instanceMethod yX3_rotate ∈ w0 := w0_in 1190 (by decide +kernel) rfl
theorem kw_869 : Cond.selects RX3 yX3_rotate yX3_rotate ∈ w0 := w0_in 1191 (by decide +kernel) rfl
set_option maxRecDepth 40000 in
theorem kw_870 : Cond.codeWith yL_swap cL_swap 6 (some .int) [(0, 13, 16, 19)] ∈ w0 := w0_in 846 rfl rfl
theorem kw_871 : Cond.methodLink RL 257 yL_swap ∈ w0 := w0_in 844 (by decide +kernel) rfl
theorem kw_872 : Cond.static yL_swap ∈ w0 := w0_in 845 (by decide +kernel) rfl
set_option maxRecDepth 40000 in
theorem kw_873 : Cond.code yX3_swap cX3_swap 6 (some .int) ∈ w0 := w0_in 1196 rfl rfl
theorem kw_874 : Cond.methodLink RL 259 yX3_swap ∈ w0 := w0_in 1193 (by decide +kernel) rfl
theorem kw_875 : Cond.instanceMethod yX3_swap ∈ w0 := w0_in 1194 (by decide +kernel) rfl
theorem kw_876 : Cond.selects RX3 yX3_swap yX3_swap ∈ w0 := w0_in 1195 (by decide +kernel) rfl
set_option maxRecDepth 40000 in
theorem kw_877 : Cond.codeWith yL_add cL_add 5 (some .int) [(0, 11, 14, 19), (0, 11, 18, 21)] ∈ w0 := w0_in 853 rfl rfl
theorem kw_878 : Cond.methodLink RL 260 yL_add ∈ w0 := w0_in 851 (by decide +kernel) rfl
theorem kw_879 : Cond.static yL_add ∈ w0 := w0_in 852 (by decide +kernel) rfl
set_option maxRecDepth 40000 in
theorem kw_880 : Cond.code yX3_add cX3_add 3 (some .int) ∈ w0 := w0_in 1200 rfl rfl
theorem kw_881 : Cond.methodLink RL 262 yX3_add ∈ w0 := w0_in 1197 (by decide +kernel) rfl
theorem kw_882 : Cond.instanceMethod yX3_add ∈ w0 := w0_in 1198 (by decide +kernel) rfl
theorem kw_883 : Cond.selects RX3 yX3_add yX3_add ∈ w0 := w0_in 1199 (by decide +kernel) rfl
set_option maxRecDepth 40000 in
theorem kw_884 : Cond.codeWith yL_addAt cL_addAt 6 (some .int) [(0, 13, 16, 19), (0, 13, 20, 21)] ∈ w0 := w0_in 864 rfl rfl
theorem kw_885 : Cond.methodLink RL 263 yL_addAt ∈ w0 := w0_in 862 (by decide +kernel) rfl
theorem kw_886 : Cond.static yL_addAt ∈ w0 := w0_in 863 (by decide +kernel) rfl
set_option maxRecDepth 40000 in
theorem kw_887 : Cond.code yX3_addAt cX3_addAt 4 (some .int) ∈ w0 := w0_in 1208 rfl rfl
theorem kw_888 : Cond.methodLink RL 265 yX3_addAt ∈ w0 := w0_in 1205 (by decide +kernel) rfl
theorem kw_889 : Cond.instanceMethod yX3_addAt ∈ w0 := w0_in 1206 (by decide +kernel) rfl
theorem kw_890 : Cond.selects RX3 yX3_addAt yX3_addAt ∈ w0 := w0_in 1207 (by decide +kernel) rfl
set_option maxRecDepth 40000 in
theorem kw_891 : Cond.codeWith yL_addAll cL_addAll 5 (some .int) [(0, 11, 14, 19)] ∈ w0 := w0_in 871 rfl rfl
theorem kw_892 : Cond.methodLink RL 266 yL_addAll ∈ w0 := w0_in 869 (by decide +kernel) rfl
theorem kw_893 : Cond.static yL_addAll ∈ w0 := w0_in 870 (by decide +kernel) rfl
set_option maxRecDepth 40000 in
theorem kw_894 : Cond.code yX3_addAll cX3_addAll 3 (some .int) ∈ w0 := w0_in 1212 rfl rfl
theorem kw_895 : Cond.methodLink RL 268 yX3_addAll ∈ w0 := w0_in 1209 (by decide +kernel) rfl
theorem kw_896 : Cond.instanceMethod yX3_addAll ∈ w0 := w0_in 1210 (by decide +kernel) rfl
theorem kw_897 : Cond.selects RX3 yX3_addAll yX3_addAll ∈ w0 := w0_in 1211 (by decide +kernel) rfl
set_option maxRecDepth 40000 in
theorem kw_898 : Cond.codeWith yL_remove cL_remove 5 (some .int) [(0, 11, 14, 19)] ∈ w0 := w0_in 878 rfl rfl
theorem kw_899 : Cond.methodLink RL 269 yL_remove ∈ w0 := w0_in 876 (by decide +kernel) rfl
theorem kw_900 : Cond.static yL_remove ∈ w0 := w0_in 877 (by decide +kernel) rfl
set_option maxRecDepth 40000 in
theorem kw_901 : Cond.code yX3_remove cX3_remove 3 (some .int) ∈ w0 := w0_in 1220 rfl rfl
theorem kw_902 : Cond.methodLink RL 271 yX3_remove ∈ w0 := w0_in 1217 (by decide +kernel) rfl
theorem kw_903 : Cond.instanceMethod yX3_remove ∈ w0 := w0_in 1218 (by decide +kernel) rfl
theorem kw_904 : Cond.selects RX3 yX3_remove yX3_remove ∈ w0 := w0_in 1219 (by decide +kernel) rfl
set_option maxRecDepth 40000 in
theorem kw_905 : Cond.codeWith yL_removeValue cL_removeValue 5 (some .int) [(0, 11, 14, 19), (0, 11, 18, 21)] ∈ w0 := w0_in 885 rfl rfl
theorem kw_906 : Cond.methodLink RL 272 yL_removeValue ∈ w0 := w0_in 883 (by decide +kernel) rfl
theorem kw_907 : Cond.static yL_removeValue ∈ w0 := w0_in 884 (by decide +kernel) rfl
set_option maxRecDepth 40000 in
theorem kw_908 : Cond.code yX3_removeValue cX3_removeValue 3 (some .int) ∈ w0 := w0_in 1224 rfl rfl
theorem kw_909 : Cond.methodLink RL 274 yX3_removeValue ∈ w0 := w0_in 1221 (by decide +kernel) rfl
theorem kw_910 : Cond.instanceMethod yX3_removeValue ∈ w0 := w0_in 1222 (by decide +kernel) rfl
theorem kw_911 : Cond.selects RX3 yX3_removeValue yX3_removeValue ∈ w0 := w0_in 1223 (by decide +kernel) rfl
set_option maxRecDepth 40000 in
theorem kw_912 : Cond.codeWith yL_removeAll cL_removeAll 5 (some .int) [(0, 11, 14, 19)] ∈ w0 := w0_in 892 rfl rfl
theorem kw_913 : Cond.methodLink RL 275 yL_removeAll ∈ w0 := w0_in 890 (by decide +kernel) rfl
theorem kw_914 : Cond.static yL_removeAll ∈ w0 := w0_in 891 (by decide +kernel) rfl
set_option maxRecDepth 40000 in
theorem kw_915 : Cond.code yX3_removeAll cX3_removeAll 3 (some .int) ∈ w0 := w0_in 1228 rfl rfl
theorem kw_916 : Cond.methodLink RL 277 yX3_removeAll ∈ w0 := w0_in 1225 (by decide +kernel) rfl
theorem kw_917 : Cond.instanceMethod yX3_removeAll ∈ w0 := w0_in 1226 (by decide +kernel) rfl
theorem kw_918 : Cond.selects RX3 yX3_removeAll yX3_removeAll ∈ w0 := w0_in 1227 (by decide +kernel) rfl
set_option maxRecDepth 40000 in
theorem kw_919 : Cond.codeWith yL_retainAll cL_retainAll 5 (some .int) [(0, 11, 14, 19)] ∈ w0 := w0_in 899 rfl rfl
theorem kw_920 : Cond.methodLink RL 278 yL_retainAll ∈ w0 := w0_in 897 (by decide +kernel) rfl
theorem kw_921 : Cond.static yL_retainAll ∈ w0 := w0_in 898 (by decide +kernel) rfl
set_option maxRecDepth 40000 in
theorem kw_922 : Cond.code yX3_retainAll cX3_retainAll 3 (some .int) ∈ w0 := w0_in 1232 rfl rfl
theorem kw_923 : Cond.methodLink RL 280 yX3_retainAll ∈ w0 := w0_in 1229 (by decide +kernel) rfl
theorem kw_924 : Cond.instanceMethod yX3_retainAll ∈ w0 := w0_in 1230 (by decide +kernel) rfl
theorem kw_925 : Cond.selects RX3 yX3_retainAll yX3_retainAll ∈ w0 := w0_in 1231 (by decide +kernel) rfl
set_option maxRecDepth 40000 in
theorem kw_926 : Cond.codeWith yL_removeIf cL_removeIf 6 (some .int) [(0, 13, 16, 19), (0, 13, 20, 21)] ∈ w0 := w0_in 906 rfl rfl
theorem kw_927 : Cond.methodLink RL 281 yL_removeIf ∈ w0 := w0_in 904 (by decide +kernel) rfl
theorem kw_928 : Cond.static yL_removeIf ∈ w0 := w0_in 905 (by decide +kernel) rfl
set_option maxRecDepth 40000 in
theorem kw_929 : Cond.code yX3_removeIf cX3_removeIf 9 (some .int) ∈ w0 := w0_in 1236 rfl rfl
theorem kw_930 : Cond.methodLink RL 283 yX3_removeIf ∈ w0 := w0_in 1233 (by decide +kernel) rfl
theorem kw_931 : Cond.instanceMethod yX3_removeIf ∈ w0 := w0_in 1234 (by decide +kernel) rfl
theorem kw_932 : Cond.selects RX3 yX3_removeIf yX3_removeIf ∈ w0 := w0_in 1235 (by decide +kernel) rfl
set_option maxRecDepth 40000 in
theorem kw_933 : Cond.codeWith yL_clear cL_clear 4 (some .int) [(0, 10, 13, 19)] ∈ w0 := w0_in 919 rfl rfl
theorem kw_934 : Cond.methodLink RL 284 yL_clear ∈ w0 := w0_in 917 (by decide +kernel) rfl
theorem kw_935 : Cond.static yL_clear ∈ w0 := w0_in 918 (by decide +kernel) rfl
set_option maxRecDepth 40000 in
theorem kw_936 : Cond.code yX3_clear cX3_clear 2 (some .int) ∈ w0 := w0_in 1243 rfl rfl
theorem kw_937 : Cond.methodLink RL 286 yX3_clear ∈ w0 := w0_in 1240 (by decide +kernel) rfl
theorem kw_938 : Cond.instanceMethod yX3_clear ∈ w0 := w0_in 1241 (by decide +kernel) rfl
theorem kw_939 : Cond.selects RX3 yX3_clear yX3_clear ∈ w0 := w0_in 1242 (by decide +kernel) rfl
set_option maxRecDepth 40000 in
theorem kw_940 : Cond.codeWith yL_walkChange cL_walkChange 6 (some .int) [(0, 13, 16, 19), (0, 13, 20, 21)] ∈ w0 := w0_in 926 rfl rfl
theorem kw_941 : Cond.methodLink RL 287 yL_walkChange ∈ w0 := w0_in 924 (by decide +kernel) rfl
theorem kw_942 : Cond.static yL_walkChange ∈ w0 := w0_in 925 (by decide +kernel) rfl
set_option maxRecDepth 40000 in
theorem kw_943 : Cond.code yX3_walkChange cX3_walkChange 4 (some .int) ∈ w0 := w0_in 1247 rfl rfl
theorem kw_944 : Cond.methodLink RL 289 yX3_walkChange ∈ w0 := w0_in 1244 (by decide +kernel) rfl
theorem kw_945 : Cond.instanceMethod yX3_walkChange ∈ w0 := w0_in 1245 (by decide +kernel) rfl
theorem kw_946 : Cond.selects RX3 yX3_walkChange yX3_walkChange ∈ w0 := w0_in 1246 (by decide +kernel) rfl
set_option maxRecDepth 40000 in
theorem kw_947 : Cond.code yX1_knock cX1_knock 1 (some .int) ∈ w0 := w0_in 102 rfl rfl
theorem kw_948 : Cond.methodLink RL 290 yX1_knock ∈ w0 := w0_in 99 (by decide +kernel) rfl
theorem kw_949 : Cond.instanceMethod yX1_knock ∈ w0 := w0_in 100 (by decide +kernel) rfl
theorem kw_950 : Cond.selects RX1 yX1_knock yX1_knock ∈ w0 := w0_in 101 (by decide +kernel) rfl
set_option maxRecDepth 40000 in
theorem kw_951 : Cond.code yX3_knock cX3_knock 1 (some .int) ∈ w0 := w0_in 1251 rfl rfl
theorem kw_952 : Cond.methodLink RL 294 yX3_knock ∈ w0 := w0_in 1248 (by decide +kernel) rfl
theorem kw_953 : Cond.instanceMethod yX3_knock ∈ w0 := w0_in 1249 (by decide +kernel) rfl
theorem kw_954 : Cond.selects RX3 yX3_knock yX3_knock ∈ w0 := w0_in 1250 (by decide +kernel) rfl
set_option maxRecDepth 40000 in
theorem kw_955 : Cond.codeWith yL_house cL_house 4 (some .int) [(0, 10, 13, 21)] ∈ w0 := w0_in 933 rfl rfl
theorem kw_956 : Cond.methodLink RL 295 yL_house ∈ w0 := w0_in 931 (by decide +kernel) rfl
theorem kw_957 : Cond.static yL_house ∈ w0 := w0_in 932 (by decide +kernel) rfl
set_option maxRecDepth 40000 in
theorem kw_958 : Cond.code yX3_house cX3_house 2 (some .int) ∈ w0 := w0_in 1255 rfl rfl
theorem kw_959 : Cond.methodLink RL 297 yX3_house ∈ w0 := w0_in 1252 (by decide +kernel) rfl
theorem kw_960 : Cond.instanceMethod yX3_house ∈ w0 := w0_in 1253 (by decide +kernel) rfl
theorem kw_961 : Cond.selects RX3 yX3_house yX3_house ∈ w0 := w0_in 1254 (by decide +kernel) rfl
set_option maxRecDepth 40000 in
theorem kw_962 : Cond.codeWith yL_rowOf cL_rowOf 4 (some .int) [(0, 10, 13, 21)] ∈ w0 := w0_in 937 rfl rfl
theorem kw_963 : Cond.methodLink RL 298 yL_rowOf ∈ w0 := w0_in 935 (by decide +kernel) rfl
theorem kw_964 : Cond.static yL_rowOf ∈ w0 := w0_in 936 (by decide +kernel) rfl
set_option maxRecDepth 40000 in
theorem kw_965 : Cond.code yX3_rowOf cX3_rowOf 2 (some .int) ∈ w0 := w0_in 1263 rfl rfl
theorem kw_966 : Cond.methodLink RL 300 yX3_rowOf ∈ w0 := w0_in 1260 (by decide +kernel) rfl
theorem kw_967 : Cond.instanceMethod yX3_rowOf ∈ w0 := w0_in 1261 (by decide +kernel) rfl
theorem kw_968 : Cond.selects RX3 yX3_rowOf yX3_rowOf ∈ w0 := w0_in 1262 (by decide +kernel) rfl
set_option maxRecDepth 40000 in
theorem kw_969 : Cond.codeWith yL_begin cL_begin 4 (some .int) [(0, 10, 13, 21)] ∈ w0 := w0_in 941 rfl rfl
theorem kw_970 : Cond.methodLink RL 301 yL_begin ∈ w0 := w0_in 939 (by decide +kernel) rfl
theorem kw_971 : Cond.static yL_begin ∈ w0 := w0_in 940 (by decide +kernel) rfl
set_option maxRecDepth 40000 in
theorem kw_972 : Cond.code yX3_begin cX3_begin 2 (some .int) ∈ w0 := w0_in 1267 rfl rfl
theorem kw_973 : Cond.methodLink RL 303 yX3_begin ∈ w0 := w0_in 1264 (by decide +kernel) rfl
theorem kw_974 : Cond.instanceMethod yX3_begin ∈ w0 := w0_in 1265 (by decide +kernel) rfl
theorem kw_975 : Cond.selects RX3 yX3_begin yX3_begin ∈ w0 := w0_in 1266 (by decide +kernel) rfl
theorem kw_976 : Cond.methodLink RL 304 yX1_isSound ∈ w0 := w0_in 103 (by decide +kernel) rfl
set_option maxRecDepth 40000 in
theorem kw_977 : Cond.code yX3_isSound cX3_isSound 1 (some .boolean) ∈ w0 := w0_in 1275 rfl rfl
theorem kw_978 : Cond.methodLink RL 308 yX3_isSound ∈ w0 := w0_in 1272 (by decide +kernel) rfl
theorem kw_979 : Cond.instanceMethod yX3_isSound ∈ w0 := w0_in 1273 (by decide +kernel) rfl
theorem kw_980 : Cond.selects RX3 yX3_isSound yX3_isSound ∈ w0 := w0_in 1274 (by decide +kernel) rfl
set_option maxRecDepth 40000 in
theorem kw_981 : Cond.code yX1_digest cX1_digest 4 (some .long) ∈ w0 := w0_in 165 rfl rfl
theorem kw_982 : Cond.methodLink RL 309 yX1_digest ∈ w0 := w0_in 162 (by decide +kernel) rfl
theorem kw_983 : Cond.instanceMethod yX1_digest ∈ w0 := w0_in 163 (by decide +kernel) rfl
theorem kw_984 : Cond.selects RX1 yX1_digest yX1_digest ∈ w0 := w0_in 164 (by decide +kernel) rfl
set_option maxRecDepth 40000 in
theorem kw_985 : Cond.code yX3_digest cX3_digest 9 (some .long) ∈ w0 := w0_in 1279 rfl rfl
theorem kw_986 : Cond.methodLink RL 313 yX3_digest ∈ w0 := w0_in 1276 (by decide +kernel) rfl
theorem kw_987 : Cond.instanceMethod yX3_digest ∈ w0 := w0_in 1277 (by decide +kernel) rfl
theorem kw_988 : Cond.selects RX3 yX3_digest yX3_digest ∈ w0 := w0_in 1278 (by decide +kernel) rfl
theorem kw_989 : Cond.classLink RL 8 RX1 ∈ w0 := w0_in 53 (by decide +kernel) rfl
theorem kw_990 : Cond.instantiable RX1 4 ∈ w0 := w0_in 54 (by decide +kernel) rfl
set_option maxRecDepth 40000 in
theorem kw_991 : Cond.code yX1_init cX1_init 2 none ∈ w0 := w0_in 57 rfl rfl
theorem kw_992 : Cond.methodLink RL 159 yX1_init ∈ w0 := w0_in 55 (by decide +kernel) rfl
theorem kw_993 : Cond.instanceMethod yX1_init ∈ w0 := w0_in 56 (by decide +kernel) rfl
theorem kw_994 : Cond.classLink RL 160 RX3 ∈ w0 := w0_in 943 (by decide +kernel) rfl
theorem kw_995 : Cond.instantiable RX3 8 ∈ w0 := w0_in 944 (by decide +kernel) rfl
set_option maxRecDepth 40000 in
theorem kw_996 : Cond.code yX3_init cX3_init 1 none ∈ w0 := w0_in 947 rfl rfl
theorem kw_997 : Cond.methodLink RL 162 yX3_init ∈ w0 := w0_in 945 (by decide +kernel) rfl
theorem kw_998 : Cond.instanceMethod yX3_init ∈ w0 := w0_in 946 (by decide +kernel) rfl
theorem kw_999 : Cond.classLink RL 14 RX2 ∈ w0 := w0_in 307 (by decide +kernel) rfl
theorem kw_1000 : Cond.instantiable RX2 2 ∈ w0 := w0_in 308 (by decide +kernel) rfl
theorem kw_1001 : Cond.initialized RX2 ∈ w0 := w0_in 36 (by decide +kernel) rfl
set_option maxRecDepth 40000 in
theorem kw_1002 : Cond.code yX2_init cX2_init 1 none ∈ w0 := w0_in 311 rfl rfl
theorem kw_1003 : Cond.instanceMethod yX2_init ∈ w0 := w0_in 310 (by decide +kernel) rfl
theorem hw_J0 : ∀ w ∈ u_ws RJ0 TJ0 4, w ∈ w0 := fun w h => List.mem_filter.mpr ⟨(show ∀ w ∈ u_ws RJ0 TJ0 4, w ∈ lw_tbl by decide +kernel) w h |> List.mem_append_left _, List.all_eq_true.mp (show (u_ws RJ0 TJ0 4).all goodWord = true by decide +kernel) w h⟩
theorem hw_J4 : ∀ w ∈ u_ws RJ4 TJ4 4, w ∈ w0 := fun w h => List.mem_filter.mpr ⟨(show ∀ w ∈ u_ws RJ4 TJ4 4, w ∈ lw_tbl by decide +kernel) w h |> List.mem_append_left _, List.all_eq_true.mp (show (u_ws RJ4 TJ4 4).all goodWord = true by decide +kernel) w h⟩
theorem hw_X0 : ∀ w ∈ u_ws RX0 TX0 4, w ∈ w0 := fun w h => List.mem_filter.mpr ⟨(show ∀ w ∈ u_ws RX0 TX0 4, w ∈ lw_tbl by decide +kernel) w h |> List.mem_append_left _, List.all_eq_true.mp (show (u_ws RX0 TX0 4).all goodWord = true by decide +kernel) w h⟩
theorem hw_X1 : ∀ w ∈ u_ws RX1 TX1 4, w ∈ w0 := fun w h => List.mem_filter.mpr ⟨(show ∀ w ∈ u_ws RX1 TX1 4, w ∈ lw_tbl by decide +kernel) w h |> List.mem_append_left _, List.all_eq_true.mp (show (u_ws RX1 TX1 4).all goodWord = true by decide +kernel) w h⟩
theorem hw_X2 : ∀ w ∈ u_ws RX2 TX2 2, w ∈ w0 := fun w h => List.mem_filter.mpr ⟨(show ∀ w ∈ u_ws RX2 TX2 2, w ∈ lw_tbl by decide +kernel) w h |> List.mem_append_left _, List.all_eq_true.mp (show (u_ws RX2 TX2 2).all goodWord = true by decide +kernel) w h⟩
theorem hw_X3 : ∀ w ∈ u_ws RX3 TX3 8, w ∈ w0 := fun w h => List.mem_filter.mpr ⟨(show ∀ w ∈ u_ws RX3 TX3 8, w ∈ lw_tbl by decide +kernel) w h |> List.mem_append_left _, List.all_eq_true.mp (show (u_ws RX3 TX3 8).all goodWord = true by decide +kernel) w h⟩
theorem at_RX1_192 : ∀ w ∈ (vx_atS RX1 192 "java/lang/IndexOutOfBoundsException" ["java/lang/RuntimeException", "java/lang/Exception"]).filter goodWord, w ∈ w0 := fun w h => List.mem_filter.mpr ⟨(show ∀ w ∈ (vx_atS RX1 192 "java/lang/IndexOutOfBoundsException" ["java/lang/RuntimeException", "java/lang/Exception"]).filter goodWord, w ∈ lw_tbl by decide +kernel) w h |> List.mem_append_left _, (List.mem_filter.mp h).2⟩
theorem at_RX1_209 : ∀ w ∈ (vx_atS RX1 209 "java/lang/IllegalArgumentException" ["java/lang/RuntimeException", "java/lang/Exception"]).filter goodWord, w ∈ w0 := fun w h => List.mem_filter.mpr ⟨(show ∀ w ∈ (vx_atS RX1 209 "java/lang/IllegalArgumentException" ["java/lang/RuntimeException", "java/lang/Exception"]).filter goodWord, w ∈ lw_tbl by decide +kernel) w h |> List.mem_append_left _, (List.mem_filter.mp h).2⟩
