def lw_ex : List Cond := [Cond.selects RJ4 ⟨"java/lang/AbstractStringBuilder", "newCapacity", "(I)I"⟩ yJ5_newCapacity_0f7a4, Cond.selects RJ4 ⟨"java/lang/AbstractStringBuilder", "ensureCapacityInternal", "(I)V"⟩ yJ5_ensureCapacityInternal_d00df, Cond.selects RJ4 ⟨"java/lang/AbstractStringBuilder", "inflateIfNeededFor", "(Ljava/lang/String;)V"⟩ yJ5_inflateIfNeededFor_a7421, Cond.selects RJ4 ⟨"java/lang/AbstractStringBuilder", "putStringAt", "(ILjava/lang/String;)V"⟩ yJ5_putStringAt_47b60]
def lw_t2 : List Cond := lw_tbl ++ lw_ex
theorem tw_selP {C : String} {y z : MethodName} {s : State} {args : Array Value} (hy : y.cls ≠ "java/lang/invoke/MethodHandle" ∧ y.cls ≠ "java/lang/invoke/VarHandle") (hz : (Cond.selects C z z).before args s = true) (hyz : z.cls = y.cls) (hpriv : (Cond.privateMethod y).before args s = true) (hinst : (Cond.instanceMethod y).before args s = true) : (Cond.selects C y y).before args s = true := by
  obtain ⟨c, r, m, h1, -, h3, -, kz, h5, h6⟩ := Cond.selects_spec hz
  obtain ⟨mk, methM, hnamed, hmethM, -, -⟩ := Cond.instanceMethod_spec hinst
  have hfound : s.methodFound? y.cls y.name y.desc = some mk := State.methodFound?_of_named hnamed hy
  have e1 : mk.cls = m.cls := Option.some.inj ((findClass_of_methodNamed hnamed).symm.trans (by rw [← hyz]; exact findClass_of_methodNamed h3))
  have hsel : selectMethod {} s.vm c mk = .method mk := selectMethod_private hmethM (Cond.privateMethod_at hpriv mk methM hnamed hmethM)
  simp only [Cond.before, Cond.holds, Cond.value, h1, hfound, hnamed, hsel, e1, h5]
  simp; exact h6
theorem lw_t2_ok {s : State} {args : Array Value} (h : ∀ w ∈ lw_tbl, w.before args s = true) : ∀ w ∈ lw_t2, w.before args s = true := by
  intro w hw
  rcases List.mem_append.mp hw with hw | hw
  · exact h w hw
  · have hz : (Cond.selects RJ4 (⟨"java/lang/AbstractStringBuilder", "isLatin1", "()Z"⟩ : MethodName) (⟨"java/lang/AbstractStringBuilder", "isLatin1", "()Z"⟩ : MethodName)).before args s = true := h _ (List.mem_of_getElem? (i := 485) (by decide +kernel))
    rcases List.mem_cons.mp hw with rfl | hw
    · exact tw_selP (by decide +kernel) hz rfl (h _ (List.mem_of_getElem? (i := 452) (by decide +kernel))) (h _ (List.mem_of_getElem? (i := 453) (by decide +kernel)))
    rcases List.mem_cons.mp hw with rfl | hw
    · exact tw_selP (by decide +kernel) hz rfl (h _ (List.mem_of_getElem? (i := 448) (by decide +kernel))) (h _ (List.mem_of_getElem? (i := 449) (by decide +kernel)))
    rcases List.mem_cons.mp hw with rfl | hw
    · exact tw_selP (by decide +kernel) hz rfl (h _ (List.mem_of_getElem? (i := 641) (by decide +kernel))) (h _ (List.mem_of_getElem? (i := 642) (by decide +kernel)))
    rcases List.mem_cons.mp hw with rfl | hw
    · exact tw_selP (by decide +kernel) hz rfl (h _ (List.mem_of_getElem? (i := 637) (by decide +kernel))) (h _ (List.mem_of_getElem? (i := 638) (by decide +kernel)))
    · exact absurd hw List.not_mem_nil
def w0 : List Cond := lw_t2.filter goodWord
theorem w0_in {w : Cond} (i : Nat) (h : lw_t2[i]? = some w) (hg : goodWord w = true) : w ∈ w0 := List.mem_filter.mpr ⟨List.mem_of_getElem? h, hg⟩
theorem zm {x w : Cond} (h : w ∈ w0) : w ∈ x :: w0 := List.mem_cons_of_mem _ h
theorem zh {x : Cond} {L : List Cond} (h : ∀ w ∈ L, w ∈ w0) : ∀ w ∈ L, w ∈ x :: w0 := fun w hw => List.mem_cons_of_mem _ (h w hw)
theorem gi_0 {x c : Cond} (hc : c ∈ x :: w0) (hx : goodWord c = true) : GoodIn (x :: w0) (c :: w0) := fun w hw => (List.mem_cons.mp hw).elim (fun e => by rw [e]; exact ⟨hc, good_of_word hx⟩) (fun h => ⟨List.mem_cons_of_mem _ h, good_of_word (List.mem_filter.mp h).2⟩)
theorem gi_1 {x w : Cond} {L : List Cond} (hw : w ∈ x :: w0) (hg : goodWord w = true) (h : GoodIn (x :: w0) L) : GoodIn (x :: w0) (w :: L) := fun v hv => (List.mem_cons.mp hv).elim (fun e => by rw [e]; exact ⟨hw, good_of_word hg⟩) (fun q => h v q)
section GI
variable {x : Cond} {own C owner : String} {idx maxL : Nat} {y z : MethodName} {bytes : ByteArray} {ret : Option FieldType} {hh : List (Nat × Nat × Nat × Nat)}
theorem gi_V (a1 : Cond.methodLink own idx y ∈ x :: w0) (a2 : Cond.instanceMethod y ∈ x :: w0) (a3 : Cond.selects C y y ∈ x :: w0) (a4 : Cond.initialized C ∈ x :: w0) (a5 : Cond.code y bytes maxL ret ∈ x :: w0) : GoodIn (x :: w0) (wsV own idx C y (Cond.code y bytes maxL ret :: w0)) := gi_1 a1 rfl (gi_1 a2 rfl (gi_1 a3 rfl (gi_1 a4 rfl (gi_0 a5 rfl))))
theorem gi_S (a1 : Cond.methodLink own idx y ∈ x :: w0) (a2 : Cond.static y ∈ x :: w0) (a4 : Cond.initialized y.cls ∈ x :: w0) (a5 : Cond.code y bytes maxL ret ∈ x :: w0) : GoodIn (x :: w0) (va_wsS own idx y (Cond.code y bytes maxL ret :: w0)) := gi_1 a1 rfl (gi_1 a2 rfl (gi_1 a4 rfl (gi_0 a5 rfl)))
theorem gi_SX (a1 : Cond.methodLink own idx y ∈ x :: w0) (a2 : Cond.static y ∈ x :: w0) (a4 : Cond.initialized y.cls ∈ x :: w0) (a5 : Cond.codeWith y bytes maxL ret hh ∈ x :: w0) : GoodIn (x :: w0) (va_wsS own idx y (Cond.codeWith y bytes maxL ret hh :: w0)) := gi_1 a1 rfl (gi_1 a2 rfl (gi_1 a4 rfl (gi_0 a5 rfl)))
theorem gi_U (a1 : Cond.methodLink own idx z ∈ x :: w0) (a2 : Cond.sameMethod z.cls owner z.name z.desc ∈ x :: w0) (a3 : Cond.selects C z y ∈ x :: w0) (a4 : Cond.instanceMethod y ∈ x :: w0) (a5 : Cond.initialized y.cls ∈ x :: w0) (a6 : Cond.code y bytes maxL ret ∈ x :: w0) : GoodIn (x :: w0) (va_wsU own idx C owner z y (Cond.code y bytes maxL ret :: w0)) := gi_1 a1 rfl (gi_1 a2 rfl (gi_1 a3 rfl (gi_1 a4 rfl (gi_1 a5 rfl (gi_0 a6 rfl)))))
theorem gi_O (a1 : Cond.methodLink own idx z ∈ x :: w0) (a2 : Cond.sameMethod z.cls owner z.name z.desc ∈ x :: w0) (a7 : Cond.instanceMethod ⟨owner, z.name, z.desc⟩ ∈ x :: w0) (a3 : Cond.selects C z y ∈ x :: w0) (a4 : Cond.instanceMethod y ∈ x :: w0) (a5 : Cond.initialized y.cls ∈ x :: w0) (a6 : Cond.code y bytes maxL ret ∈ x :: w0) : GoodIn (x :: w0) (va_wsO own idx C owner z y (Cond.code y bytes maxL ret :: w0)) := gi_1 a1 rfl (gi_1 a2 rfl (gi_1 a7 rfl (gi_1 a3 rfl (gi_1 a4 rfl (gi_1 a5 rfl (gi_0 a6 rfl))))))
theorem gi_SU (a1 : Cond.methodLink own idx y ∈ x :: w0) (a2 : Cond.sameMethod y.cls y.cls y.name y.desc ∈ x :: w0) (a3 : Cond.superclass own y.cls ∈ x :: w0) (a4 : Cond.instanceMethod y ∈ x :: w0) (a5 : Cond.initialized y.cls ∈ x :: w0) (a6 : Cond.code y bytes maxL ret ∈ x :: w0) : GoodIn (x :: w0) (va_wsSU own idx y (Cond.code y bytes maxL ret :: w0)) := gi_1 a1 rfl (gi_1 a2 rfl (gi_1 a3 rfl (gi_1 a4 rfl (gi_1 a5 rfl (gi_0 a6 rfl)))))
theorem gi_I (a5 : Cond.code y bytes maxL ret ∈ x :: w0) : GoodIn (x :: w0) (Cond.code y bytes maxL ret :: w0) := gi_0 a5 rfl
end GI
set_option maxRecDepth 40000 in
theorem kw_2 : Cond.code objectInit ⟨#[0xb1]⟩ 1 none ∈ w0 := w0_in 60 rfl rfl
set_option maxRecDepth 40000 in
theorem kw_12 : Cond.code yX0_init cX0_init 5 none ∈ w0 := w0_in 66 rfl rfl
set_option maxRecDepth 40000 in
theorem kw_26 : Cond.code yX0_read cX0_read 3 (some .int) ∈ w0 := w0_in 121 rfl rfl
set_option maxRecDepth 40000 in
theorem kw_30 : Cond.code yX1_numberOf cX1_numberOf 1 (some .int) ∈ w0 := w0_in 127 rfl rfl
set_option maxRecDepth 40000 in
theorem kw_35 : Cond.code yX1_codeOf cX1_codeOf 5 (some .int) ∈ w0 := w0_in 124 rfl rfl
set_option maxRecDepth 40000 in
theorem kw_39 : Cond.code yX1_hasAllFrom cX1_hasAllFrom 4 (some .boolean) ∈ w0 := w0_in 142 rfl rfl
set_option maxRecDepth 40000 in
theorem kw_43 : Cond.code yX1_areSame cX1_areSame 2 (some .boolean) ∈ w0 := w0_in 139 rfl rfl
set_option maxRecDepth 40000 in
theorem kw_46 : Cond.code yX0_write cX0_write 5 (some .int) ∈ w0 := w0_in 135 rfl rfl
set_option maxRecDepth 40000 in
theorem kw_50 : Cond.code yX1_placeAfter cX1_placeAfter 3 (some .int) ∈ w0 := w0_in 148 rfl rfl
set_option maxRecDepth 40000 in
theorem kw_53 : Cond.code yX1_firstPlace cX1_firstPlace 3 (some .int) ∈ w0 := w0_in 154 rfl rfl
set_option maxRecDepth 40000 in
theorem kw_56 : Cond.code yX1_lastPlace cX1_lastPlace 3 (some .int) ∈ w0 := w0_in 157 rfl rfl
set_option maxRecDepth 40000 in
theorem kw_59 : Cond.code yX0_isPlace cX0_isPlace 2 (some .boolean) ∈ w0 := w0_in 161 rfl rfl
set_option maxRecDepth 40000 in
theorem kw_64 : Cond.code yX1_listOrNull cX1_listOrNull 2 (some (.object "Twinrow$RowList")) ∈ w0 := w0_in 110 rfl rfl
set_option maxRecDepth 40000 in
theorem kw_68 : Cond.code yX1_isInRow cX1_isInRow 3 (some .boolean) ∈ w0 := w0_in 117 rfl rfl
set_option maxRecDepth 40000 in
theorem kw_71 : Cond.code yX1_isEqualToOwn cX1_isEqualToOwn 4 (some .boolean) ∈ w0 := w0_in 131 rfl rfl
set_option maxRecDepth 40000 in
theorem kw_75 : Cond.code yX1_isSameBothWays cX1_isSameBothWays 4 (some .boolean) ∈ w0 := w0_in 145 rfl rfl
set_option maxRecDepth 40000 in
theorem kw_78 : Cond.code yX1_areFirstsAndLasts cX1_areFirstsAndLasts 5 (some .boolean) ∈ w0 := w0_in 151 rfl rfl
set_option maxRecDepth 40000 in
theorem kw_81 : Cond.code yX1_isSoundList cX1_isSoundList 3 (some .boolean) ∈ w0 := w0_in 114 rfl rfl
set_option maxRecDepth 40000 in
theorem kw_88 : Cond.code yX1_checkNumber cX1_checkNumber 3 none ∈ w0 := w0_in 173 rfl rfl
set_option maxRecDepth 40000 in
theorem kw_93 : Cond.code yX1_listAt cX1_listAt 3 (some (.object "Twinrow$RowList")) ∈ w0 := w0_in 296 rfl rfl
set_option maxRecDepth 40000 in
theorem kw_97 : Cond.code yX1_rowOf cX1_rowOf 3 (some .int) ∈ w0 := w0_in 284 rfl rfl
set_option maxRecDepth 40000 in
theorem kw_101 : Cond.code yX1_mixed cX1_mixed 4 (some .long) ∈ w0 := w0_in 271 rfl rfl
set_option maxRecDepth 40000 in
theorem kw_104 : Cond.code yX1_begin cX1_begin 3 (some .int) ∈ w0 := w0_in 288 rfl rfl
set_option maxRecDepth 40000 in
theorem kw_108 : Cond.code yX1_length cX1_length 2 (some .int) ∈ w0 := w0_in 292 rfl rfl
set_option maxRecDepth 40000 in
theorem kw_112 : Cond.code yX1_code cX1_code 3 (some .int) ∈ w0 := w0_in 301 rfl rfl
set_option maxRecDepth 40000 in
theorem kw_116 : Cond.code yX1_sum cX1_sum 5 (some .int) ∈ w0 := w0_in 305 rfl rfl
set_option maxRecDepth 40000 in
theorem kw_120 : Cond.code yX1_twinAt cX1_twinAt 3 (some (.object "Twinrow$RowList")) ∈ w0 := w0_in 252 rfl rfl
set_option maxRecDepth 40000 in
theorem kw_124 : Cond.code yX1_partsThere cX1_partsThere 3 (some .int) ∈ w0 := w0_in 244 rfl rfl
set_option maxRecDepth 40000 in
theorem kw_128 : Cond.code yX1_placesOfRows cX1_placesOfRows 3 (some .int) ∈ w0 := w0_in 248 rfl rfl
set_option maxRecDepth 40000 in
theorem kw_132 : Cond.code yX1_isSound cX1_isSound 3 (some .boolean) ∈ w0 := w0_in 106 rfl rfl
set_option maxRecDepth 40000 in
theorem kw_136 : Cond.code yX1_mixedWithList cX1_mixedWithList 6 (some .long) ∈ w0 := w0_in 280 rfl rfl
set_option maxRecDepth 40000 in
theorem kw_140 : Cond.code yX1_mixedWithRow cX1_mixedWithRow 8 (some .long) ∈ w0 := w0_in 276 rfl rfl
set_option maxRecDepth 40000 in
theorem kw_144 : Cond.code yX1_house cX1_house 2 (some .int) ∈ w0 := w0_in 170 rfl rfl
set_option maxRecDepth 40000 in
theorem kw_151 : Cond.code yX3_value cX3_value 3 (some .int) ∈ w0 := w0_in 1025 rfl rfl
set_option maxRecDepth 40000 in
theorem kw_156 : Cond.code yX3_all cX3_all 4 (some (.array .int)) ∈ w0 := w0_in 1054 rfl rfl
set_option maxRecDepth 40000 in
theorem kw_160 : Cond.code yX3_one cX3_one 1 (some .int) ∈ w0 := w0_in 1097 rfl rfl
set_option maxRecDepth 40000 in
theorem kw_165 : Cond.code yX3_add_ cX3_add_ 3 none ∈ w0 := w0_in 1288 rfl rfl
set_option maxRecDepth 40000 in
theorem kw_169 : Cond.code yX3_beginNow cX3_beginNow 2 (some .int) ∈ w0 := w0_in 1275 rfl rfl
set_option maxRecDepth 40000 in
theorem kw_173 : Cond.code yX3_codeNow cX3_codeNow 7 (some .int) ∈ w0 := w0_in 1132 rfl rfl
set_option maxRecDepth 40000 in
theorem kw_177 : Cond.code yX3_sumNow cX3_sumNow 7 (some .int) ∈ w0 := w0_in 1149 rfl rfl
set_option maxRecDepth 40000 in
theorem kw_181 : Cond.code yX3_houseNow cX3_houseNow 4 (some .int) ∈ w0 := w0_in 1263 rfl rfl
set_option maxRecDepth 40000 in
theorem kw_189 : Cond.code yX3_fails cX3_fails 3 (some .boolean) ∈ w0 := w0_in 990 rfl rfl
set_option maxRecDepth 40000 in
theorem kw_193 : Cond.code yX3_isIn cX3_isIn 3 (some .boolean) ∈ w0 := w0_in 986 rfl rfl
set_option maxRecDepth 40000 in
theorem kw_198 : Cond.code yX1_checkPlace cX1_checkPlace 2 none ∈ w0 := w0_in 345 rfl rfl
set_option maxRecDepth 40000 in
theorem kw_201 : Cond.code yX1_refuseIf cX1_refuseIf 2 (some .int) ∈ w0 := w0_in 861 rfl rfl
set_option maxRecDepth 40000 in
theorem kw_205 : Cond.code yX1_walkChange cX1_walkChange 5 (some .int) ∈ w0 := w0_in 930 rfl rfl
set_option maxRecDepth 40000 in
theorem kw_210 : Cond.code yX3_isNoList cX3_isNoList 2 (some .boolean) ∈ w0 := w0_in 1013 rfl rfl
set_option maxRecDepth 40000 in
theorem kw_214 : Cond.code yX3_refused cX3_refused 1 (some .int) ∈ w0 := w0_in 1208 rfl rfl
set_option maxRecDepth 40000 in
theorem kw_218 : Cond.code yX3_isNoPlace cX3_isNoPlace 3 (some .boolean) ∈ w0 := w0_in 1021 rfl rfl
set_option maxRecDepth 40000 in
theorem kw_222 : Cond.code yX1_clear cX1_clear 2 (some .int) ∈ w0 := w0_in 923 rfl rfl
set_option maxRecDepth 40000 in
theorem kw_226 : Cond.code yX3_refusedIf cX3_refusedIf 2 (some .int) ∈ w0 := w0_in 1220 rfl rfl
set_option maxRecDepth 40000 in
theorem kw_230 : Cond.code yX1_isOfTest cX1_isOfTest 3 (some .boolean) ∈ w0 := w0_in 916 rfl rfl
set_option maxRecDepth 40000 in
theorem kw_233 : Cond.code yX1_hasOneOfTest cX1_hasOneOfTest 4 (some .boolean) ∈ w0 := w0_in 913 rfl rfl
set_option maxRecDepth 40000 in
theorem kw_236 : Cond.code yX1_removeIf cX1_removeIf 5 (some .int) ∈ w0 := w0_in 910 rfl rfl
set_option maxRecDepth 40000 in
theorem kw_240 : Cond.code yX3_tested cX3_tested 3 (some .boolean) ∈ w0 := w0_in 1243 rfl rfl
set_option maxRecDepth 40000 in
theorem kw_243 : Cond.code yX1_stands cX1_stands 2 (some .boolean) ∈ w0 := w0_in 707 rfl rfl
set_option maxRecDepth 40000 in
theorem kw_246 : Cond.code yX1_hasOneThatStands cX1_hasOneThatStands 4 (some .boolean) ∈ w0 := w0_in 724 rfl rfl
set_option maxRecDepth 40000 in
theorem kw_249 : Cond.code yX1_retainAll cX1_retainAll 4 (some .int) ∈ w0 := w0_in 903 rfl rfl
set_option maxRecDepth 40000 in
theorem kw_253 : Cond.code yX3_oftenIn cX3_oftenIn 7 (some .int) ∈ w0 := w0_in 1094 rfl rfl
set_option maxRecDepth 40000 in
theorem kw_256 : Cond.code yX3_isNoPair cX3_isNoPair 3 (some .boolean) ∈ w0 := w0_in 1105 rfl rfl
set_option maxRecDepth 40000 in
theorem kw_260 : Cond.code yX3_shared cX3_shared 8 (some .int) ∈ w0 := w0_in 1109 rfl rfl
set_option maxRecDepth 40000 in
theorem kw_264 : Cond.code yX1_removeAll cX1_removeAll 4 (some .int) ∈ w0 := w0_in 896 rfl rfl
set_option maxRecDepth 40000 in
theorem kw_268 : Cond.code yX1_checkValue cX1_checkValue 1 none ∈ w0 := w0_in 349 rfl rfl
set_option maxRecDepth 40000 in
theorem kw_271 : Cond.code yX1_removeValue cX1_removeValue 4 (some .int) ∈ w0 := w0_in 889 rfl rfl
set_option maxRecDepth 40000 in
theorem kw_275 : Cond.code yX3_isNoValue cX3_isNoValue 1 (some .boolean) ∈ w0 := w0_in 1001 rfl rfl
set_option maxRecDepth 40000 in
theorem kw_278 : Cond.code yX1_remove cX1_remove 4 (some .int) ∈ w0 := w0_in 882 rfl rfl
set_option maxRecDepth 40000 in
theorem kw_282 : Cond.code yX1_addAll cX1_addAll 3 (some .int) ∈ w0 := w0_in 875 rfl rfl
set_option maxRecDepth 40000 in
theorem kw_286 : Cond.code yX1_addAt cX1_addAt 5 (some .int) ∈ w0 := w0_in 868 rfl rfl
set_option maxRecDepth 40000 in
theorem kw_290 : Cond.code yX3_isBeyond cX3_isBeyond 3 (some .boolean) ∈ w0 := w0_in 1140 rfl rfl
set_option maxRecDepth 40000 in
theorem kw_294 : Cond.code yX1_add cX1_add 3 (some .int) ∈ w0 := w0_in 857 rfl rfl
set_option maxRecDepth 40000 in
theorem kw_299 : Cond.code yX0_exchange cX0_exchange 3 none ∈ w0 := w0_in 822 rfl rfl
set_option maxRecDepth 40000 in
theorem kw_303 : Cond.code yX1_swap cX1_swap 6 (some .int) ∈ w0 := w0_in 850 rfl rfl
set_option maxRecDepth 40000 in
theorem kw_307 : Cond.code yX3_write cX3_write 4 none ∈ w0 := w0_in 1029 rfl rfl
set_option maxRecDepth 40000 in
theorem kw_311 : Cond.code yJ9_floorMod_7cf53 cJ9_floorMod_7cf53 3 (some .int) ∈ w0 := w0_in 843 rfl rfl
set_option maxRecDepth 40000 in
theorem kw_315 : Cond.code yX1_turn cX1_turn 5 none ∈ w0 := w0_in 833 rfl rfl
set_option maxRecDepth 40000 in
theorem kw_318 : Cond.code yX1_rotate cX1_rotate 5 (some .int) ∈ w0 := w0_in 840 rfl rfl
set_option maxRecDepth 40000 in
theorem kw_322 : Cond.code yX1_reverse cX1_reverse 3 (some .int) ∈ w0 := w0_in 830 rfl rfl
set_option maxRecDepth 40000 in
theorem kw_326 : Cond.code yJ6_compare_7cf53 cJ6_compare_7cf53 2 (some .int) ∈ w0 := w0_in 818 rfl rfl
set_option maxRecDepth 40000 in
theorem kw_330 : Cond.code yX1_sink cX1_sink 5 none ∈ w0 := w0_in 815 rfl rfl
set_option maxRecDepth 40000 in
theorem kw_333 : Cond.code yX1_sort cX1_sort 5 (some .int) ∈ w0 := w0_in 812 rfl rfl
set_option maxRecDepth 40000 in
theorem kw_337 : Cond.code yX1_writeAll cX1_writeAll 3 none ∈ w0 := w0_in 331 rfl rfl
set_option maxRecDepth 40000 in
theorem kw_340 : Cond.code yX1_fill cX1_fill 4 (some .int) ∈ w0 := w0_in 805 rfl rfl
set_option maxRecDepth 40000 in
theorem kw_344 : Cond.code yX1_replaceOld cX1_replaceOld 7 (some .int) ∈ w0 := w0_in 798 rfl rfl
set_option maxRecDepth 40000 in
theorem kw_348 : Cond.code yX3_writeAll cX3_writeAll 4 none ∈ w0 := w0_in 1180 rfl rfl
set_option maxRecDepth 40000 in
theorem kw_355 : Cond.code Lib.Math.min.name Lib.Math.min.code 2 (some .int) ∈ w0 := w0_in 478 rfl rfl
set_option maxRecDepth 40000 in
theorem kw_358 : Cond.code Lib.Math.max.name Lib.Math.max.code 2 (some .int) ∈ w0 := w0_in 460 rfl rfl
set_option maxRecDepth 40000 in
theorem kw_359 : Cond.code yX1_withinNumbers cX1_withinNumbers 1 (some .int) ∈ w0 := w0_in 783 rfl rfl
set_option maxRecDepth 40000 in
theorem kw_362 : Cond.code yX1_ruled cX1_ruled 4 (some .int) ∈ w0 := w0_in 780 rfl rfl
set_option maxRecDepth 40000 in
theorem kw_365 : Cond.code yX1_stepsLeft cX1_stepsLeft 3 (some .int) ∈ w0 := w0_in 759 rfl rfl
set_option maxRecDepth 40000 in
theorem kw_368 : Cond.code yX1_checkRule cX1_checkRule 2 none ∈ w0 := w0_in 774 rfl rfl
set_option maxRecDepth 40000 in
theorem kw_371 : Cond.code yX1_writeRuled cX1_writeRuled 8 (some .int) ∈ w0 := w0_in 777 rfl rfl
set_option maxRecDepth 40000 in
theorem kw_374 : Cond.code yX1_replaceAll cX1_replaceAll 5 (some .int) ∈ w0 := w0_in 791 rfl rfl
set_option maxRecDepth 40000 in
theorem kw_380 : Cond.code yX3_bounded cX3_bounded 1 (some .int) ∈ w0 := w0_in 1166 rfl rfl
set_option maxRecDepth 40000 in
theorem kw_383 : Cond.code yX3_ruled cX3_ruled 4 (some .int) ∈ w0 := w0_in 1163 rfl rfl
set_option maxRecDepth 40000 in
theorem kw_386 : Cond.code yX3_isNoRule cX3_isNoRule 2 (some .boolean) ∈ w0 := w0_in 1156 rfl rfl
set_option maxRecDepth 40000 in
theorem kw_389 : Cond.code yX3_ruledAll cX3_ruledAll 7 (some .int) ∈ w0 := w0_in 1160 rfl rfl
set_option maxRecDepth 40000 in
theorem kw_393 : Cond.code yX1_walkSet cX1_walkSet 7 (some .int) ∈ w0 := w0_in 771 rfl rfl
set_option maxRecDepth 40000 in
theorem kw_403 : Cond.code yJ5_init_d00df cJ5_init_d00df 2 none ∈ w0 := w0_in 416 rfl rfl
set_option maxRecDepth 40000 in
theorem kw_408 : Cond.code yJ5_length_8abf5 cJ5_length_8abf5 1 (some .int) ∈ w0 := w0_in 597 rfl rfl
set_option maxRecDepth 40000 in
theorem kw_413 : Cond.code yJ7_checkLength_df160 cJ7_checkLength_df160 2 none ∈ w0 := w0_in 607 rfl rfl
set_option maxRecDepth 40000 in
theorem kw_422 : Cond.code yJ7_copyOfRangeByte_39247 cJ7_copyOfRangeByte_39247 5 (some (.array .byte)) ∈ w0 := w0_in 604 rfl rfl
set_option maxRecDepth 40000 in
theorem kw_432 : Cond.code yJ7_copyOfRange_39247 cJ7_copyOfRange_39247 3 (some (.array .byte)) ∈ w0 := w0_in 601 rfl rfl
set_option maxRecDepth 40000 in
theorem kw_437 : Cond.code yJ5_getValue_6d5f1 cJ5_getValue_6d5f1 1 (some (.array .byte)) ∈ w0 := w0_in 589 rfl rfl
set_option maxRecDepth 40000 in
theorem kw_442 : Cond.code yJ4_length_8abf5 cJ4_length_8abf5 1 (some .int) ∈ w0 := w0_in 595 rfl rfl
set_option maxRecDepth 40000 in
theorem kw_448 : Cond.code yJ5_isLatin1_aae02 cJ5_isLatin1_aae02 1 (some .boolean) ∈ w0 := w0_in 486 rfl rfl
set_option maxRecDepth 40000 in
theorem kw_455 : Cond.code yJ0_init_db425 cJ0_init_db425 5 none ∈ w0 := w0_in 583 rfl rfl
set_option maxRecDepth 40000 in
theorem kw_461 : Cond.code yJ0_init_81219 cJ0_init_81219 2 none ∈ w0 := w0_in 580 rfl rfl
set_option maxRecDepth 40000 in
theorem kw_466 : Cond.code yJ8_newLength_cabcc cJ8_newLength_cabcc 4 (some .int) ∈ w0 := w0_in 457 rfl rfl
set_option maxRecDepth 40000 in
theorem kw_471 : Cond.code yJ5_newCapacity_0f7a4 cJ5_newCapacity_0f7a4 6 (some .int) ∈ w0 := w0_in 454 rfl rfl
set_option maxRecDepth 40000 in
theorem kw_476 : Cond.code yJ7_copyOf_9075b cJ7_copyOf_9075b 3 (some (.array .byte)) ∈ w0 := w0_in 468 rfl rfl
set_option maxRecDepth 40000 in
theorem kw_481 : Cond.code yJ6_stringSize_0f7a4 cJ6_stringSize_0f7a4 4 (some .int) ∈ w0 := w0_in 544 rfl rfl
set_option maxRecDepth 40000 in
theorem kw_484 : Cond.code yJ5_ensureCapacityInternal_d00df cJ5_ensureCapacityInternal_d00df 3 none ∈ w0 := w0_in 450 rfl rfl
set_option maxRecDepth 40000 in
theorem kw_490 : Cond.code yJ6_getChars_ba4f3 cJ6_getChars_ba4f3 7 (some .int) ∈ w0 := w0_in 547 rfl rfl
set_option maxRecDepth 40000 in
theorem kw_493 : Cond.code yJ5_append_c97b9 cJ5_append_c97b9 4 (some (.object "java/lang/AbstractStringBuilder")) ∈ w0 := w0_in 541 rfl rfl
set_option maxRecDepth 40000 in
theorem kw_497 : Cond.code yJ1_canEncode_fc78d cJ1_canEncode_fc78d 1 (some .boolean) ∈ w0 := w0_in 489 rfl rfl
set_option maxRecDepth 40000 in
theorem kw_501 : Cond.code yJ5_append_3fe6f cJ5_append_3fe6f 2 (some (.object "java/lang/AbstractStringBuilder")) ∈ w0 := w0_in 446 rfl rfl
set_option maxRecDepth 40000 in
theorem kw_505 : Cond.code yJ4_append_bf812 cJ4_append_bf812 2 (some (.object "java/lang/StringBuilder")) ∈ w0 := w0_in 538 rfl rfl
set_option maxRecDepth 40000 in
theorem kw_509 : Cond.code yJ4_append_cf468 cJ4_append_cf468 2 (some (.object "java/lang/StringBuilder")) ∈ w0 := w0_in 443 rfl rfl
set_option maxRecDepth 40000 in
theorem kw_513 : Cond.code yX1_appendValue cX1_appendValue 2 none ∈ w0 := w0_in 571 rfl rfl
set_option maxRecDepth 40000 in
theorem kw_516 : Cond.code yJ4_toString_0e30d cJ4_toString_0e30d 1 (some (.object "java/lang/String")) ∈ w0 := w0_in 575 rfl rfl
set_option maxRecDepth 40000 in
theorem kw_522 : Cond.code yJ4_init_da8c8 cJ4_init_da8c8 1 none ∈ w0 := w0_in 413 rfl rfl
set_option maxRecDepth 40000 in
theorem kw_525 : Cond.code yX1_textOf cX1_textOf 8 (some (.object "java/lang/String")) ∈ w0 := w0_in 408 rfl rfl
set_option maxRecDepth 40000 in
theorem kw_528 : Cond.code yX1_walk cX1_walk 7 (some (.object "java/lang/String")) ∈ w0 := w0_in 756 rfl rfl
set_option maxRecDepth 40000 in
theorem kw_532 : Cond.code yJ0_coder_7d493 cJ0_coder_7d493 1 (some .byte) ∈ w0 := w0_in 634 rfl rfl
set_option maxRecDepth 40000 in
theorem kw_538 : Cond.code yJ5_inflateIfNeededFor_a7421 cJ5_inflateIfNeededFor_a7421 2 none ∈ w0 := w0_in 643 rfl rfl
set_option maxRecDepth 40000 in
theorem kw_543 : Cond.code yJ0_getBytes_840e7 cJ0_getBytes_840e7 4 none ∈ w0 := w0_in 648 rfl rfl
set_option maxRecDepth 40000 in
theorem kw_547 : Cond.code yJ0_length_8abf5 cJ0_length_8abf5 1 (some .int) ∈ w0 := w0_in 630 rfl rfl
set_option maxRecDepth 40000 in
theorem kw_551 : Cond.code yJ5_putStringAt_47b60 cJ5_putStringAt_47b60 3 none ∈ w0 := w0_in 639 rfl rfl
set_option maxRecDepth 40000 in
theorem kw_556 : Cond.code yJ5_append_cf1ce cJ5_append_cf1ce 3 (some (.object "java/lang/AbstractStringBuilder")) ∈ w0 := w0_in 619 rfl rfl
set_option maxRecDepth 40000 in
theorem kw_562 : Cond.code yJ4_append_15ec4 cJ4_append_15ec4 2 (some (.object "java/lang/StringBuilder")) ∈ w0 := w0_in 616 rfl rfl
set_option maxRecDepth 40000 in
theorem kw_568 : Cond.code yX3_shown cX3_shown 1 (some (.object "java/lang/String")) ∈ w0 := w0_in 1061 rfl rfl
set_option maxRecDepth 40000 in
theorem kw_571 : Cond.code yJ0_isEmpty_aae02 cJ0_isEmpty_aae02 1 (some .boolean) ∈ w0 := w0_in 1058 rfl rfl
set_option maxRecDepth 40000 in
theorem kw_576 : Cond.code yX1_areEqual cX1_areEqual 4 (some .boolean) ∈ w0 := w0_in 745 rfl rfl
set_option maxRecDepth 40000 in
theorem kw_580 : Cond.code yX3_isAt cX3_isAt 5 (some .boolean) ∈ w0 := w0_in 1120 rfl rfl
set_option maxRecDepth 40000 in
theorem kw_583 : Cond.code yX1_indexOfAll cX1_indexOfAll 6 (some .int) ∈ w0 := w0_in 738 rfl rfl
set_option maxRecDepth 40000 in
theorem kw_587 : Cond.code yX1_areApart cX1_areApart 4 (some .boolean) ∈ w0 := w0_in 731 rfl rfl
set_option maxRecDepth 40000 in
theorem kw_591 : Cond.code yX1_hasAll cX1_hasAll 4 (some .boolean) ∈ w0 := w0_in 721 rfl rfl
set_option maxRecDepth 40000 in
theorem kw_595 : Cond.code yX1_often cX1_often 6 (some .int) ∈ w0 := w0_in 714 rfl rfl
set_option maxRecDepth 40000 in
theorem kw_599 : Cond.code yX1_has cX1_has 4 (some .boolean) ∈ w0 := w0_in 704 rfl rfl
set_option maxRecDepth 40000 in
theorem kw_603 : Cond.code yX3_placeOf cX3_placeOf 3 (some .int) ∈ w0 := w0_in 1079 rfl rfl
set_option maxRecDepth 40000 in
theorem kw_606 : Cond.code yX1_lastIndexOf cX1_lastIndexOf 4 (some .int) ∈ w0 := w0_in 697 rfl rfl
set_option maxRecDepth 40000 in
theorem kw_610 : Cond.code yX1_indexOf cX1_indexOf 4 (some .int) ∈ w0 := w0_in 690 rfl rfl
set_option maxRecDepth 40000 in
theorem kw_614 : Cond.code yX1_back cX1_back 3 (some (.object "java/lang/String")) ∈ w0 := w0_in 683 rfl rfl
set_option maxRecDepth 40000 in
theorem kw_618 : Cond.code yX3_line cX3_line 8 (some (.object "java/lang/String")) ∈ w0 := w0_in 1049 rfl rfl
set_option maxRecDepth 40000 in
theorem kw_622 : Cond.code yX1_text cX1_text 3 (some (.object "java/lang/String")) ∈ w0 := w0_in 405 rfl rfl
set_option maxRecDepth 40000 in
theorem kw_626 : Cond.code yX1_isEmpty cX1_isEmpty 2 (some .boolean) ∈ w0 := w0_in 398 rfl rfl
set_option maxRecDepth 40000 in
theorem kw_631 : Cond.code yX1_get cX1_get 4 (some .int) ∈ w0 := w0_in 387 rfl rfl
set_option maxRecDepth 40000 in
theorem kw_635 : Cond.code yX1_set cX1_set 5 (some .int) ∈ w0 := w0_in 380 rfl rfl
set_option maxRecDepth 40000 in
theorem kw_641 : Cond.code yX1_checkPart cX1_checkPart 1 none ∈ w0 := w0_in 366 rfl rfl
set_option maxRecDepth 40000 in
theorem kw_644 : Cond.code yX0_pieceOf cX0_pieceOf 3 (some (.object "Twinrow$RowList")) ∈ w0 := w0_in 371 rfl rfl
set_option maxRecDepth 40000 in
theorem kw_648 : Cond.code yX1_part cX1_part 7 (some .int) ∈ w0 := w0_in 363 rfl rfl
set_option maxRecDepth 40000 in
theorem kw_652 : Cond.code yX1_at cX1_at 4 (some .int) ∈ w0 := w0_in 356 rfl rfl
set_option maxRecDepth 40000 in
theorem kw_656 : Cond.code yX3_isNoRowPlace cX3_isNoRowPlace 3 (some .boolean) ∈ w0 := w0_in 998 rfl rfl
set_option maxRecDepth 40000 in
theorem kw_660 : Cond.code yX1_put cX1_put 5 (some .int) ∈ w0 := w0_in 342 rfl rfl
set_option maxRecDepth 40000 in
theorem kw_665 : Cond.code yX1_dropPartsOf cX1_dropPartsOf 5 (some .int) ∈ w0 := w0_in 335 rfl rfl
set_option maxRecDepth 40000 in
theorem kw_669 : Cond.code yX1_lay cX1_lay 5 (some .int) ∈ w0 := w0_in 328 rfl rfl
set_option maxRecDepth 40000 in
theorem kw_673 : Cond.code yX3_walk cX3_walk 8 (some (.object "java/lang/String")) ∈ w0 := w0_in 1136 rfl rfl
set_option maxRecDepth 40000 in
theorem kw_677 : Cond.codeWith yL_walk cL_walk 7 (some .int) [(0, 14, 17, 19), (0, 14, 21, 21)] ∈ w0 := w0_in 752 rfl rfl
set_option maxRecDepth 40000 in
theorem kw_681 : Cond.code yX3_walkSet cX3_walkSet 6 (some .int) ∈ w0 := w0_in 1153 rfl rfl
set_option maxRecDepth 40000 in
theorem kw_685 : Cond.codeWith yL_walkSet cL_walkSet 8 (some .int) [(0, 17, 20, 19), (0, 17, 24, 21)] ∈ w0 := w0_in 767 rfl rfl
set_option maxRecDepth 40000 in
theorem kw_688 : Cond.code yX3_sort cX3_sort 7 (some .int) ∈ w0 := w0_in 1188 rfl rfl
set_option maxRecDepth 40000 in
theorem kw_692 : Cond.codeWith yL_sort cL_sort 5 (some .int) [(0, 11, 14, 19)] ∈ w0 := w0_in 808 rfl rfl
set_option maxRecDepth 40000 in
theorem kw_695 : Cond.codeWith yL_lay cL_lay 5 (some .int) [(0, 11, 14, 19), (0, 11, 18, 21)] ∈ w0 := w0_in 322 rfl rfl
set_option maxRecDepth 40000 in
theorem kw_698 : Cond.code yX3_lay cX3_lay 5 (some .int) ∈ w0 := w0_in 983 rfl rfl
set_option maxRecDepth 40000 in
theorem kw_702 : Cond.codeWith yL_put cL_put 6 (some .int) [(0, 13, 16, 19), (0, 13, 20, 21)] ∈ w0 := w0_in 338 rfl rfl
set_option maxRecDepth 40000 in
theorem kw_705 : Cond.code yX3_put cX3_put 5 (some .int) ∈ w0 := w0_in 994 rfl rfl
set_option maxRecDepth 40000 in
theorem kw_709 : Cond.code yX3_thrown cX3_thrown 1 (some .int) ∈ w0 := w0_in 979 rfl rfl
set_option maxRecDepth 40000 in
theorem kw_713 : Cond.codeWith yL_at cL_at 5 (some .int) [(0, 11, 14, 19)] ∈ w0 := w0_in 352 rfl rfl
set_option maxRecDepth 40000 in
theorem kw_716 : Cond.code yX3_at cX3_at 3 (some .int) ∈ w0 := w0_in 1005 rfl rfl
set_option maxRecDepth 40000 in
theorem kw_720 : Cond.codeWith yL_part cL_part 7 (some .int) [(0, 15, 18, 19), (0, 15, 22, 21)] ∈ w0 := w0_in 359 rfl rfl
set_option maxRecDepth 40000 in
theorem kw_723 : Cond.code yX3_part cX3_part 8 (some .int) ∈ w0 := w0_in 1009 rfl rfl
set_option maxRecDepth 40000 in
theorem kw_727 : Cond.codeWith yL_set cL_set 6 (some .int) [(0, 13, 16, 19), (0, 13, 20, 21)] ∈ w0 := w0_in 376 rfl rfl
set_option maxRecDepth 40000 in
theorem kw_730 : Cond.code yX3_set cX3_set 5 (some .int) ∈ w0 := w0_in 1017 rfl rfl
set_option maxRecDepth 40000 in
theorem kw_734 : Cond.codeWith yL_get cL_get 5 (some .int) [(0, 11, 14, 19)] ∈ w0 := w0_in 383 rfl rfl
set_option maxRecDepth 40000 in
theorem kw_737 : Cond.code yX3_get cX3_get 3 (some .int) ∈ w0 := w0_in 1033 rfl rfl
set_option maxRecDepth 40000 in
theorem kw_741 : Cond.codeWith yL_length cL_length 4 (some .int) [(0, 10, 13, 19)] ∈ w0 := w0_in 390 rfl rfl
set_option maxRecDepth 40000 in
theorem kw_744 : Cond.code yX3_length cX3_length 2 (some .int) ∈ w0 := w0_in 1037 rfl rfl
set_option maxRecDepth 40000 in
theorem kw_748 : Cond.codeWith yL_isEmpty cL_isEmpty 4 (some .int) [(0, 17, 20, 19)] ∈ w0 := w0_in 394 rfl rfl
set_option maxRecDepth 40000 in
theorem kw_751 : Cond.code yX3_isEmpty cX3_isEmpty 2 (some .boolean) ∈ w0 := w0_in 1041 rfl rfl
set_option maxRecDepth 40000 in
theorem kw_755 : Cond.codeWith yL_text cL_text 4 (some .int) [(0, 9, 12, 19)] ∈ w0 := w0_in 401 rfl rfl
set_option maxRecDepth 40000 in
theorem kw_758 : Cond.code yX3_text cX3_text 2 (some (.object "java/lang/String")) ∈ w0 := w0_in 1045 rfl rfl
set_option maxRecDepth 40000 in
theorem kw_762 : Cond.codeWith yL_back cL_back 4 (some .int) [(0, 9, 12, 19)] ∈ w0 := w0_in 679 rfl rfl
set_option maxRecDepth 40000 in
theorem kw_765 : Cond.code yX3_back cX3_back 2 (some (.object "java/lang/String")) ∈ w0 := w0_in 1072 rfl rfl
set_option maxRecDepth 40000 in
theorem kw_769 : Cond.codeWith yL_indexOf cL_indexOf 5 (some .int) [(0, 11, 14, 19), (0, 11, 18, 21)] ∈ w0 := w0_in 686 rfl rfl
set_option maxRecDepth 40000 in
theorem kw_772 : Cond.code yX3_indexOf cX3_indexOf 3 (some .int) ∈ w0 := w0_in 1076 rfl rfl
set_option maxRecDepth 40000 in
theorem kw_776 : Cond.codeWith yL_lastIndexOf cL_lastIndexOf 5 (some .int) [(0, 11, 14, 19), (0, 11, 18, 21)] ∈ w0 := w0_in 693 rfl rfl
set_option maxRecDepth 40000 in
theorem kw_779 : Cond.code yX3_lastIndexOf cX3_lastIndexOf 5 (some .int) ∈ w0 := w0_in 1083 rfl rfl
set_option maxRecDepth 40000 in
theorem kw_783 : Cond.codeWith yL_has cL_has 5 (some .int) [(0, 18, 21, 19), (0, 18, 25, 21)] ∈ w0 := w0_in 700 rfl rfl
set_option maxRecDepth 40000 in
theorem kw_786 : Cond.code yX3_has cX3_has 3 (some .boolean) ∈ w0 := w0_in 1087 rfl rfl
set_option maxRecDepth 40000 in
theorem kw_790 : Cond.codeWith yL_often cL_often 5 (some .int) [(0, 11, 14, 19), (0, 11, 18, 21)] ∈ w0 := w0_in 710 rfl rfl
set_option maxRecDepth 40000 in
theorem kw_793 : Cond.code yX3_often cX3_often 3 (some .int) ∈ w0 := w0_in 1091 rfl rfl
set_option maxRecDepth 40000 in
theorem kw_797 : Cond.codeWith yL_hasAll cL_hasAll 5 (some .int) [(0, 18, 21, 19)] ∈ w0 := w0_in 717 rfl rfl
set_option maxRecDepth 40000 in
theorem kw_800 : Cond.code yX3_hasAll cX3_hasAll 3 (some .boolean) ∈ w0 := w0_in 1101 rfl rfl
set_option maxRecDepth 40000 in
theorem kw_804 : Cond.codeWith yL_areApart cL_areApart 5 (some .int) [(0, 18, 21, 19)] ∈ w0 := w0_in 727 rfl rfl
set_option maxRecDepth 40000 in
theorem kw_807 : Cond.code yX3_areApart cX3_areApart 3 (some .boolean) ∈ w0 := w0_in 1113 rfl rfl
set_option maxRecDepth 40000 in
theorem kw_811 : Cond.codeWith yL_indexOfAll cL_indexOfAll 5 (some .int) [(0, 11, 14, 19)] ∈ w0 := w0_in 734 rfl rfl
set_option maxRecDepth 40000 in
theorem kw_814 : Cond.code yX3_indexOfAll cX3_indexOfAll 4 (some .int) ∈ w0 := w0_in 1117 rfl rfl
set_option maxRecDepth 40000 in
theorem kw_818 : Cond.codeWith yL_areEqual cL_areEqual 5 (some .int) [(0, 18, 21, 19)] ∈ w0 := w0_in 741 rfl rfl
set_option maxRecDepth 40000 in
theorem kw_821 : Cond.code yX3_areEqual cX3_areEqual 3 (some .boolean) ∈ w0 := w0_in 1124 rfl rfl
set_option maxRecDepth 40000 in
theorem kw_825 : Cond.codeWith yL_code cL_code 4 (some .int) [(0, 10, 13, 19)] ∈ w0 := w0_in 748 rfl rfl
set_option maxRecDepth 40000 in
theorem kw_828 : Cond.code yX3_code cX3_code 2 (some .int) ∈ w0 := w0_in 1128 rfl rfl
set_option maxRecDepth 40000 in
theorem kw_832 : Cond.codeWith yL_sum cL_sum 4 (some .int) [(0, 10, 13, 19)] ∈ w0 := w0_in 763 rfl rfl
set_option maxRecDepth 40000 in
theorem kw_835 : Cond.code yX3_sum cX3_sum 2 (some .int) ∈ w0 := w0_in 1145 rfl rfl
set_option maxRecDepth 40000 in
theorem kw_839 : Cond.codeWith yL_replaceAll cL_replaceAll 6 (some .int) [(0, 13, 16, 19), (0, 13, 20, 21)] ∈ w0 := w0_in 787 rfl rfl
set_option maxRecDepth 40000 in
theorem kw_842 : Cond.code yX3_replaceAll cX3_replaceAll 4 (some .int) ∈ w0 := w0_in 1172 rfl rfl
set_option maxRecDepth 40000 in
theorem kw_846 : Cond.codeWith yL_replaceOld cL_replaceOld 6 (some .int) [(0, 13, 16, 19), (0, 13, 20, 21)] ∈ w0 := w0_in 794 rfl rfl
set_option maxRecDepth 40000 in
theorem kw_849 : Cond.code yX3_replaceOld cX3_replaceOld 7 (some .int) ∈ w0 := w0_in 1176 rfl rfl
set_option maxRecDepth 40000 in
theorem kw_853 : Cond.codeWith yL_fill cL_fill 5 (some .int) [(0, 11, 14, 19), (0, 11, 18, 21)] ∈ w0 := w0_in 801 rfl rfl
set_option maxRecDepth 40000 in
theorem kw_856 : Cond.code yX3_fill cX3_fill 4 (some .int) ∈ w0 := w0_in 1184 rfl rfl
set_option maxRecDepth 40000 in
theorem kw_860 : Cond.codeWith yL_reverse cL_reverse 4 (some .int) [(0, 10, 13, 19)] ∈ w0 := w0_in 826 rfl rfl
set_option maxRecDepth 40000 in
theorem kw_863 : Cond.code yX3_reverse cX3_reverse 4 (some .int) ∈ w0 := w0_in 1192 rfl rfl
set_option maxRecDepth 40000 in
theorem kw_867 : Cond.codeWith yL_rotate cL_rotate 5 (some .int) [(0, 11, 14, 19), (0, 11, 18, 21)] ∈ w0 := w0_in 836 rfl rfl
set_option maxRecDepth 40000 in
theorem kw_870 : Cond.code yX3_rotate cX3_rotate 5 (some .int) ∈ w0 := w0_in 1196 rfl rfl
set_option maxRecDepth 40000 in
theorem kw_874 : Cond.codeWith yL_swap cL_swap 6 (some .int) [(0, 13, 16, 19)] ∈ w0 := w0_in 846 rfl rfl
set_option maxRecDepth 40000 in
theorem kw_877 : Cond.code yX3_swap cX3_swap 6 (some .int) ∈ w0 := w0_in 1200 rfl rfl
set_option maxRecDepth 40000 in
theorem kw_881 : Cond.codeWith yL_add cL_add 5 (some .int) [(0, 11, 14, 19), (0, 11, 18, 21)] ∈ w0 := w0_in 853 rfl rfl
set_option maxRecDepth 40000 in
theorem kw_884 : Cond.code yX3_add cX3_add 3 (some .int) ∈ w0 := w0_in 1204 rfl rfl
set_option maxRecDepth 40000 in
theorem kw_888 : Cond.codeWith yL_addAt cL_addAt 6 (some .int) [(0, 13, 16, 19), (0, 13, 20, 21)] ∈ w0 := w0_in 864 rfl rfl
set_option maxRecDepth 40000 in
theorem kw_891 : Cond.code yX3_addAt cX3_addAt 4 (some .int) ∈ w0 := w0_in 1212 rfl rfl
set_option maxRecDepth 40000 in
theorem kw_895 : Cond.codeWith yL_addAll cL_addAll 5 (some .int) [(0, 11, 14, 19)] ∈ w0 := w0_in 871 rfl rfl
set_option maxRecDepth 40000 in
theorem kw_898 : Cond.code yX3_addAll cX3_addAll 3 (some .int) ∈ w0 := w0_in 1216 rfl rfl
set_option maxRecDepth 40000 in
theorem kw_902 : Cond.codeWith yL_remove cL_remove 5 (some .int) [(0, 11, 14, 19)] ∈ w0 := w0_in 878 rfl rfl
set_option maxRecDepth 40000 in
theorem kw_905 : Cond.code yX3_remove cX3_remove 3 (some .int) ∈ w0 := w0_in 1224 rfl rfl
set_option maxRecDepth 40000 in
theorem kw_909 : Cond.codeWith yL_removeValue cL_removeValue 5 (some .int) [(0, 11, 14, 19), (0, 11, 18, 21)] ∈ w0 := w0_in 885 rfl rfl
set_option maxRecDepth 40000 in
theorem kw_912 : Cond.code yX3_removeValue cX3_removeValue 3 (some .int) ∈ w0 := w0_in 1228 rfl rfl
set_option maxRecDepth 40000 in
theorem kw_916 : Cond.codeWith yL_removeAll cL_removeAll 5 (some .int) [(0, 11, 14, 19)] ∈ w0 := w0_in 892 rfl rfl
set_option maxRecDepth 40000 in
theorem kw_919 : Cond.code yX3_removeAll cX3_removeAll 3 (some .int) ∈ w0 := w0_in 1232 rfl rfl
set_option maxRecDepth 40000 in
theorem kw_923 : Cond.codeWith yL_retainAll cL_retainAll 5 (some .int) [(0, 11, 14, 19)] ∈ w0 := w0_in 899 rfl rfl
set_option maxRecDepth 40000 in
theorem kw_926 : Cond.code yX3_retainAll cX3_retainAll 3 (some .int) ∈ w0 := w0_in 1236 rfl rfl
set_option maxRecDepth 40000 in
theorem kw_930 : Cond.codeWith yL_removeIf cL_removeIf 6 (some .int) [(0, 13, 16, 19), (0, 13, 20, 21)] ∈ w0 := w0_in 906 rfl rfl
set_option maxRecDepth 40000 in
theorem kw_933 : Cond.code yX3_removeIf cX3_removeIf 9 (some .int) ∈ w0 := w0_in 1240 rfl rfl
set_option maxRecDepth 40000 in
theorem kw_937 : Cond.codeWith yL_clear cL_clear 4 (some .int) [(0, 10, 13, 19)] ∈ w0 := w0_in 919 rfl rfl
set_option maxRecDepth 40000 in
theorem kw_940 : Cond.code yX3_clear cX3_clear 2 (some .int) ∈ w0 := w0_in 1247 rfl rfl
set_option maxRecDepth 40000 in
theorem kw_944 : Cond.codeWith yL_walkChange cL_walkChange 6 (some .int) [(0, 13, 16, 19), (0, 13, 20, 21)] ∈ w0 := w0_in 926 rfl rfl
set_option maxRecDepth 40000 in
theorem kw_947 : Cond.code yX3_walkChange cX3_walkChange 4 (some .int) ∈ w0 := w0_in 1251 rfl rfl
set_option maxRecDepth 40000 in
theorem kw_951 : Cond.code yX1_knock cX1_knock 1 (some .int) ∈ w0 := w0_in 102 rfl rfl
set_option maxRecDepth 40000 in
theorem kw_955 : Cond.code yX3_knock cX3_knock 1 (some .int) ∈ w0 := w0_in 1255 rfl rfl
set_option maxRecDepth 40000 in
theorem kw_959 : Cond.codeWith yL_house cL_house 4 (some .int) [(0, 10, 13, 21)] ∈ w0 := w0_in 933 rfl rfl
set_option maxRecDepth 40000 in
theorem kw_962 : Cond.code yX3_house cX3_house 2 (some .int) ∈ w0 := w0_in 1259 rfl rfl
set_option maxRecDepth 40000 in
theorem kw_966 : Cond.codeWith yL_rowOf cL_rowOf 4 (some .int) [(0, 10, 13, 21)] ∈ w0 := w0_in 937 rfl rfl
set_option maxRecDepth 40000 in
theorem kw_969 : Cond.code yX3_rowOf cX3_rowOf 2 (some .int) ∈ w0 := w0_in 1267 rfl rfl
set_option maxRecDepth 40000 in
theorem kw_973 : Cond.codeWith yL_begin cL_begin 4 (some .int) [(0, 10, 13, 21)] ∈ w0 := w0_in 941 rfl rfl
set_option maxRecDepth 40000 in
theorem kw_976 : Cond.code yX3_begin cX3_begin 2 (some .int) ∈ w0 := w0_in 1271 rfl rfl
set_option maxRecDepth 40000 in
theorem kw_981 : Cond.code yX3_isSound cX3_isSound 1 (some .boolean) ∈ w0 := w0_in 1279 rfl rfl
set_option maxRecDepth 40000 in
theorem kw_985 : Cond.code yX1_digest cX1_digest 4 (some .long) ∈ w0 := w0_in 165 rfl rfl
set_option maxRecDepth 40000 in
theorem kw_989 : Cond.code yX3_digest cX3_digest 9 (some .long) ∈ w0 := w0_in 1283 rfl rfl
set_option maxRecDepth 40000 in
theorem kw_995 : Cond.code yX1_init cX1_init 2 none ∈ w0 := w0_in 57 rfl rfl
set_option maxRecDepth 40000 in
theorem kw_1000 : Cond.code yX3_init cX3_init 1 none ∈ w0 := w0_in 947 rfl rfl
set_option maxRecDepth 40000 in
theorem kw_1006 : Cond.code yX2_init cX2_init 1 none ∈ w0 := w0_in 311 rfl rfl
theorem w0_b {q : Nat × Cond} (h : lw_t2[q.1]? = some q.2 ∧ goodWord q.2 = true) : q.2 ∈ w0 := w0_in q.1 h.1 h.2
def kwB_0 : List (Nat × Cond) := [(0, Cond.selects RX1 yX1_listOrNull yX1_listOrNull), (1, Cond.selects RX1 yX1_isSoundList yX1_isSoundList), (2, Cond.selects RX1 yX1_isEqualToOwn yX1_isEqualToOwn), (4, Cond.selects RX1 yX1_partsThere yX1_partsThere), (5, Cond.selects RX1 yX1_placesOfRows yX1_placesOfRows), (6, Cond.selects RX1 yX1_twinAt yX1_twinAt), (7, Cond.selects RX1 yX1_mixedWithRow yX1_mixedWithRow), (8, Cond.selects RX1 yX1_mixedWithList yX1_mixedWithList), (9, Cond.selects RX1 yX1_listAt yX1_listAt), (10, Cond.selects RX1 yX1_dropPartsOf yX1_dropPartsOf), (11, Cond.selects RX1 yX1_refuseIf yX1_refuseIf), (12, Cond.selects RX3 yX3_fails yX3_fails), (13, Cond.selects RX3 yX3_isNoRowPlace yX3_isNoRowPlace), (14, Cond.selects RX3 yX3_isNoList yX3_isNoList), (15, Cond.selects RX3 yX3_isNoPlace yX3_isNoPlace), (16, Cond.selects RX3 yX3_value yX3_value), (17, Cond.selects RX3 yX3_write yX3_write), (18, Cond.selects RX3 yX3_line yX3_line), (19, Cond.selects RX3 yX3_all yX3_all), (20, Cond.selects RX3 yX3_isNoPair yX3_isNoPair), (21, Cond.selects RX3 yX3_shared yX3_shared), (22, Cond.selects RX3 yX3_codeNow yX3_codeNow), (23, Cond.selects RX3 yX3_isBeyond yX3_isBeyond), (24, Cond.selects RX3 yX3_sumNow yX3_sumNow), (25, Cond.selects RX3 yX3_ruledAll yX3_ruledAll), (26, Cond.selects RX3 yX3_writeAll yX3_writeAll), (27, Cond.selects RX3 yX3_refused yX3_refused), (28, Cond.selects RX3 yX3_refusedIf yX3_refusedIf), (29, Cond.selects RX3 yX3_houseNow yX3_houseNow), (30, Cond.selects RX3 yX3_beginNow yX3_beginNow), (31, Cond.selects RX3 yX3_add_ yX3_add_), (32, Cond.initialized RL), (33, Cond.initialized RX1), (34, Cond.initialized RX0), (35, Cond.initialized RX3), (36, Cond.initialized RX2), (40, Cond.initialized "java/lang/IndexOutOfBoundsException"), (41, Cond.initialized "java/lang/IllegalArgumentException"), (42, Cond.initialized RJ5), (43, Cond.initialized RJ4), (44, Cond.initialized RJ0), (46, Cond.initialized RJ8), (47, Cond.initialized RJ9), (47, Cond.initialized "java/lang/Math"), (48, Cond.initialized RJ7), (49, Cond.initialized "java/lang/System"), (50, Cond.initialized RJ1), (52, Cond.initialized RJ6), (53, Cond.classLink RL 8 RX1), (54, Cond.instantiable RX1 4), (55, Cond.methodLink RL 159 yX1_init), (56, Cond.instanceMethod yX1_init), (58, Cond.methodLink RX1 1 objectInit), (59, Cond.instanceMethod objectInit), (61, Cond.classLink RX1 9 RX0), (63, Cond.instantiable RX0 4), (64, Cond.methodLink RX1 26 yX0_init), (65, Cond.instanceMethod yX0_init), (67, Cond.methodLink RX0 3 objectInit), (68, Cond.fieldLink RX0 9 "Twinrow$RowList" "row" "I"), (69, Cond.fieldLink RX1 158 "Twinrow$RowList" "row" "I"), (70, Cond.fieldLink RX0 15 "Twinrow$RowList" "values" "[I"), (71, Cond.fieldLink RX1 37 "Twinrow$RowList" "values" "[I"), (72, Cond.fieldLink RX0 19 "Twinrow$RowList" "begin" "I"), (73, Cond.fieldLink RX1 161 "Twinrow$RowList" "begin" "I"), (74, Cond.fieldLink RX0 22 "Twinrow$RowList" "length" "I"), (75, Cond.fieldLink RX1 68 "Twinrow$RowList" "length" "I"), (85, Cond.arrayClass .int), (86, Cond.fieldLink RX1 11 "Twinrow" "lists" "[LTwinrow$RowList;"), (87, Cond.fieldLink RX1 15 "Twinrow" "spare" "[I"), (88, Cond.fieldLink RX1 19 "Twinrow" "knocks" "I"), (89, Cond.fieldLink RX1 23 "Twinrow" "refusals" "I"), (99, Cond.methodLink RL 294 yX1_knock), (100, Cond.instanceMethod yX1_knock), (101, Cond.selects RX1 yX1_knock yX1_knock), (103, Cond.methodLink RL 307 yX1_isSound), (104, Cond.instanceMethod yX1_isSound), (105, Cond.selects RX1 yX1_isSound yX1_isSound), (107, Cond.methodLink RX1 155 yX1_listOrNull), (109, Cond.instanceMethod yX1_listOrNull), (111, Cond.methodLink RX1 164 yX1_isSoundList), (113, Cond.instanceMethod yX1_isSoundList), (115, Cond.methodLink RX1 251 yX1_isInRow), (116, Cond.static yX1_isInRow), (118, Cond.methodLink RX1 59 yX0_read), (119, Cond.instanceMethod yX0_read), (120, Cond.selects RX0 yX0_read yX0_read), (122, Cond.methodLink RX1 102 yX1_codeOf), (123, Cond.static yX1_codeOf), (125, Cond.methodLink RX1 115 yX1_numberOf), (126, Cond.static yX1_numberOf), (128, Cond.methodLink RX1 254 yX1_isEqualToOwn), (130, Cond.instanceMethod yX1_isEqualToOwn), (132, Cond.methodLink RX1 55 yX0_write), (133, Cond.instanceMethod yX0_write), (134, Cond.selects RX0 yX0_write yX0_write), (136, Cond.methodLink RX0 25 yX0_read), (137, Cond.methodLink RX1 98 yX1_areSame), (138, Cond.static yX1_areSame), (140, Cond.methodLink RX1 94 yX1_hasAllFrom)]
theorem kwC_0 : ∀ q ∈ kwB_0, lw_t2[q.1]? = some q.2 ∧ goodWord q.2 = true := by decide +kernel
theorem kw_67 : Cond.selects RX1 yX1_listOrNull yX1_listOrNull ∈ w0 := w0_b (kwC_0 (0, Cond.selects RX1 yX1_listOrNull yX1_listOrNull) (List.mem_of_getElem? (i := 0) rfl))
theorem kw_84 : Cond.selects RX1 yX1_isSoundList yX1_isSoundList ∈ w0 := w0_b (kwC_0 (1, Cond.selects RX1 yX1_isSoundList yX1_isSoundList) (List.mem_of_getElem? (i := 1) rfl))
theorem kw_74 : Cond.selects RX1 yX1_isEqualToOwn yX1_isEqualToOwn ∈ w0 := w0_b (kwC_0 (2, Cond.selects RX1 yX1_isEqualToOwn yX1_isEqualToOwn) (List.mem_of_getElem? (i := 2) rfl))
theorem kw_127 : Cond.selects RX1 yX1_partsThere yX1_partsThere ∈ w0 := w0_b (kwC_0 (4, Cond.selects RX1 yX1_partsThere yX1_partsThere) (List.mem_of_getElem? (i := 3) rfl))
theorem kw_131 : Cond.selects RX1 yX1_placesOfRows yX1_placesOfRows ∈ w0 := w0_b (kwC_0 (5, Cond.selects RX1 yX1_placesOfRows yX1_placesOfRows) (List.mem_of_getElem? (i := 4) rfl))
theorem kw_123 : Cond.selects RX1 yX1_twinAt yX1_twinAt ∈ w0 := w0_b (kwC_0 (6, Cond.selects RX1 yX1_twinAt yX1_twinAt) (List.mem_of_getElem? (i := 5) rfl))
theorem kw_143 : Cond.selects RX1 yX1_mixedWithRow yX1_mixedWithRow ∈ w0 := w0_b (kwC_0 (7, Cond.selects RX1 yX1_mixedWithRow yX1_mixedWithRow) (List.mem_of_getElem? (i := 6) rfl))
theorem kw_139 : Cond.selects RX1 yX1_mixedWithList yX1_mixedWithList ∈ w0 := w0_b (kwC_0 (8, Cond.selects RX1 yX1_mixedWithList yX1_mixedWithList) (List.mem_of_getElem? (i := 7) rfl))
theorem kw_96 : Cond.selects RX1 yX1_listAt yX1_listAt ∈ w0 := w0_b (kwC_0 (9, Cond.selects RX1 yX1_listAt yX1_listAt) (List.mem_of_getElem? (i := 8) rfl))
theorem kw_668 : Cond.selects RX1 yX1_dropPartsOf yX1_dropPartsOf ∈ w0 := w0_b (kwC_0 (10, Cond.selects RX1 yX1_dropPartsOf yX1_dropPartsOf) (List.mem_of_getElem? (i := 9) rfl))
theorem kw_204 : Cond.selects RX1 yX1_refuseIf yX1_refuseIf ∈ w0 := w0_b (kwC_0 (11, Cond.selects RX1 yX1_refuseIf yX1_refuseIf) (List.mem_of_getElem? (i := 10) rfl))
theorem kw_192 : Cond.selects RX3 yX3_fails yX3_fails ∈ w0 := w0_b (kwC_0 (12, Cond.selects RX3 yX3_fails yX3_fails) (List.mem_of_getElem? (i := 11) rfl))
theorem kw_659 : Cond.selects RX3 yX3_isNoRowPlace yX3_isNoRowPlace ∈ w0 := w0_b (kwC_0 (13, Cond.selects RX3 yX3_isNoRowPlace yX3_isNoRowPlace) (List.mem_of_getElem? (i := 12) rfl))
theorem kw_213 : Cond.selects RX3 yX3_isNoList yX3_isNoList ∈ w0 := w0_b (kwC_0 (14, Cond.selects RX3 yX3_isNoList yX3_isNoList) (List.mem_of_getElem? (i := 13) rfl))
theorem kw_221 : Cond.selects RX3 yX3_isNoPlace yX3_isNoPlace ∈ w0 := w0_b (kwC_0 (15, Cond.selects RX3 yX3_isNoPlace yX3_isNoPlace) (List.mem_of_getElem? (i := 14) rfl))
theorem kw_154 : Cond.selects RX3 yX3_value yX3_value ∈ w0 := w0_b (kwC_0 (16, Cond.selects RX3 yX3_value yX3_value) (List.mem_of_getElem? (i := 15) rfl))
theorem kw_310 : Cond.selects RX3 yX3_write yX3_write ∈ w0 := w0_b (kwC_0 (17, Cond.selects RX3 yX3_write yX3_write) (List.mem_of_getElem? (i := 16) rfl))
theorem kw_621 : Cond.selects RX3 yX3_line yX3_line ∈ w0 := w0_b (kwC_0 (18, Cond.selects RX3 yX3_line yX3_line) (List.mem_of_getElem? (i := 17) rfl))
theorem kw_159 : Cond.selects RX3 yX3_all yX3_all ∈ w0 := w0_b (kwC_0 (19, Cond.selects RX3 yX3_all yX3_all) (List.mem_of_getElem? (i := 18) rfl))
theorem kw_259 : Cond.selects RX3 yX3_isNoPair yX3_isNoPair ∈ w0 := w0_b (kwC_0 (20, Cond.selects RX3 yX3_isNoPair yX3_isNoPair) (List.mem_of_getElem? (i := 19) rfl))
theorem kw_263 : Cond.selects RX3 yX3_shared yX3_shared ∈ w0 := w0_b (kwC_0 (21, Cond.selects RX3 yX3_shared yX3_shared) (List.mem_of_getElem? (i := 20) rfl))
theorem kw_176 : Cond.selects RX3 yX3_codeNow yX3_codeNow ∈ w0 := w0_b (kwC_0 (22, Cond.selects RX3 yX3_codeNow yX3_codeNow) (List.mem_of_getElem? (i := 21) rfl))
theorem kw_293 : Cond.selects RX3 yX3_isBeyond yX3_isBeyond ∈ w0 := w0_b (kwC_0 (23, Cond.selects RX3 yX3_isBeyond yX3_isBeyond) (List.mem_of_getElem? (i := 22) rfl))
theorem kw_180 : Cond.selects RX3 yX3_sumNow yX3_sumNow ∈ w0 := w0_b (kwC_0 (24, Cond.selects RX3 yX3_sumNow yX3_sumNow) (List.mem_of_getElem? (i := 23) rfl))
theorem kw_392 : Cond.selects RX3 yX3_ruledAll yX3_ruledAll ∈ w0 := w0_b (kwC_0 (25, Cond.selects RX3 yX3_ruledAll yX3_ruledAll) (List.mem_of_getElem? (i := 24) rfl))
theorem kw_351 : Cond.selects RX3 yX3_writeAll yX3_writeAll ∈ w0 := w0_b (kwC_0 (26, Cond.selects RX3 yX3_writeAll yX3_writeAll) (List.mem_of_getElem? (i := 25) rfl))
theorem kw_217 : Cond.selects RX3 yX3_refused yX3_refused ∈ w0 := w0_b (kwC_0 (27, Cond.selects RX3 yX3_refused yX3_refused) (List.mem_of_getElem? (i := 26) rfl))
theorem kw_229 : Cond.selects RX3 yX3_refusedIf yX3_refusedIf ∈ w0 := w0_b (kwC_0 (28, Cond.selects RX3 yX3_refusedIf yX3_refusedIf) (List.mem_of_getElem? (i := 27) rfl))
theorem kw_184 : Cond.selects RX3 yX3_houseNow yX3_houseNow ∈ w0 := w0_b (kwC_0 (29, Cond.selects RX3 yX3_houseNow yX3_houseNow) (List.mem_of_getElem? (i := 28) rfl))
theorem kw_172 : Cond.selects RX3 yX3_beginNow yX3_beginNow ∈ w0 := w0_b (kwC_0 (30, Cond.selects RX3 yX3_beginNow yX3_beginNow) (List.mem_of_getElem? (i := 29) rfl))
theorem kw_168 : Cond.selects RX3 yX3_add_ yX3_add_ ∈ w0 := w0_b (kwC_0 (31, Cond.selects RX3 yX3_add_ yX3_add_) (List.mem_of_getElem? (i := 30) rfl))
theorem kw_680 : Cond.initialized RL ∈ w0 := w0_b (kwC_0 (32, Cond.initialized RL) (List.mem_of_getElem? (i := 31) rfl))
theorem kw_33 : Cond.initialized RX1 ∈ w0 := w0_b (kwC_0 (33, Cond.initialized RX1) (List.mem_of_getElem? (i := 32) rfl))
theorem kw_10 : Cond.initialized RX0 ∈ w0 := w0_b (kwC_0 (34, Cond.initialized RX0) (List.mem_of_getElem? (i := 33) rfl))
theorem kw_155 : Cond.initialized RX3 ∈ w0 := w0_b (kwC_0 (35, Cond.initialized RX3) (List.mem_of_getElem? (i := 34) rfl))
theorem kw_1005 : Cond.initialized RX2 ∈ w0 := w0_b (kwC_0 (36, Cond.initialized RX2) (List.mem_of_getElem? (i := 35) rfl))
theorem kw_92 : Cond.initialized "java/lang/IndexOutOfBoundsException" ∈ w0 := w0_b (kwC_0 (40, Cond.initialized "java/lang/IndexOutOfBoundsException") (List.mem_of_getElem? (i := 36) rfl))
theorem kw_87 : Cond.initialized "java/lang/IllegalArgumentException" ∈ w0 := w0_b (kwC_0 (41, Cond.initialized "java/lang/IllegalArgumentException") (List.mem_of_getElem? (i := 37) rfl))
theorem kw_404 : Cond.initialized RJ5 ∈ w0 := w0_b (kwC_0 (42, Cond.initialized RJ5) (List.mem_of_getElem? (i := 38) rfl))
theorem kw_447 : Cond.initialized RJ4 ∈ w0 := w0_b (kwC_0 (43, Cond.initialized RJ4) (List.mem_of_getElem? (i := 39) rfl))
theorem kw_456 : Cond.initialized RJ0 ∈ w0 := w0_b (kwC_0 (44, Cond.initialized RJ0) (List.mem_of_getElem? (i := 40) rfl))
theorem kw_469 : Cond.initialized RJ8 ∈ w0 := w0_b (kwC_0 (46, Cond.initialized RJ8) (List.mem_of_getElem? (i := 41) rfl))
theorem kw_314 : Cond.initialized RJ9 ∈ w0 := w0_b (kwC_0 (47, Cond.initialized RJ9) (List.mem_of_getElem? (i := 42) rfl))
theorem kw_354 : Cond.initialized "java/lang/Math" ∈ w0 := w0_b (kwC_0 (47, Cond.initialized "java/lang/Math") (List.mem_of_getElem? (i := 43) rfl))
theorem kw_416 : Cond.initialized RJ7 ∈ w0 := w0_b (kwC_0 (48, Cond.initialized RJ7) (List.mem_of_getElem? (i := 44) rfl))
theorem kw_421 : Cond.initialized "java/lang/System" ∈ w0 := w0_b (kwC_0 (49, Cond.initialized "java/lang/System") (List.mem_of_getElem? (i := 45) rfl))
theorem kw_500 : Cond.initialized RJ1 ∈ w0 := w0_b (kwC_0 (50, Cond.initialized RJ1) (List.mem_of_getElem? (i := 46) rfl))
theorem kw_329 : Cond.initialized RJ6 ∈ w0 := w0_b (kwC_0 (52, Cond.initialized RJ6) (List.mem_of_getElem? (i := 47) rfl))
theorem kw_993 : Cond.classLink RL 8 RX1 ∈ w0 := w0_b (kwC_0 (53, Cond.classLink RL 8 RX1) (List.mem_of_getElem? (i := 48) rfl))
theorem kw_994 : Cond.instantiable RX1 4 ∈ w0 := w0_b (kwC_0 (54, Cond.instantiable RX1 4) (List.mem_of_getElem? (i := 49) rfl))
theorem kw_996 : Cond.methodLink RL 159 yX1_init ∈ w0 := w0_b (kwC_0 (55, Cond.methodLink RL 159 yX1_init) (List.mem_of_getElem? (i := 50) rfl))
theorem kw_997 : Cond.instanceMethod yX1_init ∈ w0 := w0_b (kwC_0 (56, Cond.instanceMethod yX1_init) (List.mem_of_getElem? (i := 51) rfl))
theorem kw_15 : Cond.methodLink RX1 1 objectInit ∈ w0 := w0_b (kwC_0 (58, Cond.methodLink RX1 1 objectInit) (List.mem_of_getElem? (i := 52) rfl))
theorem kw_1 : Cond.instanceMethod objectInit ∈ w0 := w0_b (kwC_0 (59, Cond.instanceMethod objectInit) (List.mem_of_getElem? (i := 53) rfl))
theorem kw_8 : Cond.classLink RX1 9 RX0 ∈ w0 := w0_b (kwC_0 (61, Cond.classLink RX1 9 RX0) (List.mem_of_getElem? (i := 54) rfl))
theorem kw_9 : Cond.instantiable RX0 4 ∈ w0 := w0_b (kwC_0 (63, Cond.instantiable RX0 4) (List.mem_of_getElem? (i := 55) rfl))
theorem kw_13 : Cond.methodLink RX1 26 yX0_init ∈ w0 := w0_b (kwC_0 (64, Cond.methodLink RX1 26 yX0_init) (List.mem_of_getElem? (i := 56) rfl))
theorem kw_14 : Cond.instanceMethod yX0_init ∈ w0 := w0_b (kwC_0 (65, Cond.instanceMethod yX0_init) (List.mem_of_getElem? (i := 57) rfl))
theorem kw_0 : Cond.methodLink RX0 3 objectInit ∈ w0 := w0_b (kwC_0 (67, Cond.methodLink RX0 3 objectInit) (List.mem_of_getElem? (i := 58) rfl))
theorem kw_3 : Cond.fieldLink RX0 9 "Twinrow$RowList" "row" "I" ∈ w0 := w0_b (kwC_0 (68, Cond.fieldLink RX0 9 "Twinrow$RowList" "row" "I") (List.mem_of_getElem? (i := 59) rfl))
theorem kw_63 : Cond.fieldLink RX1 158 "Twinrow$RowList" "row" "I" ∈ w0 := w0_b (kwC_0 (69, Cond.fieldLink RX1 158 "Twinrow$RowList" "row" "I") (List.mem_of_getElem? (i := 60) rfl))
theorem kw_4 : Cond.fieldLink RX0 15 "Twinrow$RowList" "values" "[I" ∈ w0 := w0_b (kwC_0 (70, Cond.fieldLink RX0 15 "Twinrow$RowList" "values" "[I") (List.mem_of_getElem? (i := 61) rfl))
theorem kw_664 : Cond.fieldLink RX1 37 "Twinrow$RowList" "values" "[I" ∈ w0 := w0_b (kwC_0 (71, Cond.fieldLink RX1 37 "Twinrow$RowList" "values" "[I") (List.mem_of_getElem? (i := 62) rfl))
theorem kw_5 : Cond.fieldLink RX0 19 "Twinrow$RowList" "begin" "I" ∈ w0 := w0_b (kwC_0 (72, Cond.fieldLink RX0 19 "Twinrow$RowList" "begin" "I") (List.mem_of_getElem? (i := 63) rfl))
theorem kw_38 : Cond.fieldLink RX1 161 "Twinrow$RowList" "begin" "I" ∈ w0 := w0_b (kwC_0 (73, Cond.fieldLink RX1 161 "Twinrow$RowList" "begin" "I") (List.mem_of_getElem? (i := 64) rfl))
theorem kw_6 : Cond.fieldLink RX0 22 "Twinrow$RowList" "length" "I" ∈ w0 := w0_b (kwC_0 (74, Cond.fieldLink RX0 22 "Twinrow$RowList" "length" "I") (List.mem_of_getElem? (i := 65) rfl))
theorem kw_34 : Cond.fieldLink RX1 68 "Twinrow$RowList" "length" "I" ∈ w0 := w0_b (kwC_0 (75, Cond.fieldLink RX1 68 "Twinrow$RowList" "length" "I") (List.mem_of_getElem? (i := 66) rfl))
theorem kw_11 : Cond.arrayClass .int ∈ w0 := w0_b (kwC_0 (85, Cond.arrayClass .int) (List.mem_of_getElem? (i := 67) rfl))
theorem kw_7 : Cond.fieldLink RX1 11 "Twinrow" "lists" "[LTwinrow$RowList;" ∈ w0 := w0_b (kwC_0 (86, Cond.fieldLink RX1 11 "Twinrow" "lists" "[LTwinrow$RowList;") (List.mem_of_getElem? (i := 68) rfl))
theorem kw_16 : Cond.fieldLink RX1 15 "Twinrow" "spare" "[I" ∈ w0 := w0_b (kwC_0 (87, Cond.fieldLink RX1 15 "Twinrow" "spare" "[I") (List.mem_of_getElem? (i := 69) rfl))
theorem kw_17 : Cond.fieldLink RX1 19 "Twinrow" "knocks" "I" ∈ w0 := w0_b (kwC_0 (88, Cond.fieldLink RX1 19 "Twinrow" "knocks" "I") (List.mem_of_getElem? (i := 70) rfl))
theorem kw_18 : Cond.fieldLink RX1 23 "Twinrow" "refusals" "I" ∈ w0 := w0_b (kwC_0 (89, Cond.fieldLink RX1 23 "Twinrow" "refusals" "I") (List.mem_of_getElem? (i := 71) rfl))
theorem kw_952 : Cond.methodLink RL 294 yX1_knock ∈ w0 := w0_b (kwC_0 (99, Cond.methodLink RL 294 yX1_knock) (List.mem_of_getElem? (i := 72) rfl))
theorem kw_953 : Cond.instanceMethod yX1_knock ∈ w0 := w0_b (kwC_0 (100, Cond.instanceMethod yX1_knock) (List.mem_of_getElem? (i := 73) rfl))
theorem kw_954 : Cond.selects RX1 yX1_knock yX1_knock ∈ w0 := w0_b (kwC_0 (101, Cond.selects RX1 yX1_knock yX1_knock) (List.mem_of_getElem? (i := 74) rfl))
theorem kw_980 : Cond.methodLink RL 307 yX1_isSound ∈ w0 := w0_b (kwC_0 (103, Cond.methodLink RL 307 yX1_isSound) (List.mem_of_getElem? (i := 75) rfl))
theorem kw_134 : Cond.instanceMethod yX1_isSound ∈ w0 := w0_b (kwC_0 (104, Cond.instanceMethod yX1_isSound) (List.mem_of_getElem? (i := 76) rfl))
theorem kw_135 : Cond.selects RX1 yX1_isSound yX1_isSound ∈ w0 := w0_b (kwC_0 (105, Cond.selects RX1 yX1_isSound yX1_isSound) (List.mem_of_getElem? (i := 77) rfl))
theorem kw_65 : Cond.methodLink RX1 155 yX1_listOrNull ∈ w0 := w0_b (kwC_0 (107, Cond.methodLink RX1 155 yX1_listOrNull) (List.mem_of_getElem? (i := 78) rfl))
theorem kw_66 : Cond.instanceMethod yX1_listOrNull ∈ w0 := w0_b (kwC_0 (109, Cond.instanceMethod yX1_listOrNull) (List.mem_of_getElem? (i := 79) rfl))
theorem kw_82 : Cond.methodLink RX1 164 yX1_isSoundList ∈ w0 := w0_b (kwC_0 (111, Cond.methodLink RX1 164 yX1_isSoundList) (List.mem_of_getElem? (i := 80) rfl))
theorem kw_83 : Cond.instanceMethod yX1_isSoundList ∈ w0 := w0_b (kwC_0 (113, Cond.instanceMethod yX1_isSoundList) (List.mem_of_getElem? (i := 81) rfl))
theorem kw_69 : Cond.methodLink RX1 251 yX1_isInRow ∈ w0 := w0_b (kwC_0 (115, Cond.methodLink RX1 251 yX1_isInRow) (List.mem_of_getElem? (i := 82) rfl))
theorem kw_70 : Cond.static yX1_isInRow ∈ w0 := w0_b (kwC_0 (116, Cond.static yX1_isInRow) (List.mem_of_getElem? (i := 83) rfl))
theorem kw_27 : Cond.methodLink RX1 59 yX0_read ∈ w0 := w0_b (kwC_0 (118, Cond.methodLink RX1 59 yX0_read) (List.mem_of_getElem? (i := 84) rfl))
theorem kw_28 : Cond.instanceMethod yX0_read ∈ w0 := w0_b (kwC_0 (119, Cond.instanceMethod yX0_read) (List.mem_of_getElem? (i := 85) rfl))
theorem kw_29 : Cond.selects RX0 yX0_read yX0_read ∈ w0 := w0_b (kwC_0 (120, Cond.selects RX0 yX0_read yX0_read) (List.mem_of_getElem? (i := 86) rfl))
theorem kw_36 : Cond.methodLink RX1 102 yX1_codeOf ∈ w0 := w0_b (kwC_0 (122, Cond.methodLink RX1 102 yX1_codeOf) (List.mem_of_getElem? (i := 87) rfl))
theorem kw_37 : Cond.static yX1_codeOf ∈ w0 := w0_b (kwC_0 (123, Cond.static yX1_codeOf) (List.mem_of_getElem? (i := 88) rfl))
theorem kw_31 : Cond.methodLink RX1 115 yX1_numberOf ∈ w0 := w0_b (kwC_0 (125, Cond.methodLink RX1 115 yX1_numberOf) (List.mem_of_getElem? (i := 89) rfl))
theorem kw_32 : Cond.static yX1_numberOf ∈ w0 := w0_b (kwC_0 (126, Cond.static yX1_numberOf) (List.mem_of_getElem? (i := 90) rfl))
theorem kw_72 : Cond.methodLink RX1 254 yX1_isEqualToOwn ∈ w0 := w0_b (kwC_0 (128, Cond.methodLink RX1 254 yX1_isEqualToOwn) (List.mem_of_getElem? (i := 91) rfl))
theorem kw_73 : Cond.instanceMethod yX1_isEqualToOwn ∈ w0 := w0_b (kwC_0 (130, Cond.instanceMethod yX1_isEqualToOwn) (List.mem_of_getElem? (i := 92) rfl))
theorem kw_47 : Cond.methodLink RX1 55 yX0_write ∈ w0 := w0_b (kwC_0 (132, Cond.methodLink RX1 55 yX0_write) (List.mem_of_getElem? (i := 93) rfl))
theorem kw_48 : Cond.instanceMethod yX0_write ∈ w0 := w0_b (kwC_0 (133, Cond.instanceMethod yX0_write) (List.mem_of_getElem? (i := 94) rfl))
theorem kw_49 : Cond.selects RX0 yX0_write yX0_write ∈ w0 := w0_b (kwC_0 (134, Cond.selects RX0 yX0_write yX0_write) (List.mem_of_getElem? (i := 95) rfl))
theorem kw_42 : Cond.methodLink RX0 25 yX0_read ∈ w0 := w0_b (kwC_0 (136, Cond.methodLink RX0 25 yX0_read) (List.mem_of_getElem? (i := 96) rfl))
theorem kw_44 : Cond.methodLink RX1 98 yX1_areSame ∈ w0 := w0_b (kwC_0 (137, Cond.methodLink RX1 98 yX1_areSame) (List.mem_of_getElem? (i := 97) rfl))
theorem kw_45 : Cond.static yX1_areSame ∈ w0 := w0_b (kwC_0 (138, Cond.static yX1_areSame) (List.mem_of_getElem? (i := 98) rfl))
theorem kw_40 : Cond.methodLink RX1 94 yX1_hasAllFrom ∈ w0 := w0_b (kwC_0 (140, Cond.methodLink RX1 94 yX1_hasAllFrom) (List.mem_of_getElem? (i := 99) rfl))
def kwB_1 : List (Nat × Cond) := [(141, Cond.static yX1_hasAllFrom), (143, Cond.methodLink RX1 257 yX1_isSameBothWays), (144, Cond.static yX1_isSameBothWays), (146, Cond.methodLink RX1 213 yX1_placeAfter), (147, Cond.static yX1_placeAfter), (149, Cond.methodLink RX1 260 yX1_areFirstsAndLasts), (150, Cond.static yX1_areFirstsAndLasts), (152, Cond.methodLink RX1 79 yX1_firstPlace), (153, Cond.static yX1_firstPlace), (155, Cond.methodLink RX1 83 yX1_lastPlace), (156, Cond.static yX1_lastPlace), (158, Cond.methodLink RX1 199 yX0_isPlace), (159, Cond.instanceMethod yX0_isPlace), (160, Cond.selects RX0 yX0_isPlace yX0_isPlace), (162, Cond.methodLink RL 312 yX1_digest), (163, Cond.instanceMethod yX1_digest), (164, Cond.selects RX1 yX1_digest yX1_digest), (166, Cond.constantLong RX1 168 (7778)), (167, Cond.methodLink RX1 170 yX1_house), (168, Cond.instanceMethod yX1_house), (169, Cond.selects RX1 yX1_house yX1_house), (171, Cond.methodLink RX1 33 yX1_checkNumber), (172, Cond.static yX1_checkNumber), (174, Cond.classLink RX1 205 "java/lang/IllegalArgumentException"), (240, Cond.arrayClass .byte), (241, Cond.methodLink RX1 148 yX1_partsThere), (243, Cond.instanceMethod yX1_partsThere), (245, Cond.methodLink RX1 152 yX1_placesOfRows), (247, Cond.instanceMethod yX1_placesOfRows), (249, Cond.methodLink RX1 29 yX1_twinAt), (251, Cond.instanceMethod yX1_twinAt), (253, Cond.classLink RX1 188 "java/lang/IndexOutOfBoundsException"), (269, Cond.methodLink RX1 173 yX1_mixed), (270, Cond.static yX1_mixed), (272, Cond.constantLong RX1 263 (31)), (273, Cond.methodLink RX1 177 yX1_mixedWithRow), (275, Cond.instanceMethod yX1_mixedWithRow), (277, Cond.methodLink RX1 181 yX1_mixedWithList), (279, Cond.instanceMethod yX1_mixedWithList), (281, Cond.methodLink RX1 265 yX1_rowOf), (282, Cond.instanceMethod yX1_rowOf), (283, Cond.selects RX1 yX1_rowOf yX1_rowOf), (285, Cond.methodLink RX1 268 yX1_begin), (286, Cond.instanceMethod yX1_begin), (287, Cond.selects RX1 yX1_begin yX1_begin), (289, Cond.methodLink RX1 270 yX1_length), (290, Cond.instanceMethod yX1_length), (291, Cond.selects RX1 yX1_length yX1_length), (293, Cond.methodLink RX1 65 yX1_listAt), (295, Cond.instanceMethod yX1_listAt), (298, Cond.methodLink RX1 272 yX1_code), (299, Cond.instanceMethod yX1_code), (300, Cond.selects RX1 yX1_code yX1_code), (302, Cond.methodLink RX1 275 yX1_sum), (303, Cond.instanceMethod yX1_sum), (304, Cond.selects RX1 yX1_sum yX1_sum), (306, Cond.methodLink RX1 184 yX1_isSound), (307, Cond.classLink RL 14 RX2), (308, Cond.instantiable RX2 2), (310, Cond.instanceMethod yX2_init), (312, Cond.methodLink RX2 1 objectInit), (320, Cond.methodLink RL 164 yL_lay), (321, Cond.static yL_lay), (323, Cond.classLink RL 19 "java/lang/IndexOutOfBoundsException"), (324, Cond.classLink RL 21 "java/lang/IllegalArgumentException"), (325, Cond.methodLink RL 7 yX1_lay), (326, Cond.instanceMethod yX1_lay), (327, Cond.selects RX1 yX1_lay yX1_lay), (329, Cond.methodLink RX1 40 yX1_writeAll), (330, Cond.static yX1_writeAll), (332, Cond.methodLink RX1 44 yX1_dropPartsOf), (334, Cond.instanceMethod yX1_dropPartsOf), (336, Cond.methodLink RL 170 yL_put), (337, Cond.static yL_put), (339, Cond.methodLink RL 23 yX1_put), (340, Cond.instanceMethod yX1_put), (341, Cond.selects RX1 yX1_put yX1_put), (343, Cond.methodLink RX1 48 yX1_checkPlace), (344, Cond.static yX1_checkPlace), (347, Cond.methodLink RX1 51 yX1_checkValue), (348, Cond.static yX1_checkValue), (350, Cond.methodLink RL 178 yL_at), (351, Cond.static yL_at), (353, Cond.methodLink RL 27 yX1_at), (354, Cond.instanceMethod yX1_at), (355, Cond.selects RX1 yX1_at yX1_at), (357, Cond.methodLink RL 181 yL_part), (358, Cond.static yL_part), (360, Cond.methodLink RL 30 yX1_part), (361, Cond.instanceMethod yX1_part), (362, Cond.selects RX1 yX1_part yX1_part), (364, Cond.methodLink RX1 62 yX1_checkPart), (365, Cond.static yX1_checkPart), (368, Cond.methodLink RX1 71 yX0_pieceOf), (369, Cond.instanceMethod yX0_pieceOf), (370, Cond.selects RX0 yX0_pieceOf yX0_pieceOf), (372, Cond.classLink RX0 10 RX0), (373, Cond.methodLink RX0 33 yX0_init), (374, Cond.methodLink RL 185 yL_set), (375, Cond.static yL_set)]
theorem kwC_1 : ∀ q ∈ kwB_1, lw_t2[q.1]? = some q.2 ∧ goodWord q.2 = true := by decide +kernel
theorem kw_41 : Cond.static yX1_hasAllFrom ∈ w0 := w0_b (kwC_1 (141, Cond.static yX1_hasAllFrom) (List.mem_of_getElem? (i := 0) rfl))
theorem kw_76 : Cond.methodLink RX1 257 yX1_isSameBothWays ∈ w0 := w0_b (kwC_1 (143, Cond.methodLink RX1 257 yX1_isSameBothWays) (List.mem_of_getElem? (i := 1) rfl))
theorem kw_77 : Cond.static yX1_isSameBothWays ∈ w0 := w0_b (kwC_1 (144, Cond.static yX1_isSameBothWays) (List.mem_of_getElem? (i := 2) rfl))
theorem kw_51 : Cond.methodLink RX1 213 yX1_placeAfter ∈ w0 := w0_b (kwC_1 (146, Cond.methodLink RX1 213 yX1_placeAfter) (List.mem_of_getElem? (i := 3) rfl))
theorem kw_52 : Cond.static yX1_placeAfter ∈ w0 := w0_b (kwC_1 (147, Cond.static yX1_placeAfter) (List.mem_of_getElem? (i := 4) rfl))
theorem kw_79 : Cond.methodLink RX1 260 yX1_areFirstsAndLasts ∈ w0 := w0_b (kwC_1 (149, Cond.methodLink RX1 260 yX1_areFirstsAndLasts) (List.mem_of_getElem? (i := 5) rfl))
theorem kw_80 : Cond.static yX1_areFirstsAndLasts ∈ w0 := w0_b (kwC_1 (150, Cond.static yX1_areFirstsAndLasts) (List.mem_of_getElem? (i := 6) rfl))
theorem kw_54 : Cond.methodLink RX1 79 yX1_firstPlace ∈ w0 := w0_b (kwC_1 (152, Cond.methodLink RX1 79 yX1_firstPlace) (List.mem_of_getElem? (i := 7) rfl))
theorem kw_55 : Cond.static yX1_firstPlace ∈ w0 := w0_b (kwC_1 (153, Cond.static yX1_firstPlace) (List.mem_of_getElem? (i := 8) rfl))
theorem kw_57 : Cond.methodLink RX1 83 yX1_lastPlace ∈ w0 := w0_b (kwC_1 (155, Cond.methodLink RX1 83 yX1_lastPlace) (List.mem_of_getElem? (i := 9) rfl))
theorem kw_58 : Cond.static yX1_lastPlace ∈ w0 := w0_b (kwC_1 (156, Cond.static yX1_lastPlace) (List.mem_of_getElem? (i := 10) rfl))
theorem kw_60 : Cond.methodLink RX1 199 yX0_isPlace ∈ w0 := w0_b (kwC_1 (158, Cond.methodLink RX1 199 yX0_isPlace) (List.mem_of_getElem? (i := 11) rfl))
theorem kw_61 : Cond.instanceMethod yX0_isPlace ∈ w0 := w0_b (kwC_1 (159, Cond.instanceMethod yX0_isPlace) (List.mem_of_getElem? (i := 12) rfl))
theorem kw_62 : Cond.selects RX0 yX0_isPlace yX0_isPlace ∈ w0 := w0_b (kwC_1 (160, Cond.selects RX0 yX0_isPlace yX0_isPlace) (List.mem_of_getElem? (i := 13) rfl))
theorem kw_986 : Cond.methodLink RL 312 yX1_digest ∈ w0 := w0_b (kwC_1 (162, Cond.methodLink RL 312 yX1_digest) (List.mem_of_getElem? (i := 14) rfl))
theorem kw_987 : Cond.instanceMethod yX1_digest ∈ w0 := w0_b (kwC_1 (163, Cond.instanceMethod yX1_digest) (List.mem_of_getElem? (i := 15) rfl))
theorem kw_988 : Cond.selects RX1 yX1_digest yX1_digest ∈ w0 := w0_b (kwC_1 (164, Cond.selects RX1 yX1_digest yX1_digest) (List.mem_of_getElem? (i := 16) rfl))
theorem kw_148 : Cond.constantLong RX1 168 (7778) ∈ w0 := w0_b (kwC_1 (166, Cond.constantLong RX1 168 (7778)) (List.mem_of_getElem? (i := 17) rfl))
theorem kw_145 : Cond.methodLink RX1 170 yX1_house ∈ w0 := w0_b (kwC_1 (167, Cond.methodLink RX1 170 yX1_house) (List.mem_of_getElem? (i := 18) rfl))
theorem kw_146 : Cond.instanceMethod yX1_house ∈ w0 := w0_b (kwC_1 (168, Cond.instanceMethod yX1_house) (List.mem_of_getElem? (i := 19) rfl))
theorem kw_147 : Cond.selects RX1 yX1_house yX1_house ∈ w0 := w0_b (kwC_1 (169, Cond.selects RX1 yX1_house yX1_house) (List.mem_of_getElem? (i := 20) rfl))
theorem kw_89 : Cond.methodLink RX1 33 yX1_checkNumber ∈ w0 := w0_b (kwC_1 (171, Cond.methodLink RX1 33 yX1_checkNumber) (List.mem_of_getElem? (i := 21) rfl))
theorem kw_90 : Cond.static yX1_checkNumber ∈ w0 := w0_b (kwC_1 (172, Cond.static yX1_checkNumber) (List.mem_of_getElem? (i := 22) rfl))
theorem kw_86 : Cond.classLink RX1 205 "java/lang/IllegalArgumentException" ∈ w0 := w0_b (kwC_1 (174, Cond.classLink RX1 205 "java/lang/IllegalArgumentException") (List.mem_of_getElem? (i := 23) rfl))
theorem kw_400 : Cond.arrayClass .byte ∈ w0 := w0_b (kwC_1 (240, Cond.arrayClass .byte) (List.mem_of_getElem? (i := 24) rfl))
theorem kw_125 : Cond.methodLink RX1 148 yX1_partsThere ∈ w0 := w0_b (kwC_1 (241, Cond.methodLink RX1 148 yX1_partsThere) (List.mem_of_getElem? (i := 25) rfl))
theorem kw_126 : Cond.instanceMethod yX1_partsThere ∈ w0 := w0_b (kwC_1 (243, Cond.instanceMethod yX1_partsThere) (List.mem_of_getElem? (i := 26) rfl))
theorem kw_129 : Cond.methodLink RX1 152 yX1_placesOfRows ∈ w0 := w0_b (kwC_1 (245, Cond.methodLink RX1 152 yX1_placesOfRows) (List.mem_of_getElem? (i := 27) rfl))
theorem kw_130 : Cond.instanceMethod yX1_placesOfRows ∈ w0 := w0_b (kwC_1 (247, Cond.instanceMethod yX1_placesOfRows) (List.mem_of_getElem? (i := 28) rfl))
theorem kw_121 : Cond.methodLink RX1 29 yX1_twinAt ∈ w0 := w0_b (kwC_1 (249, Cond.methodLink RX1 29 yX1_twinAt) (List.mem_of_getElem? (i := 29) rfl))
theorem kw_122 : Cond.instanceMethod yX1_twinAt ∈ w0 := w0_b (kwC_1 (251, Cond.instanceMethod yX1_twinAt) (List.mem_of_getElem? (i := 30) rfl))
theorem kw_91 : Cond.classLink RX1 188 "java/lang/IndexOutOfBoundsException" ∈ w0 := w0_b (kwC_1 (253, Cond.classLink RX1 188 "java/lang/IndexOutOfBoundsException") (List.mem_of_getElem? (i := 31) rfl))
theorem kw_102 : Cond.methodLink RX1 173 yX1_mixed ∈ w0 := w0_b (kwC_1 (269, Cond.methodLink RX1 173 yX1_mixed) (List.mem_of_getElem? (i := 32) rfl))
theorem kw_103 : Cond.static yX1_mixed ∈ w0 := w0_b (kwC_1 (270, Cond.static yX1_mixed) (List.mem_of_getElem? (i := 33) rfl))
theorem kw_85 : Cond.constantLong RX1 263 (31) ∈ w0 := w0_b (kwC_1 (272, Cond.constantLong RX1 263 (31)) (List.mem_of_getElem? (i := 34) rfl))
theorem kw_141 : Cond.methodLink RX1 177 yX1_mixedWithRow ∈ w0 := w0_b (kwC_1 (273, Cond.methodLink RX1 177 yX1_mixedWithRow) (List.mem_of_getElem? (i := 35) rfl))
theorem kw_142 : Cond.instanceMethod yX1_mixedWithRow ∈ w0 := w0_b (kwC_1 (275, Cond.instanceMethod yX1_mixedWithRow) (List.mem_of_getElem? (i := 36) rfl))
theorem kw_137 : Cond.methodLink RX1 181 yX1_mixedWithList ∈ w0 := w0_b (kwC_1 (277, Cond.methodLink RX1 181 yX1_mixedWithList) (List.mem_of_getElem? (i := 37) rfl))
theorem kw_138 : Cond.instanceMethod yX1_mixedWithList ∈ w0 := w0_b (kwC_1 (279, Cond.instanceMethod yX1_mixedWithList) (List.mem_of_getElem? (i := 38) rfl))
theorem kw_98 : Cond.methodLink RX1 265 yX1_rowOf ∈ w0 := w0_b (kwC_1 (281, Cond.methodLink RX1 265 yX1_rowOf) (List.mem_of_getElem? (i := 39) rfl))
theorem kw_99 : Cond.instanceMethod yX1_rowOf ∈ w0 := w0_b (kwC_1 (282, Cond.instanceMethod yX1_rowOf) (List.mem_of_getElem? (i := 40) rfl))
theorem kw_100 : Cond.selects RX1 yX1_rowOf yX1_rowOf ∈ w0 := w0_b (kwC_1 (283, Cond.selects RX1 yX1_rowOf yX1_rowOf) (List.mem_of_getElem? (i := 41) rfl))
theorem kw_105 : Cond.methodLink RX1 268 yX1_begin ∈ w0 := w0_b (kwC_1 (285, Cond.methodLink RX1 268 yX1_begin) (List.mem_of_getElem? (i := 42) rfl))
theorem kw_106 : Cond.instanceMethod yX1_begin ∈ w0 := w0_b (kwC_1 (286, Cond.instanceMethod yX1_begin) (List.mem_of_getElem? (i := 43) rfl))
theorem kw_107 : Cond.selects RX1 yX1_begin yX1_begin ∈ w0 := w0_b (kwC_1 (287, Cond.selects RX1 yX1_begin yX1_begin) (List.mem_of_getElem? (i := 44) rfl))
theorem kw_109 : Cond.methodLink RX1 270 yX1_length ∈ w0 := w0_b (kwC_1 (289, Cond.methodLink RX1 270 yX1_length) (List.mem_of_getElem? (i := 45) rfl))
theorem kw_110 : Cond.instanceMethod yX1_length ∈ w0 := w0_b (kwC_1 (290, Cond.instanceMethod yX1_length) (List.mem_of_getElem? (i := 46) rfl))
theorem kw_111 : Cond.selects RX1 yX1_length yX1_length ∈ w0 := w0_b (kwC_1 (291, Cond.selects RX1 yX1_length yX1_length) (List.mem_of_getElem? (i := 47) rfl))
theorem kw_94 : Cond.methodLink RX1 65 yX1_listAt ∈ w0 := w0_b (kwC_1 (293, Cond.methodLink RX1 65 yX1_listAt) (List.mem_of_getElem? (i := 48) rfl))
theorem kw_95 : Cond.instanceMethod yX1_listAt ∈ w0 := w0_b (kwC_1 (295, Cond.instanceMethod yX1_listAt) (List.mem_of_getElem? (i := 49) rfl))
theorem kw_113 : Cond.methodLink RX1 272 yX1_code ∈ w0 := w0_b (kwC_1 (298, Cond.methodLink RX1 272 yX1_code) (List.mem_of_getElem? (i := 50) rfl))
theorem kw_114 : Cond.instanceMethod yX1_code ∈ w0 := w0_b (kwC_1 (299, Cond.instanceMethod yX1_code) (List.mem_of_getElem? (i := 51) rfl))
theorem kw_115 : Cond.selects RX1 yX1_code yX1_code ∈ w0 := w0_b (kwC_1 (300, Cond.selects RX1 yX1_code yX1_code) (List.mem_of_getElem? (i := 52) rfl))
theorem kw_117 : Cond.methodLink RX1 275 yX1_sum ∈ w0 := w0_b (kwC_1 (302, Cond.methodLink RX1 275 yX1_sum) (List.mem_of_getElem? (i := 53) rfl))
theorem kw_118 : Cond.instanceMethod yX1_sum ∈ w0 := w0_b (kwC_1 (303, Cond.instanceMethod yX1_sum) (List.mem_of_getElem? (i := 54) rfl))
theorem kw_119 : Cond.selects RX1 yX1_sum yX1_sum ∈ w0 := w0_b (kwC_1 (304, Cond.selects RX1 yX1_sum yX1_sum) (List.mem_of_getElem? (i := 55) rfl))
theorem kw_133 : Cond.methodLink RX1 184 yX1_isSound ∈ w0 := w0_b (kwC_1 (306, Cond.methodLink RX1 184 yX1_isSound) (List.mem_of_getElem? (i := 56) rfl))
theorem kw_1003 : Cond.classLink RL 14 RX2 ∈ w0 := w0_b (kwC_1 (307, Cond.classLink RL 14 RX2) (List.mem_of_getElem? (i := 57) rfl))
theorem kw_1004 : Cond.instantiable RX2 2 ∈ w0 := w0_b (kwC_1 (308, Cond.instantiable RX2 2) (List.mem_of_getElem? (i := 58) rfl))
theorem kw_1007 : Cond.instanceMethod yX2_init ∈ w0 := w0_b (kwC_1 (310, Cond.instanceMethod yX2_init) (List.mem_of_getElem? (i := 59) rfl))
theorem kw_25 : Cond.methodLink RX2 1 objectInit ∈ w0 := w0_b (kwC_1 (312, Cond.methodLink RX2 1 objectInit) (List.mem_of_getElem? (i := 60) rfl))
theorem kw_696 : Cond.methodLink RL 164 yL_lay ∈ w0 := w0_b (kwC_1 (320, Cond.methodLink RL 164 yL_lay) (List.mem_of_getElem? (i := 61) rfl))
theorem kw_697 : Cond.static yL_lay ∈ w0 := w0_b (kwC_1 (321, Cond.static yL_lay) (List.mem_of_getElem? (i := 62) rfl))
theorem kw_209 : Cond.classLink RL 19 "java/lang/IndexOutOfBoundsException" ∈ w0 := w0_b (kwC_1 (323, Cond.classLink RL 19 "java/lang/IndexOutOfBoundsException") (List.mem_of_getElem? (i := 63) rfl))
theorem kw_188 : Cond.classLink RL 21 "java/lang/IllegalArgumentException" ∈ w0 := w0_b (kwC_1 (324, Cond.classLink RL 21 "java/lang/IllegalArgumentException") (List.mem_of_getElem? (i := 64) rfl))
theorem kw_670 : Cond.methodLink RL 7 yX1_lay ∈ w0 := w0_b (kwC_1 (325, Cond.methodLink RL 7 yX1_lay) (List.mem_of_getElem? (i := 65) rfl))
theorem kw_671 : Cond.instanceMethod yX1_lay ∈ w0 := w0_b (kwC_1 (326, Cond.instanceMethod yX1_lay) (List.mem_of_getElem? (i := 66) rfl))
theorem kw_672 : Cond.selects RX1 yX1_lay yX1_lay ∈ w0 := w0_b (kwC_1 (327, Cond.selects RX1 yX1_lay yX1_lay) (List.mem_of_getElem? (i := 67) rfl))
theorem kw_338 : Cond.methodLink RX1 40 yX1_writeAll ∈ w0 := w0_b (kwC_1 (329, Cond.methodLink RX1 40 yX1_writeAll) (List.mem_of_getElem? (i := 68) rfl))
theorem kw_339 : Cond.static yX1_writeAll ∈ w0 := w0_b (kwC_1 (330, Cond.static yX1_writeAll) (List.mem_of_getElem? (i := 69) rfl))
theorem kw_666 : Cond.methodLink RX1 44 yX1_dropPartsOf ∈ w0 := w0_b (kwC_1 (332, Cond.methodLink RX1 44 yX1_dropPartsOf) (List.mem_of_getElem? (i := 70) rfl))
theorem kw_667 : Cond.instanceMethod yX1_dropPartsOf ∈ w0 := w0_b (kwC_1 (334, Cond.instanceMethod yX1_dropPartsOf) (List.mem_of_getElem? (i := 71) rfl))
theorem kw_703 : Cond.methodLink RL 170 yL_put ∈ w0 := w0_b (kwC_1 (336, Cond.methodLink RL 170 yL_put) (List.mem_of_getElem? (i := 72) rfl))
theorem kw_704 : Cond.static yL_put ∈ w0 := w0_b (kwC_1 (337, Cond.static yL_put) (List.mem_of_getElem? (i := 73) rfl))
theorem kw_661 : Cond.methodLink RL 23 yX1_put ∈ w0 := w0_b (kwC_1 (339, Cond.methodLink RL 23 yX1_put) (List.mem_of_getElem? (i := 74) rfl))
theorem kw_662 : Cond.instanceMethod yX1_put ∈ w0 := w0_b (kwC_1 (340, Cond.instanceMethod yX1_put) (List.mem_of_getElem? (i := 75) rfl))
theorem kw_663 : Cond.selects RX1 yX1_put yX1_put ∈ w0 := w0_b (kwC_1 (341, Cond.selects RX1 yX1_put yX1_put) (List.mem_of_getElem? (i := 76) rfl))
theorem kw_199 : Cond.methodLink RX1 48 yX1_checkPlace ∈ w0 := w0_b (kwC_1 (343, Cond.methodLink RX1 48 yX1_checkPlace) (List.mem_of_getElem? (i := 77) rfl))
theorem kw_200 : Cond.static yX1_checkPlace ∈ w0 := w0_b (kwC_1 (344, Cond.static yX1_checkPlace) (List.mem_of_getElem? (i := 78) rfl))
theorem kw_269 : Cond.methodLink RX1 51 yX1_checkValue ∈ w0 := w0_b (kwC_1 (347, Cond.methodLink RX1 51 yX1_checkValue) (List.mem_of_getElem? (i := 79) rfl))
theorem kw_270 : Cond.static yX1_checkValue ∈ w0 := w0_b (kwC_1 (348, Cond.static yX1_checkValue) (List.mem_of_getElem? (i := 80) rfl))
theorem kw_714 : Cond.methodLink RL 178 yL_at ∈ w0 := w0_b (kwC_1 (350, Cond.methodLink RL 178 yL_at) (List.mem_of_getElem? (i := 81) rfl))
theorem kw_715 : Cond.static yL_at ∈ w0 := w0_b (kwC_1 (351, Cond.static yL_at) (List.mem_of_getElem? (i := 82) rfl))
theorem kw_653 : Cond.methodLink RL 27 yX1_at ∈ w0 := w0_b (kwC_1 (353, Cond.methodLink RL 27 yX1_at) (List.mem_of_getElem? (i := 83) rfl))
theorem kw_654 : Cond.instanceMethod yX1_at ∈ w0 := w0_b (kwC_1 (354, Cond.instanceMethod yX1_at) (List.mem_of_getElem? (i := 84) rfl))
theorem kw_655 : Cond.selects RX1 yX1_at yX1_at ∈ w0 := w0_b (kwC_1 (355, Cond.selects RX1 yX1_at yX1_at) (List.mem_of_getElem? (i := 85) rfl))
theorem kw_721 : Cond.methodLink RL 181 yL_part ∈ w0 := w0_b (kwC_1 (357, Cond.methodLink RL 181 yL_part) (List.mem_of_getElem? (i := 86) rfl))
theorem kw_722 : Cond.static yL_part ∈ w0 := w0_b (kwC_1 (358, Cond.static yL_part) (List.mem_of_getElem? (i := 87) rfl))
theorem kw_649 : Cond.methodLink RL 30 yX1_part ∈ w0 := w0_b (kwC_1 (360, Cond.methodLink RL 30 yX1_part) (List.mem_of_getElem? (i := 88) rfl))
theorem kw_650 : Cond.instanceMethod yX1_part ∈ w0 := w0_b (kwC_1 (361, Cond.instanceMethod yX1_part) (List.mem_of_getElem? (i := 89) rfl))
theorem kw_651 : Cond.selects RX1 yX1_part yX1_part ∈ w0 := w0_b (kwC_1 (362, Cond.selects RX1 yX1_part yX1_part) (List.mem_of_getElem? (i := 90) rfl))
theorem kw_642 : Cond.methodLink RX1 62 yX1_checkPart ∈ w0 := w0_b (kwC_1 (364, Cond.methodLink RX1 62 yX1_checkPart) (List.mem_of_getElem? (i := 91) rfl))
theorem kw_643 : Cond.static yX1_checkPart ∈ w0 := w0_b (kwC_1 (365, Cond.static yX1_checkPart) (List.mem_of_getElem? (i := 92) rfl))
theorem kw_645 : Cond.methodLink RX1 71 yX0_pieceOf ∈ w0 := w0_b (kwC_1 (368, Cond.methodLink RX1 71 yX0_pieceOf) (List.mem_of_getElem? (i := 93) rfl))
theorem kw_646 : Cond.instanceMethod yX0_pieceOf ∈ w0 := w0_b (kwC_1 (369, Cond.instanceMethod yX0_pieceOf) (List.mem_of_getElem? (i := 94) rfl))
theorem kw_647 : Cond.selects RX0 yX0_pieceOf yX0_pieceOf ∈ w0 := w0_b (kwC_1 (370, Cond.selects RX0 yX0_pieceOf yX0_pieceOf) (List.mem_of_getElem? (i := 95) rfl))
theorem kw_639 : Cond.classLink RX0 10 RX0 ∈ w0 := w0_b (kwC_1 (372, Cond.classLink RX0 10 RX0) (List.mem_of_getElem? (i := 96) rfl))
theorem kw_640 : Cond.methodLink RX0 33 yX0_init ∈ w0 := w0_b (kwC_1 (373, Cond.methodLink RX0 33 yX0_init) (List.mem_of_getElem? (i := 97) rfl))
theorem kw_728 : Cond.methodLink RL 185 yL_set ∈ w0 := w0_b (kwC_1 (374, Cond.methodLink RL 185 yL_set) (List.mem_of_getElem? (i := 98) rfl))
theorem kw_729 : Cond.static yL_set ∈ w0 := w0_b (kwC_1 (375, Cond.static yL_set) (List.mem_of_getElem? (i := 99) rfl))
def kwB_2 : List (Nat × Cond) := [(377, Cond.methodLink RL 34 yX1_set), (378, Cond.instanceMethod yX1_set), (379, Cond.selects RX1 yX1_set yX1_set), (381, Cond.methodLink RL 188 yL_get), (382, Cond.static yL_get), (384, Cond.methodLink RL 37 yX1_get), (385, Cond.instanceMethod yX1_get), (386, Cond.selects RX1 yX1_get yX1_get), (388, Cond.methodLink RL 191 yL_length), (389, Cond.static yL_length), (391, Cond.methodLink RL 40 yX1_length), (392, Cond.methodLink RL 195 yL_isEmpty), (393, Cond.static yL_isEmpty), (395, Cond.methodLink RL 44 yX1_isEmpty), (396, Cond.instanceMethod yX1_isEmpty), (397, Cond.selects RX1 yX1_isEmpty yX1_isEmpty), (399, Cond.methodLink RL 198 yL_text), (400, Cond.static yL_text), (402, Cond.methodLink RL 48 yX1_text), (403, Cond.instanceMethod yX1_text), (404, Cond.selects RX1 yX1_text yX1_text), (406, Cond.methodLink RX1 75 yX1_textOf), (407, Cond.static yX1_textOf), (409, Cond.classLink RX1 210 RJ4), (410, Cond.instantiable RJ4 4), (411, Cond.methodLink RX1 212 yJ4_init_da8c8), (412, Cond.instanceMethod yJ4_init_da8c8), (414, Cond.methodLink RJ4 1 yJ5_init_d00df), (415, Cond.instanceMethod yJ5_init_d00df), (417, Cond.methodLink RJ5 3 objectInit), (418, Cond.fieldLink RJ5 18 "java/lang/String" "COMPACT_STRINGS" "Z"), (427, Cond.fieldLink RJ5 15 "java/lang/AbstractStringBuilder" "value" "[B"), (428, Cond.fieldLink RJ5 22 "java/lang/AbstractStringBuilder" "coder" "B"), (429, Cond.fieldLink RJ0 1048 "java/lang/AbstractStringBuilder" "maybeLatin1" "Z"), (430, Cond.fieldLink RJ5 79 "java/lang/AbstractStringBuilder" "count" "I"), (439, Cond.superclass RJ4 RJ5), (440, Cond.methodLink RX1 217 yJ4_append_cf468), (441, Cond.instanceMethod yJ4_append_cf468), (442, Cond.selects RJ4 yJ4_append_cf468 yJ4_append_cf468), (444, Cond.methodLink RJ4 50 yJ5_append_3fe6f), (445, Cond.instanceMethod yJ5_append_3fe6f), (447, Cond.methodLink RJ5 100 ⟨"java/lang/AbstractStringBuilder", "ensureCapacityInternal", "(I)V"⟩), (449, Cond.instanceMethod yJ5_ensureCapacityInternal_d00df), (451, Cond.methodLink RJ5 104 ⟨"java/lang/AbstractStringBuilder", "newCapacity", "(I)I"⟩), (453, Cond.instanceMethod yJ5_newCapacity_0f7a4), (455, Cond.methodLink RJ5 114 yJ8_newLength_cabcc), (456, Cond.static yJ8_newLength_cabcc), (458, Cond.methodLink RJ8 194 Lib.Math.max.name), (459, Cond.static Lib.Math.max.name), (461, Cond.constant RJ8 200 (2147483639)), (465, Cond.constant RJ5 39 (2147483647)), (466, Cond.methodLink RJ5 108 yJ7_copyOf_9075b), (467, Cond.static yJ7_copyOf_9075b), (469, Cond.methodLink RJ7 310 ⟨"[B", "clone", "()Ljava/lang/Object;"⟩), (470, Cond.sameMethod "[B" "java/lang/Object" "clone" "()Ljava/lang/Object;"), (471, Cond.native ⟨"java/lang/Object", "clone", "()Ljava/lang/Object;"⟩), (472, Cond.instanceMethod ⟨"java/lang/Object", "clone", "()Ljava/lang/Object;"⟩), (473, Cond.selects "[B" ⟨"[B", "clone", "()Ljava/lang/Object;"⟩ ⟨"java/lang/Object", "clone", "()Ljava/lang/Object;"⟩), (475, Cond.classLink RJ7 311 "[B"), (476, Cond.methodLink RJ7 304 Lib.Math.min.name), (477, Cond.static Lib.Math.min.name), (479, Cond.methodLink RJ7 150 arraycopyName), (480, Cond.static arraycopyName), (481, Cond.native arraycopyName), (482, Cond.methodLink RJ5 83 ⟨"java/lang/AbstractStringBuilder", "isLatin1", "()Z"⟩), (483, Cond.instanceMethod yJ5_isLatin1_aae02), (484, Cond.sameMethod "java/lang/AbstractStringBuilder" "java/lang/AbstractStringBuilder" "isLatin1" "()Z"), (485, Cond.selects RJ4 ⟨"java/lang/AbstractStringBuilder", "isLatin1", "()Z"⟩ yJ5_isLatin1_aae02), (487, Cond.methodLink RJ5 191 yJ1_canEncode_fc78d), (488, Cond.static yJ1_canEncode_fc78d), (535, Cond.methodLink RX1 221 yJ4_append_bf812), (536, Cond.instanceMethod yJ4_append_bf812), (537, Cond.selects RJ4 yJ4_append_bf812 yJ4_append_bf812), (539, Cond.methodLink RJ4 53 yJ5_append_c97b9), (540, Cond.instanceMethod yJ5_append_c97b9), (542, Cond.methodLink RJ5 245 yJ6_stringSize_0f7a4), (543, Cond.static yJ6_stringSize_0f7a4), (545, Cond.methodLink RJ5 248 yJ6_getChars_ba4f3), (546, Cond.static yJ6_getChars_ba4f3), (548, Cond.fieldLink RJ6 83 "java/lang/Integer" "DigitOnes" "[B"), (550, Cond.fieldLink RJ6 87 "java/lang/Integer" "DigitTens" "[B"), (569, Cond.methodLink RX1 224 yX1_appendValue), (570, Cond.static yX1_appendValue), (572, Cond.methodLink RX1 228 yJ4_toString_0e30d), (573, Cond.instanceMethod yJ4_toString_0e30d), (574, Cond.selects RJ4 yJ4_toString_0e30d yJ4_toString_0e30d), (576, Cond.classLink RJ4 18 RJ0), (577, Cond.instantiable RJ0 4), (578, Cond.methodLink RJ4 137 yJ0_init_81219), (579, Cond.instanceMethod yJ0_init_81219), (581, Cond.methodLink RJ0 489 yJ0_init_db425), (582, Cond.instanceMethod yJ0_init_db425), (584, Cond.methodLink RJ0 1 objectInit), (585, Cond.methodLink RJ0 552 ⟨"java/lang/AbstractStringBuilder", "getValue", "()[B"⟩), (586, Cond.instanceMethod yJ5_getValue_6d5f1), (587, Cond.sameMethod "java/lang/AbstractStringBuilder" "java/lang/AbstractStringBuilder" "getValue" "()[B"), (588, Cond.selects RJ4 ⟨"java/lang/AbstractStringBuilder", "getValue", "()[B"⟩ yJ5_getValue_6d5f1), (590, Cond.methodLink RJ0 549 ⟨"java/lang/AbstractStringBuilder", "length", "()I"⟩), (591, Cond.instanceMethod yJ5_length_8abf5), (591, Cond.instanceMethod ⟨"java/lang/AbstractStringBuilder", "length", "()I"⟩)]
theorem kwC_2 : ∀ q ∈ kwB_2, lw_t2[q.1]? = some q.2 ∧ goodWord q.2 = true := by decide +kernel
theorem kw_636 : Cond.methodLink RL 34 yX1_set ∈ w0 := w0_b (kwC_2 (377, Cond.methodLink RL 34 yX1_set) (List.mem_of_getElem? (i := 0) rfl))
theorem kw_637 : Cond.instanceMethod yX1_set ∈ w0 := w0_b (kwC_2 (378, Cond.instanceMethod yX1_set) (List.mem_of_getElem? (i := 1) rfl))
theorem kw_638 : Cond.selects RX1 yX1_set yX1_set ∈ w0 := w0_b (kwC_2 (379, Cond.selects RX1 yX1_set yX1_set) (List.mem_of_getElem? (i := 2) rfl))
theorem kw_735 : Cond.methodLink RL 188 yL_get ∈ w0 := w0_b (kwC_2 (381, Cond.methodLink RL 188 yL_get) (List.mem_of_getElem? (i := 3) rfl))
theorem kw_736 : Cond.static yL_get ∈ w0 := w0_b (kwC_2 (382, Cond.static yL_get) (List.mem_of_getElem? (i := 4) rfl))
theorem kw_632 : Cond.methodLink RL 37 yX1_get ∈ w0 := w0_b (kwC_2 (384, Cond.methodLink RL 37 yX1_get) (List.mem_of_getElem? (i := 5) rfl))
theorem kw_633 : Cond.instanceMethod yX1_get ∈ w0 := w0_b (kwC_2 (385, Cond.instanceMethod yX1_get) (List.mem_of_getElem? (i := 6) rfl))
theorem kw_634 : Cond.selects RX1 yX1_get yX1_get ∈ w0 := w0_b (kwC_2 (386, Cond.selects RX1 yX1_get yX1_get) (List.mem_of_getElem? (i := 7) rfl))
theorem kw_742 : Cond.methodLink RL 191 yL_length ∈ w0 := w0_b (kwC_2 (388, Cond.methodLink RL 191 yL_length) (List.mem_of_getElem? (i := 8) rfl))
theorem kw_743 : Cond.static yL_length ∈ w0 := w0_b (kwC_2 (389, Cond.static yL_length) (List.mem_of_getElem? (i := 9) rfl))
theorem kw_630 : Cond.methodLink RL 40 yX1_length ∈ w0 := w0_b (kwC_2 (391, Cond.methodLink RL 40 yX1_length) (List.mem_of_getElem? (i := 10) rfl))
theorem kw_749 : Cond.methodLink RL 195 yL_isEmpty ∈ w0 := w0_b (kwC_2 (392, Cond.methodLink RL 195 yL_isEmpty) (List.mem_of_getElem? (i := 11) rfl))
theorem kw_750 : Cond.static yL_isEmpty ∈ w0 := w0_b (kwC_2 (393, Cond.static yL_isEmpty) (List.mem_of_getElem? (i := 12) rfl))
theorem kw_627 : Cond.methodLink RL 44 yX1_isEmpty ∈ w0 := w0_b (kwC_2 (395, Cond.methodLink RL 44 yX1_isEmpty) (List.mem_of_getElem? (i := 13) rfl))
theorem kw_628 : Cond.instanceMethod yX1_isEmpty ∈ w0 := w0_b (kwC_2 (396, Cond.instanceMethod yX1_isEmpty) (List.mem_of_getElem? (i := 14) rfl))
theorem kw_629 : Cond.selects RX1 yX1_isEmpty yX1_isEmpty ∈ w0 := w0_b (kwC_2 (397, Cond.selects RX1 yX1_isEmpty yX1_isEmpty) (List.mem_of_getElem? (i := 15) rfl))
theorem kw_756 : Cond.methodLink RL 198 yL_text ∈ w0 := w0_b (kwC_2 (399, Cond.methodLink RL 198 yL_text) (List.mem_of_getElem? (i := 16) rfl))
theorem kw_757 : Cond.static yL_text ∈ w0 := w0_b (kwC_2 (400, Cond.static yL_text) (List.mem_of_getElem? (i := 17) rfl))
theorem kw_623 : Cond.methodLink RL 48 yX1_text ∈ w0 := w0_b (kwC_2 (402, Cond.methodLink RL 48 yX1_text) (List.mem_of_getElem? (i := 18) rfl))
theorem kw_624 : Cond.instanceMethod yX1_text ∈ w0 := w0_b (kwC_2 (403, Cond.instanceMethod yX1_text) (List.mem_of_getElem? (i := 19) rfl))
theorem kw_625 : Cond.selects RX1 yX1_text yX1_text ∈ w0 := w0_b (kwC_2 (404, Cond.selects RX1 yX1_text yX1_text) (List.mem_of_getElem? (i := 20) rfl))
theorem kw_526 : Cond.methodLink RX1 75 yX1_textOf ∈ w0 := w0_b (kwC_2 (406, Cond.methodLink RX1 75 yX1_textOf) (List.mem_of_getElem? (i := 21) rfl))
theorem kw_527 : Cond.static yX1_textOf ∈ w0 := w0_b (kwC_2 (407, Cond.static yX1_textOf) (List.mem_of_getElem? (i := 22) rfl))
theorem kw_520 : Cond.classLink RX1 210 RJ4 ∈ w0 := w0_b (kwC_2 (409, Cond.classLink RX1 210 RJ4) (List.mem_of_getElem? (i := 23) rfl))
theorem kw_521 : Cond.instantiable RJ4 4 ∈ w0 := w0_b (kwC_2 (410, Cond.instantiable RJ4 4) (List.mem_of_getElem? (i := 24) rfl))
theorem kw_523 : Cond.methodLink RX1 212 yJ4_init_da8c8 ∈ w0 := w0_b (kwC_2 (411, Cond.methodLink RX1 212 yJ4_init_da8c8) (List.mem_of_getElem? (i := 25) rfl))
theorem kw_524 : Cond.instanceMethod yJ4_init_da8c8 ∈ w0 := w0_b (kwC_2 (412, Cond.instanceMethod yJ4_init_da8c8) (List.mem_of_getElem? (i := 26) rfl))
theorem kw_405 : Cond.methodLink RJ4 1 yJ5_init_d00df ∈ w0 := w0_b (kwC_2 (414, Cond.methodLink RJ4 1 yJ5_init_d00df) (List.mem_of_getElem? (i := 27) rfl))
theorem kw_406 : Cond.instanceMethod yJ5_init_d00df ∈ w0 := w0_b (kwC_2 (415, Cond.instanceMethod yJ5_init_d00df) (List.mem_of_getElem? (i := 28) rfl))
theorem kw_398 : Cond.methodLink RJ5 3 objectInit ∈ w0 := w0_b (kwC_2 (417, Cond.methodLink RJ5 3 objectInit) (List.mem_of_getElem? (i := 29) rfl))
theorem kw_399 : Cond.fieldLink RJ5 18 "java/lang/String" "COMPACT_STRINGS" "Z" ∈ w0 := w0_b (kwC_2 (418, Cond.fieldLink RJ5 18 "java/lang/String" "COMPACT_STRINGS" "Z") (List.mem_of_getElem? (i := 30) rfl))
theorem kw_401 : Cond.fieldLink RJ5 15 "java/lang/AbstractStringBuilder" "value" "[B" ∈ w0 := w0_b (kwC_2 (427, Cond.fieldLink RJ5 15 "java/lang/AbstractStringBuilder" "value" "[B") (List.mem_of_getElem? (i := 31) rfl))
theorem kw_402 : Cond.fieldLink RJ5 22 "java/lang/AbstractStringBuilder" "coder" "B" ∈ w0 := w0_b (kwC_2 (428, Cond.fieldLink RJ5 22 "java/lang/AbstractStringBuilder" "coder" "B") (List.mem_of_getElem? (i := 32) rfl))
theorem kw_454 : Cond.fieldLink RJ0 1048 "java/lang/AbstractStringBuilder" "maybeLatin1" "Z" ∈ w0 := w0_b (kwC_2 (429, Cond.fieldLink RJ0 1048 "java/lang/AbstractStringBuilder" "maybeLatin1" "Z") (List.mem_of_getElem? (i := 33) rfl))
theorem kw_407 : Cond.fieldLink RJ5 79 "java/lang/AbstractStringBuilder" "count" "I" ∈ w0 := w0_b (kwC_2 (430, Cond.fieldLink RJ5 79 "java/lang/AbstractStringBuilder" "count" "I") (List.mem_of_getElem? (i := 34) rfl))
theorem kw_411 : Cond.superclass RJ4 RJ5 ∈ w0 := w0_b (kwC_2 (439, Cond.superclass RJ4 RJ5) (List.mem_of_getElem? (i := 35) rfl))
theorem kw_510 : Cond.methodLink RX1 217 yJ4_append_cf468 ∈ w0 := w0_b (kwC_2 (440, Cond.methodLink RX1 217 yJ4_append_cf468) (List.mem_of_getElem? (i := 36) rfl))
theorem kw_511 : Cond.instanceMethod yJ4_append_cf468 ∈ w0 := w0_b (kwC_2 (441, Cond.instanceMethod yJ4_append_cf468) (List.mem_of_getElem? (i := 37) rfl))
theorem kw_512 : Cond.selects RJ4 yJ4_append_cf468 yJ4_append_cf468 ∈ w0 := w0_b (kwC_2 (442, Cond.selects RJ4 yJ4_append_cf468 yJ4_append_cf468) (List.mem_of_getElem? (i := 38) rfl))
theorem kw_502 : Cond.methodLink RJ4 50 yJ5_append_3fe6f ∈ w0 := w0_b (kwC_2 (444, Cond.methodLink RJ4 50 yJ5_append_3fe6f) (List.mem_of_getElem? (i := 39) rfl))
theorem kw_504 : Cond.instanceMethod yJ5_append_3fe6f ∈ w0 := w0_b (kwC_2 (445, Cond.instanceMethod yJ5_append_3fe6f) (List.mem_of_getElem? (i := 40) rfl))
theorem kw_485 : Cond.methodLink RJ5 100 ⟨"java/lang/AbstractStringBuilder", "ensureCapacityInternal", "(I)V"⟩ ∈ w0 := w0_b (kwC_2 (447, Cond.methodLink RJ5 100 ⟨"java/lang/AbstractStringBuilder", "ensureCapacityInternal", "(I)V"⟩) (List.mem_of_getElem? (i := 41) rfl))
theorem kw_488 : Cond.instanceMethod yJ5_ensureCapacityInternal_d00df ∈ w0 := w0_b (kwC_2 (449, Cond.instanceMethod yJ5_ensureCapacityInternal_d00df) (List.mem_of_getElem? (i := 42) rfl))
theorem kw_472 : Cond.methodLink RJ5 104 ⟨"java/lang/AbstractStringBuilder", "newCapacity", "(I)I"⟩ ∈ w0 := w0_b (kwC_2 (451, Cond.methodLink RJ5 104 ⟨"java/lang/AbstractStringBuilder", "newCapacity", "(I)I"⟩) (List.mem_of_getElem? (i := 43) rfl))
theorem kw_475 : Cond.instanceMethod yJ5_newCapacity_0f7a4 ∈ w0 := w0_b (kwC_2 (453, Cond.instanceMethod yJ5_newCapacity_0f7a4) (List.mem_of_getElem? (i := 44) rfl))
theorem kw_467 : Cond.methodLink RJ5 114 yJ8_newLength_cabcc ∈ w0 := w0_b (kwC_2 (455, Cond.methodLink RJ5 114 yJ8_newLength_cabcc) (List.mem_of_getElem? (i := 45) rfl))
theorem kw_468 : Cond.static yJ8_newLength_cabcc ∈ w0 := w0_b (kwC_2 (456, Cond.static yJ8_newLength_cabcc) (List.mem_of_getElem? (i := 46) rfl))
theorem kw_464 : Cond.methodLink RJ8 194 Lib.Math.max.name ∈ w0 := w0_b (kwC_2 (458, Cond.methodLink RJ8 194 Lib.Math.max.name) (List.mem_of_getElem? (i := 47) rfl))
theorem kw_357 : Cond.static Lib.Math.max.name ∈ w0 := w0_b (kwC_2 (459, Cond.static Lib.Math.max.name) (List.mem_of_getElem? (i := 48) rfl))
theorem kw_465 : Cond.constant RJ8 200 (2147483639) ∈ w0 := w0_b (kwC_2 (461, Cond.constant RJ8 200 (2147483639)) (List.mem_of_getElem? (i := 49) rfl))
theorem kw_470 : Cond.constant RJ5 39 (2147483647) ∈ w0 := w0_b (kwC_2 (465, Cond.constant RJ5 39 (2147483647)) (List.mem_of_getElem? (i := 50) rfl))
theorem kw_477 : Cond.methodLink RJ5 108 yJ7_copyOf_9075b ∈ w0 := w0_b (kwC_2 (466, Cond.methodLink RJ5 108 yJ7_copyOf_9075b) (List.mem_of_getElem? (i := 51) rfl))
theorem kw_478 : Cond.static yJ7_copyOf_9075b ∈ w0 := w0_b (kwC_2 (467, Cond.static yJ7_copyOf_9075b) (List.mem_of_getElem? (i := 52) rfl))
theorem kw_425 : Cond.methodLink RJ7 310 ⟨"[B", "clone", "()Ljava/lang/Object;"⟩ ∈ w0 := w0_b (kwC_2 (469, Cond.methodLink RJ7 310 ⟨"[B", "clone", "()Ljava/lang/Object;"⟩) (List.mem_of_getElem? (i := 53) rfl))
theorem kw_426 : Cond.sameMethod "[B" "java/lang/Object" "clone" "()Ljava/lang/Object;" ∈ w0 := w0_b (kwC_2 (470, Cond.sameMethod "[B" "java/lang/Object" "clone" "()Ljava/lang/Object;") (List.mem_of_getElem? (i := 54) rfl))
theorem kw_427 : Cond.native ⟨"java/lang/Object", "clone", "()Ljava/lang/Object;"⟩ ∈ w0 := w0_b (kwC_2 (471, Cond.native ⟨"java/lang/Object", "clone", "()Ljava/lang/Object;"⟩) (List.mem_of_getElem? (i := 55) rfl))
theorem kw_428 : Cond.instanceMethod ⟨"java/lang/Object", "clone", "()Ljava/lang/Object;"⟩ ∈ w0 := w0_b (kwC_2 (472, Cond.instanceMethod ⟨"java/lang/Object", "clone", "()Ljava/lang/Object;"⟩) (List.mem_of_getElem? (i := 56) rfl))
theorem kw_429 : Cond.selects "[B" ⟨"[B", "clone", "()Ljava/lang/Object;"⟩ ⟨"java/lang/Object", "clone", "()Ljava/lang/Object;"⟩ ∈ w0 := w0_b (kwC_2 (473, Cond.selects "[B" ⟨"[B", "clone", "()Ljava/lang/Object;"⟩ ⟨"java/lang/Object", "clone", "()Ljava/lang/Object;"⟩) (List.mem_of_getElem? (i := 57) rfl))
theorem kw_430 : Cond.classLink RJ7 311 "[B" ∈ w0 := w0_b (kwC_2 (475, Cond.classLink RJ7 311 "[B") (List.mem_of_getElem? (i := 58) rfl))
theorem kw_417 : Cond.methodLink RJ7 304 Lib.Math.min.name ∈ w0 := w0_b (kwC_2 (476, Cond.methodLink RJ7 304 Lib.Math.min.name) (List.mem_of_getElem? (i := 59) rfl))
theorem kw_353 : Cond.static Lib.Math.min.name ∈ w0 := w0_b (kwC_2 (477, Cond.static Lib.Math.min.name) (List.mem_of_getElem? (i := 60) rfl))
theorem kw_418 : Cond.methodLink RJ7 150 arraycopyName ∈ w0 := w0_b (kwC_2 (479, Cond.methodLink RJ7 150 arraycopyName) (List.mem_of_getElem? (i := 61) rfl))
theorem kw_420 : Cond.static arraycopyName ∈ w0 := w0_b (kwC_2 (480, Cond.static arraycopyName) (List.mem_of_getElem? (i := 62) rfl))
theorem kw_419 : Cond.native arraycopyName ∈ w0 := w0_b (kwC_2 (481, Cond.native arraycopyName) (List.mem_of_getElem? (i := 63) rfl))
theorem kw_489 : Cond.methodLink RJ5 83 ⟨"java/lang/AbstractStringBuilder", "isLatin1", "()Z"⟩ ∈ w0 := w0_b (kwC_2 (482, Cond.methodLink RJ5 83 ⟨"java/lang/AbstractStringBuilder", "isLatin1", "()Z"⟩) (List.mem_of_getElem? (i := 64) rfl))
theorem kw_452 : Cond.instanceMethod yJ5_isLatin1_aae02 ∈ w0 := w0_b (kwC_2 (483, Cond.instanceMethod yJ5_isLatin1_aae02) (List.mem_of_getElem? (i := 65) rfl))
theorem kw_450 : Cond.sameMethod "java/lang/AbstractStringBuilder" "java/lang/AbstractStringBuilder" "isLatin1" "()Z" ∈ w0 := w0_b (kwC_2 (484, Cond.sameMethod "java/lang/AbstractStringBuilder" "java/lang/AbstractStringBuilder" "isLatin1" "()Z") (List.mem_of_getElem? (i := 66) rfl))
theorem kw_451 : Cond.selects RJ4 ⟨"java/lang/AbstractStringBuilder", "isLatin1", "()Z"⟩ yJ5_isLatin1_aae02 ∈ w0 := w0_b (kwC_2 (485, Cond.selects RJ4 ⟨"java/lang/AbstractStringBuilder", "isLatin1", "()Z"⟩ yJ5_isLatin1_aae02) (List.mem_of_getElem? (i := 67) rfl))
theorem kw_498 : Cond.methodLink RJ5 191 yJ1_canEncode_fc78d ∈ w0 := w0_b (kwC_2 (487, Cond.methodLink RJ5 191 yJ1_canEncode_fc78d) (List.mem_of_getElem? (i := 68) rfl))
theorem kw_499 : Cond.static yJ1_canEncode_fc78d ∈ w0 := w0_b (kwC_2 (488, Cond.static yJ1_canEncode_fc78d) (List.mem_of_getElem? (i := 69) rfl))
theorem kw_506 : Cond.methodLink RX1 221 yJ4_append_bf812 ∈ w0 := w0_b (kwC_2 (535, Cond.methodLink RX1 221 yJ4_append_bf812) (List.mem_of_getElem? (i := 70) rfl))
theorem kw_507 : Cond.instanceMethod yJ4_append_bf812 ∈ w0 := w0_b (kwC_2 (536, Cond.instanceMethod yJ4_append_bf812) (List.mem_of_getElem? (i := 71) rfl))
theorem kw_508 : Cond.selects RJ4 yJ4_append_bf812 yJ4_append_bf812 ∈ w0 := w0_b (kwC_2 (537, Cond.selects RJ4 yJ4_append_bf812 yJ4_append_bf812) (List.mem_of_getElem? (i := 72) rfl))
theorem kw_494 : Cond.methodLink RJ4 53 yJ5_append_c97b9 ∈ w0 := w0_b (kwC_2 (539, Cond.methodLink RJ4 53 yJ5_append_c97b9) (List.mem_of_getElem? (i := 73) rfl))
theorem kw_496 : Cond.instanceMethod yJ5_append_c97b9 ∈ w0 := w0_b (kwC_2 (540, Cond.instanceMethod yJ5_append_c97b9) (List.mem_of_getElem? (i := 74) rfl))
theorem kw_482 : Cond.methodLink RJ5 245 yJ6_stringSize_0f7a4 ∈ w0 := w0_b (kwC_2 (542, Cond.methodLink RJ5 245 yJ6_stringSize_0f7a4) (List.mem_of_getElem? (i := 75) rfl))
theorem kw_483 : Cond.static yJ6_stringSize_0f7a4 ∈ w0 := w0_b (kwC_2 (543, Cond.static yJ6_stringSize_0f7a4) (List.mem_of_getElem? (i := 76) rfl))
theorem kw_491 : Cond.methodLink RJ5 248 yJ6_getChars_ba4f3 ∈ w0 := w0_b (kwC_2 (545, Cond.methodLink RJ5 248 yJ6_getChars_ba4f3) (List.mem_of_getElem? (i := 77) rfl))
theorem kw_492 : Cond.static yJ6_getChars_ba4f3 ∈ w0 := w0_b (kwC_2 (546, Cond.static yJ6_getChars_ba4f3) (List.mem_of_getElem? (i := 78) rfl))
theorem kw_479 : Cond.fieldLink RJ6 83 "java/lang/Integer" "DigitOnes" "[B" ∈ w0 := w0_b (kwC_2 (548, Cond.fieldLink RJ6 83 "java/lang/Integer" "DigitOnes" "[B") (List.mem_of_getElem? (i := 79) rfl))
theorem kw_480 : Cond.fieldLink RJ6 87 "java/lang/Integer" "DigitTens" "[B" ∈ w0 := w0_b (kwC_2 (550, Cond.fieldLink RJ6 87 "java/lang/Integer" "DigitTens" "[B") (List.mem_of_getElem? (i := 80) rfl))
theorem kw_514 : Cond.methodLink RX1 224 yX1_appendValue ∈ w0 := w0_b (kwC_2 (569, Cond.methodLink RX1 224 yX1_appendValue) (List.mem_of_getElem? (i := 81) rfl))
theorem kw_515 : Cond.static yX1_appendValue ∈ w0 := w0_b (kwC_2 (570, Cond.static yX1_appendValue) (List.mem_of_getElem? (i := 82) rfl))
theorem kw_517 : Cond.methodLink RX1 228 yJ4_toString_0e30d ∈ w0 := w0_b (kwC_2 (572, Cond.methodLink RX1 228 yJ4_toString_0e30d) (List.mem_of_getElem? (i := 83) rfl))
theorem kw_518 : Cond.instanceMethod yJ4_toString_0e30d ∈ w0 := w0_b (kwC_2 (573, Cond.instanceMethod yJ4_toString_0e30d) (List.mem_of_getElem? (i := 84) rfl))
theorem kw_519 : Cond.selects RJ4 yJ4_toString_0e30d yJ4_toString_0e30d ∈ w0 := w0_b (kwC_2 (574, Cond.selects RJ4 yJ4_toString_0e30d yJ4_toString_0e30d) (List.mem_of_getElem? (i := 85) rfl))
theorem kw_459 : Cond.classLink RJ4 18 RJ0 ∈ w0 := w0_b (kwC_2 (576, Cond.classLink RJ4 18 RJ0) (List.mem_of_getElem? (i := 86) rfl))
theorem kw_460 : Cond.instantiable RJ0 4 ∈ w0 := w0_b (kwC_2 (577, Cond.instantiable RJ0 4) (List.mem_of_getElem? (i := 87) rfl))
theorem kw_462 : Cond.methodLink RJ4 137 yJ0_init_81219 ∈ w0 := w0_b (kwC_2 (578, Cond.methodLink RJ4 137 yJ0_init_81219) (List.mem_of_getElem? (i := 88) rfl))
theorem kw_463 : Cond.instanceMethod yJ0_init_81219 ∈ w0 := w0_b (kwC_2 (579, Cond.instanceMethod yJ0_init_81219) (List.mem_of_getElem? (i := 89) rfl))
theorem kw_457 : Cond.methodLink RJ0 489 yJ0_init_db425 ∈ w0 := w0_b (kwC_2 (581, Cond.methodLink RJ0 489 yJ0_init_db425) (List.mem_of_getElem? (i := 90) rfl))
theorem kw_458 : Cond.instanceMethod yJ0_init_db425 ∈ w0 := w0_b (kwC_2 (582, Cond.instanceMethod yJ0_init_db425) (List.mem_of_getElem? (i := 91) rfl))
theorem kw_436 : Cond.methodLink RJ0 1 objectInit ∈ w0 := w0_b (kwC_2 (584, Cond.methodLink RJ0 1 objectInit) (List.mem_of_getElem? (i := 92) rfl))
theorem kw_438 : Cond.methodLink RJ0 552 ⟨"java/lang/AbstractStringBuilder", "getValue", "()[B"⟩ ∈ w0 := w0_b (kwC_2 (585, Cond.methodLink RJ0 552 ⟨"java/lang/AbstractStringBuilder", "getValue", "()[B"⟩) (List.mem_of_getElem? (i := 93) rfl))
theorem kw_441 : Cond.instanceMethod yJ5_getValue_6d5f1 ∈ w0 := w0_b (kwC_2 (586, Cond.instanceMethod yJ5_getValue_6d5f1) (List.mem_of_getElem? (i := 94) rfl))
theorem kw_439 : Cond.sameMethod "java/lang/AbstractStringBuilder" "java/lang/AbstractStringBuilder" "getValue" "()[B" ∈ w0 := w0_b (kwC_2 (587, Cond.sameMethod "java/lang/AbstractStringBuilder" "java/lang/AbstractStringBuilder" "getValue" "()[B") (List.mem_of_getElem? (i := 95) rfl))
theorem kw_440 : Cond.selects RJ4 ⟨"java/lang/AbstractStringBuilder", "getValue", "()[B"⟩ yJ5_getValue_6d5f1 ∈ w0 := w0_b (kwC_2 (588, Cond.selects RJ4 ⟨"java/lang/AbstractStringBuilder", "getValue", "()[B"⟩ yJ5_getValue_6d5f1) (List.mem_of_getElem? (i := 96) rfl))
theorem kw_443 : Cond.methodLink RJ0 549 ⟨"java/lang/AbstractStringBuilder", "length", "()I"⟩ ∈ w0 := w0_b (kwC_2 (590, Cond.methodLink RJ0 549 ⟨"java/lang/AbstractStringBuilder", "length", "()I"⟩) (List.mem_of_getElem? (i := 97) rfl))
theorem kw_412 : Cond.instanceMethod yJ5_length_8abf5 ∈ w0 := w0_b (kwC_2 (591, Cond.instanceMethod yJ5_length_8abf5) (List.mem_of_getElem? (i := 98) rfl))
theorem kw_444 : Cond.instanceMethod ⟨"java/lang/AbstractStringBuilder", "length", "()I"⟩ ∈ w0 := w0_b (kwC_2 (591, Cond.instanceMethod ⟨"java/lang/AbstractStringBuilder", "length", "()I"⟩) (List.mem_of_getElem? (i := 99) rfl))
def kwB_3 : List (Nat × Cond) := [(592, Cond.sameMethod "java/lang/AbstractStringBuilder" "java/lang/AbstractStringBuilder" "length" "()I"), (593, Cond.selects RJ4 ⟨"java/lang/AbstractStringBuilder", "length", "()I"⟩ yJ4_length_8abf5), (594, Cond.instanceMethod yJ4_length_8abf5), (596, Cond.methodLink RJ4 343 yJ5_length_8abf5), (598, Cond.methodLink RJ0 1047 ⟨"java/lang/AbstractStringBuilder", "isLatin1", "()Z"⟩), (599, Cond.methodLink RJ0 54 yJ7_copyOfRange_39247), (600, Cond.static yJ7_copyOfRange_39247), (602, Cond.methodLink RJ7 339 yJ7_copyOfRangeByte_39247), (603, Cond.static yJ7_copyOfRangeByte_39247), (605, Cond.methodLink RJ7 343 yJ7_checkLength_df160), (606, Cond.static yJ7_checkLength_df160), (614, Cond.instanceMethod yJ4_append_15ec4), (615, Cond.selects RJ4 yJ4_append_15ec4 yJ4_append_15ec4), (617, Cond.methodLink RJ4 29 yJ5_append_cf1ce), (618, Cond.instanceMethod yJ5_append_cf1ce), (627, Cond.methodLink RJ5 32 yJ0_length_8abf5), (628, Cond.instanceMethod yJ0_length_8abf5), (629, Cond.selects RJ0 yJ0_length_8abf5 yJ0_length_8abf5), (631, Cond.methodLink RJ0 335 yJ0_coder_7d493), (632, Cond.instanceMethod yJ0_coder_7d493), (633, Cond.selects RJ0 yJ0_coder_7d493 yJ0_coder_7d493), (635, Cond.fieldLink RJ0 38 "java/lang/String" "COMPACT_STRINGS" "Z"), (636, Cond.methodLink RJ5 208 ⟨"java/lang/AbstractStringBuilder", "putStringAt", "(ILjava/lang/String;)V"⟩), (638, Cond.instanceMethod yJ5_putStringAt_47b60), (640, Cond.methodLink RJ5 397 ⟨"java/lang/AbstractStringBuilder", "inflateIfNeededFor", "(Ljava/lang/String;)V"⟩), (642, Cond.instanceMethod yJ5_inflateIfNeededFor_a7421), (644, Cond.methodLink RJ5 40 yJ0_coder_7d493), (645, Cond.methodLink RJ5 399 yJ0_getBytes_840e7), (646, Cond.instanceMethod yJ0_getBytes_840e7), (647, Cond.selects RJ0 yJ0_getBytes_840e7 yJ0_getBytes_840e7), (649, Cond.methodLink RJ0 212 arraycopyName), (666, Cond.fieldLink RJ0 9 "java/lang/String" "value" "[B"), (667, Cond.fieldLink RJ0 15 "java/lang/String" "coder" "B"), (677, Cond.methodLink RL 201 yL_back), (678, Cond.static yL_back), (680, Cond.methodLink RL 56 yX1_back), (681, Cond.instanceMethod yX1_back), (682, Cond.selects RX1 yX1_back yX1_back), (684, Cond.methodLink RL 204 yL_indexOf), (685, Cond.static yL_indexOf), (687, Cond.methodLink RL 59 yX1_indexOf), (688, Cond.instanceMethod yX1_indexOf), (689, Cond.selects RX1 yX1_indexOf yX1_indexOf), (691, Cond.methodLink RL 207 yL_lastIndexOf), (692, Cond.static yL_lastIndexOf), (694, Cond.methodLink RL 62 yX1_lastIndexOf), (695, Cond.instanceMethod yX1_lastIndexOf), (696, Cond.selects RX1 yX1_lastIndexOf yX1_lastIndexOf), (698, Cond.methodLink RL 210 yL_has), (699, Cond.static yL_has), (701, Cond.methodLink RL 65 yX1_has), (702, Cond.instanceMethod yX1_has), (703, Cond.selects RX1 yX1_has yX1_has), (705, Cond.methodLink RX1 86 yX1_stands), (706, Cond.static yX1_stands), (708, Cond.methodLink RL 213 yL_often), (709, Cond.static yL_often), (711, Cond.methodLink RL 69 yX1_often), (712, Cond.instanceMethod yX1_often), (713, Cond.selects RX1 yX1_often yX1_often), (715, Cond.methodLink RL 216 yL_hasAll), (716, Cond.static yL_hasAll), (718, Cond.methodLink RL 72 yX1_hasAll), (719, Cond.instanceMethod yX1_hasAll), (720, Cond.selects RX1 yX1_hasAll yX1_hasAll), (722, Cond.methodLink RX1 90 yX1_hasOneThatStands), (723, Cond.static yX1_hasOneThatStands), (725, Cond.methodLink RL 219 yL_areApart), (726, Cond.static yL_areApart), (728, Cond.methodLink RL 75 yX1_areApart), (729, Cond.instanceMethod yX1_areApart), (730, Cond.selects RX1 yX1_areApart yX1_areApart), (732, Cond.methodLink RL 222 yL_indexOfAll), (733, Cond.static yL_indexOfAll), (735, Cond.methodLink RL 78 yX1_indexOfAll), (736, Cond.instanceMethod yX1_indexOfAll), (737, Cond.selects RX1 yX1_indexOfAll yX1_indexOfAll), (739, Cond.methodLink RL 225 yL_areEqual), (740, Cond.static yL_areEqual), (742, Cond.methodLink RL 81 yX1_areEqual), (743, Cond.instanceMethod yX1_areEqual), (744, Cond.selects RX1 yX1_areEqual yX1_areEqual), (746, Cond.methodLink RL 228 yL_code), (747, Cond.static yL_code), (749, Cond.methodLink RL 84 yX1_code), (750, Cond.methodLink RL 231 yL_walk), (751, Cond.static yL_walk), (753, Cond.methodLink RL 87 yX1_walk), (754, Cond.instanceMethod yX1_walk), (755, Cond.selects RX1 yX1_walk yX1_walk), (757, Cond.methodLink RX1 106 yX1_stepsLeft), (758, Cond.static yX1_stepsLeft), (760, Cond.methodLink RX1 110 Lib.Math.min.name), (761, Cond.methodLink RL 235 yL_sum), (762, Cond.static yL_sum), (764, Cond.methodLink RL 91 yX1_sum), (765, Cond.methodLink RL 238 yL_walkSet), (766, Cond.static yL_walkSet), (768, Cond.methodLink RL 94 yX1_walkSet), (769, Cond.instanceMethod yX1_walkSet)]
theorem kwC_3 : ∀ q ∈ kwB_3, lw_t2[q.1]? = some q.2 ∧ goodWord q.2 = true := by decide +kernel
theorem kw_410 : Cond.sameMethod "java/lang/AbstractStringBuilder" "java/lang/AbstractStringBuilder" "length" "()I" ∈ w0 := w0_b (kwC_3 (592, Cond.sameMethod "java/lang/AbstractStringBuilder" "java/lang/AbstractStringBuilder" "length" "()I") (List.mem_of_getElem? (i := 0) rfl))
theorem kw_445 : Cond.selects RJ4 ⟨"java/lang/AbstractStringBuilder", "length", "()I"⟩ yJ4_length_8abf5 ∈ w0 := w0_b (kwC_3 (593, Cond.selects RJ4 ⟨"java/lang/AbstractStringBuilder", "length", "()I"⟩ yJ4_length_8abf5) (List.mem_of_getElem? (i := 1) rfl))
theorem kw_446 : Cond.instanceMethod yJ4_length_8abf5 ∈ w0 := w0_b (kwC_3 (594, Cond.instanceMethod yJ4_length_8abf5) (List.mem_of_getElem? (i := 2) rfl))
theorem kw_409 : Cond.methodLink RJ4 343 yJ5_length_8abf5 ∈ w0 := w0_b (kwC_3 (596, Cond.methodLink RJ4 343 yJ5_length_8abf5) (List.mem_of_getElem? (i := 3) rfl))
theorem kw_449 : Cond.methodLink RJ0 1047 ⟨"java/lang/AbstractStringBuilder", "isLatin1", "()Z"⟩ ∈ w0 := w0_b (kwC_3 (598, Cond.methodLink RJ0 1047 ⟨"java/lang/AbstractStringBuilder", "isLatin1", "()Z"⟩) (List.mem_of_getElem? (i := 4) rfl))
theorem kw_433 : Cond.methodLink RJ0 54 yJ7_copyOfRange_39247 ∈ w0 := w0_b (kwC_3 (599, Cond.methodLink RJ0 54 yJ7_copyOfRange_39247) (List.mem_of_getElem? (i := 5) rfl))
theorem kw_434 : Cond.static yJ7_copyOfRange_39247 ∈ w0 := w0_b (kwC_3 (600, Cond.static yJ7_copyOfRange_39247) (List.mem_of_getElem? (i := 6) rfl))
theorem kw_423 : Cond.methodLink RJ7 339 yJ7_copyOfRangeByte_39247 ∈ w0 := w0_b (kwC_3 (602, Cond.methodLink RJ7 339 yJ7_copyOfRangeByte_39247) (List.mem_of_getElem? (i := 7) rfl))
theorem kw_424 : Cond.static yJ7_copyOfRangeByte_39247 ∈ w0 := w0_b (kwC_3 (603, Cond.static yJ7_copyOfRangeByte_39247) (List.mem_of_getElem? (i := 8) rfl))
theorem kw_414 : Cond.methodLink RJ7 343 yJ7_checkLength_df160 ∈ w0 := w0_b (kwC_3 (605, Cond.methodLink RJ7 343 yJ7_checkLength_df160) (List.mem_of_getElem? (i := 9) rfl))
theorem kw_415 : Cond.static yJ7_checkLength_df160 ∈ w0 := w0_b (kwC_3 (606, Cond.static yJ7_checkLength_df160) (List.mem_of_getElem? (i := 10) rfl))
theorem kw_564 : Cond.instanceMethod yJ4_append_15ec4 ∈ w0 := w0_b (kwC_3 (614, Cond.instanceMethod yJ4_append_15ec4) (List.mem_of_getElem? (i := 11) rfl))
theorem kw_565 : Cond.selects RJ4 yJ4_append_15ec4 yJ4_append_15ec4 ∈ w0 := w0_b (kwC_3 (615, Cond.selects RJ4 yJ4_append_15ec4 yJ4_append_15ec4) (List.mem_of_getElem? (i := 12) rfl))
theorem kw_557 : Cond.methodLink RJ4 29 yJ5_append_cf1ce ∈ w0 := w0_b (kwC_3 (617, Cond.methodLink RJ4 29 yJ5_append_cf1ce) (List.mem_of_getElem? (i := 13) rfl))
theorem kw_559 : Cond.instanceMethod yJ5_append_cf1ce ∈ w0 := w0_b (kwC_3 (618, Cond.instanceMethod yJ5_append_cf1ce) (List.mem_of_getElem? (i := 14) rfl))
theorem kw_548 : Cond.methodLink RJ5 32 yJ0_length_8abf5 ∈ w0 := w0_b (kwC_3 (627, Cond.methodLink RJ5 32 yJ0_length_8abf5) (List.mem_of_getElem? (i := 15) rfl))
theorem kw_549 : Cond.instanceMethod yJ0_length_8abf5 ∈ w0 := w0_b (kwC_3 (628, Cond.instanceMethod yJ0_length_8abf5) (List.mem_of_getElem? (i := 16) rfl))
theorem kw_550 : Cond.selects RJ0 yJ0_length_8abf5 yJ0_length_8abf5 ∈ w0 := w0_b (kwC_3 (629, Cond.selects RJ0 yJ0_length_8abf5 yJ0_length_8abf5) (List.mem_of_getElem? (i := 17) rfl))
theorem kw_533 : Cond.methodLink RJ0 335 yJ0_coder_7d493 ∈ w0 := w0_b (kwC_3 (631, Cond.methodLink RJ0 335 yJ0_coder_7d493) (List.mem_of_getElem? (i := 18) rfl))
theorem kw_534 : Cond.instanceMethod yJ0_coder_7d493 ∈ w0 := w0_b (kwC_3 (632, Cond.instanceMethod yJ0_coder_7d493) (List.mem_of_getElem? (i := 19) rfl))
theorem kw_535 : Cond.selects RJ0 yJ0_coder_7d493 yJ0_coder_7d493 ∈ w0 := w0_b (kwC_3 (633, Cond.selects RJ0 yJ0_coder_7d493 yJ0_coder_7d493) (List.mem_of_getElem? (i := 20) rfl))
theorem kw_453 : Cond.fieldLink RJ0 38 "java/lang/String" "COMPACT_STRINGS" "Z" ∈ w0 := w0_b (kwC_3 (635, Cond.fieldLink RJ0 38 "java/lang/String" "COMPACT_STRINGS" "Z") (List.mem_of_getElem? (i := 21) rfl))
theorem kw_552 : Cond.methodLink RJ5 208 ⟨"java/lang/AbstractStringBuilder", "putStringAt", "(ILjava/lang/String;)V"⟩ ∈ w0 := w0_b (kwC_3 (636, Cond.methodLink RJ5 208 ⟨"java/lang/AbstractStringBuilder", "putStringAt", "(ILjava/lang/String;)V"⟩) (List.mem_of_getElem? (i := 22) rfl))
theorem kw_555 : Cond.instanceMethod yJ5_putStringAt_47b60 ∈ w0 := w0_b (kwC_3 (638, Cond.instanceMethod yJ5_putStringAt_47b60) (List.mem_of_getElem? (i := 23) rfl))
theorem kw_539 : Cond.methodLink RJ5 397 ⟨"java/lang/AbstractStringBuilder", "inflateIfNeededFor", "(Ljava/lang/String;)V"⟩ ∈ w0 := w0_b (kwC_3 (640, Cond.methodLink RJ5 397 ⟨"java/lang/AbstractStringBuilder", "inflateIfNeededFor", "(Ljava/lang/String;)V"⟩) (List.mem_of_getElem? (i := 24) rfl))
theorem kw_542 : Cond.instanceMethod yJ5_inflateIfNeededFor_a7421 ∈ w0 := w0_b (kwC_3 (642, Cond.instanceMethod yJ5_inflateIfNeededFor_a7421) (List.mem_of_getElem? (i := 25) rfl))
theorem kw_536 : Cond.methodLink RJ5 40 yJ0_coder_7d493 ∈ w0 := w0_b (kwC_3 (644, Cond.methodLink RJ5 40 yJ0_coder_7d493) (List.mem_of_getElem? (i := 26) rfl))
theorem kw_544 : Cond.methodLink RJ5 399 yJ0_getBytes_840e7 ∈ w0 := w0_b (kwC_3 (645, Cond.methodLink RJ5 399 yJ0_getBytes_840e7) (List.mem_of_getElem? (i := 27) rfl))
theorem kw_545 : Cond.instanceMethod yJ0_getBytes_840e7 ∈ w0 := w0_b (kwC_3 (646, Cond.instanceMethod yJ0_getBytes_840e7) (List.mem_of_getElem? (i := 28) rfl))
theorem kw_546 : Cond.selects RJ0 yJ0_getBytes_840e7 yJ0_getBytes_840e7 ∈ w0 := w0_b (kwC_3 (647, Cond.selects RJ0 yJ0_getBytes_840e7 yJ0_getBytes_840e7) (List.mem_of_getElem? (i := 29) rfl))
theorem kw_537 : Cond.methodLink RJ0 212 arraycopyName ∈ w0 := w0_b (kwC_3 (649, Cond.methodLink RJ0 212 arraycopyName) (List.mem_of_getElem? (i := 30) rfl))
theorem kw_435 : Cond.fieldLink RJ0 9 "java/lang/String" "value" "[B" ∈ w0 := w0_b (kwC_3 (666, Cond.fieldLink RJ0 9 "java/lang/String" "value" "[B") (List.mem_of_getElem? (i := 31) rfl))
theorem kw_431 : Cond.fieldLink RJ0 15 "java/lang/String" "coder" "B" ∈ w0 := w0_b (kwC_3 (667, Cond.fieldLink RJ0 15 "java/lang/String" "coder" "B") (List.mem_of_getElem? (i := 32) rfl))
theorem kw_763 : Cond.methodLink RL 201 yL_back ∈ w0 := w0_b (kwC_3 (677, Cond.methodLink RL 201 yL_back) (List.mem_of_getElem? (i := 33) rfl))
theorem kw_764 : Cond.static yL_back ∈ w0 := w0_b (kwC_3 (678, Cond.static yL_back) (List.mem_of_getElem? (i := 34) rfl))
theorem kw_615 : Cond.methodLink RL 56 yX1_back ∈ w0 := w0_b (kwC_3 (680, Cond.methodLink RL 56 yX1_back) (List.mem_of_getElem? (i := 35) rfl))
theorem kw_616 : Cond.instanceMethod yX1_back ∈ w0 := w0_b (kwC_3 (681, Cond.instanceMethod yX1_back) (List.mem_of_getElem? (i := 36) rfl))
theorem kw_617 : Cond.selects RX1 yX1_back yX1_back ∈ w0 := w0_b (kwC_3 (682, Cond.selects RX1 yX1_back yX1_back) (List.mem_of_getElem? (i := 37) rfl))
theorem kw_770 : Cond.methodLink RL 204 yL_indexOf ∈ w0 := w0_b (kwC_3 (684, Cond.methodLink RL 204 yL_indexOf) (List.mem_of_getElem? (i := 38) rfl))
theorem kw_771 : Cond.static yL_indexOf ∈ w0 := w0_b (kwC_3 (685, Cond.static yL_indexOf) (List.mem_of_getElem? (i := 39) rfl))
theorem kw_611 : Cond.methodLink RL 59 yX1_indexOf ∈ w0 := w0_b (kwC_3 (687, Cond.methodLink RL 59 yX1_indexOf) (List.mem_of_getElem? (i := 40) rfl))
theorem kw_612 : Cond.instanceMethod yX1_indexOf ∈ w0 := w0_b (kwC_3 (688, Cond.instanceMethod yX1_indexOf) (List.mem_of_getElem? (i := 41) rfl))
theorem kw_613 : Cond.selects RX1 yX1_indexOf yX1_indexOf ∈ w0 := w0_b (kwC_3 (689, Cond.selects RX1 yX1_indexOf yX1_indexOf) (List.mem_of_getElem? (i := 42) rfl))
theorem kw_777 : Cond.methodLink RL 207 yL_lastIndexOf ∈ w0 := w0_b (kwC_3 (691, Cond.methodLink RL 207 yL_lastIndexOf) (List.mem_of_getElem? (i := 43) rfl))
theorem kw_778 : Cond.static yL_lastIndexOf ∈ w0 := w0_b (kwC_3 (692, Cond.static yL_lastIndexOf) (List.mem_of_getElem? (i := 44) rfl))
theorem kw_607 : Cond.methodLink RL 62 yX1_lastIndexOf ∈ w0 := w0_b (kwC_3 (694, Cond.methodLink RL 62 yX1_lastIndexOf) (List.mem_of_getElem? (i := 45) rfl))
theorem kw_608 : Cond.instanceMethod yX1_lastIndexOf ∈ w0 := w0_b (kwC_3 (695, Cond.instanceMethod yX1_lastIndexOf) (List.mem_of_getElem? (i := 46) rfl))
theorem kw_609 : Cond.selects RX1 yX1_lastIndexOf yX1_lastIndexOf ∈ w0 := w0_b (kwC_3 (696, Cond.selects RX1 yX1_lastIndexOf yX1_lastIndexOf) (List.mem_of_getElem? (i := 47) rfl))
theorem kw_784 : Cond.methodLink RL 210 yL_has ∈ w0 := w0_b (kwC_3 (698, Cond.methodLink RL 210 yL_has) (List.mem_of_getElem? (i := 48) rfl))
theorem kw_785 : Cond.static yL_has ∈ w0 := w0_b (kwC_3 (699, Cond.static yL_has) (List.mem_of_getElem? (i := 49) rfl))
theorem kw_600 : Cond.methodLink RL 65 yX1_has ∈ w0 := w0_b (kwC_3 (701, Cond.methodLink RL 65 yX1_has) (List.mem_of_getElem? (i := 50) rfl))
theorem kw_601 : Cond.instanceMethod yX1_has ∈ w0 := w0_b (kwC_3 (702, Cond.instanceMethod yX1_has) (List.mem_of_getElem? (i := 51) rfl))
theorem kw_602 : Cond.selects RX1 yX1_has yX1_has ∈ w0 := w0_b (kwC_3 (703, Cond.selects RX1 yX1_has yX1_has) (List.mem_of_getElem? (i := 52) rfl))
theorem kw_244 : Cond.methodLink RX1 86 yX1_stands ∈ w0 := w0_b (kwC_3 (705, Cond.methodLink RX1 86 yX1_stands) (List.mem_of_getElem? (i := 53) rfl))
theorem kw_245 : Cond.static yX1_stands ∈ w0 := w0_b (kwC_3 (706, Cond.static yX1_stands) (List.mem_of_getElem? (i := 54) rfl))
theorem kw_791 : Cond.methodLink RL 213 yL_often ∈ w0 := w0_b (kwC_3 (708, Cond.methodLink RL 213 yL_often) (List.mem_of_getElem? (i := 55) rfl))
theorem kw_792 : Cond.static yL_often ∈ w0 := w0_b (kwC_3 (709, Cond.static yL_often) (List.mem_of_getElem? (i := 56) rfl))
theorem kw_596 : Cond.methodLink RL 69 yX1_often ∈ w0 := w0_b (kwC_3 (711, Cond.methodLink RL 69 yX1_often) (List.mem_of_getElem? (i := 57) rfl))
theorem kw_597 : Cond.instanceMethod yX1_often ∈ w0 := w0_b (kwC_3 (712, Cond.instanceMethod yX1_often) (List.mem_of_getElem? (i := 58) rfl))
theorem kw_598 : Cond.selects RX1 yX1_often yX1_often ∈ w0 := w0_b (kwC_3 (713, Cond.selects RX1 yX1_often yX1_often) (List.mem_of_getElem? (i := 59) rfl))
theorem kw_798 : Cond.methodLink RL 216 yL_hasAll ∈ w0 := w0_b (kwC_3 (715, Cond.methodLink RL 216 yL_hasAll) (List.mem_of_getElem? (i := 60) rfl))
theorem kw_799 : Cond.static yL_hasAll ∈ w0 := w0_b (kwC_3 (716, Cond.static yL_hasAll) (List.mem_of_getElem? (i := 61) rfl))
theorem kw_592 : Cond.methodLink RL 72 yX1_hasAll ∈ w0 := w0_b (kwC_3 (718, Cond.methodLink RL 72 yX1_hasAll) (List.mem_of_getElem? (i := 62) rfl))
theorem kw_593 : Cond.instanceMethod yX1_hasAll ∈ w0 := w0_b (kwC_3 (719, Cond.instanceMethod yX1_hasAll) (List.mem_of_getElem? (i := 63) rfl))
theorem kw_594 : Cond.selects RX1 yX1_hasAll yX1_hasAll ∈ w0 := w0_b (kwC_3 (720, Cond.selects RX1 yX1_hasAll yX1_hasAll) (List.mem_of_getElem? (i := 64) rfl))
theorem kw_247 : Cond.methodLink RX1 90 yX1_hasOneThatStands ∈ w0 := w0_b (kwC_3 (722, Cond.methodLink RX1 90 yX1_hasOneThatStands) (List.mem_of_getElem? (i := 65) rfl))
theorem kw_248 : Cond.static yX1_hasOneThatStands ∈ w0 := w0_b (kwC_3 (723, Cond.static yX1_hasOneThatStands) (List.mem_of_getElem? (i := 66) rfl))
theorem kw_805 : Cond.methodLink RL 219 yL_areApart ∈ w0 := w0_b (kwC_3 (725, Cond.methodLink RL 219 yL_areApart) (List.mem_of_getElem? (i := 67) rfl))
theorem kw_806 : Cond.static yL_areApart ∈ w0 := w0_b (kwC_3 (726, Cond.static yL_areApart) (List.mem_of_getElem? (i := 68) rfl))
theorem kw_588 : Cond.methodLink RL 75 yX1_areApart ∈ w0 := w0_b (kwC_3 (728, Cond.methodLink RL 75 yX1_areApart) (List.mem_of_getElem? (i := 69) rfl))
theorem kw_589 : Cond.instanceMethod yX1_areApart ∈ w0 := w0_b (kwC_3 (729, Cond.instanceMethod yX1_areApart) (List.mem_of_getElem? (i := 70) rfl))
theorem kw_590 : Cond.selects RX1 yX1_areApart yX1_areApart ∈ w0 := w0_b (kwC_3 (730, Cond.selects RX1 yX1_areApart yX1_areApart) (List.mem_of_getElem? (i := 71) rfl))
theorem kw_812 : Cond.methodLink RL 222 yL_indexOfAll ∈ w0 := w0_b (kwC_3 (732, Cond.methodLink RL 222 yL_indexOfAll) (List.mem_of_getElem? (i := 72) rfl))
theorem kw_813 : Cond.static yL_indexOfAll ∈ w0 := w0_b (kwC_3 (733, Cond.static yL_indexOfAll) (List.mem_of_getElem? (i := 73) rfl))
theorem kw_584 : Cond.methodLink RL 78 yX1_indexOfAll ∈ w0 := w0_b (kwC_3 (735, Cond.methodLink RL 78 yX1_indexOfAll) (List.mem_of_getElem? (i := 74) rfl))
theorem kw_585 : Cond.instanceMethod yX1_indexOfAll ∈ w0 := w0_b (kwC_3 (736, Cond.instanceMethod yX1_indexOfAll) (List.mem_of_getElem? (i := 75) rfl))
theorem kw_586 : Cond.selects RX1 yX1_indexOfAll yX1_indexOfAll ∈ w0 := w0_b (kwC_3 (737, Cond.selects RX1 yX1_indexOfAll yX1_indexOfAll) (List.mem_of_getElem? (i := 76) rfl))
theorem kw_819 : Cond.methodLink RL 225 yL_areEqual ∈ w0 := w0_b (kwC_3 (739, Cond.methodLink RL 225 yL_areEqual) (List.mem_of_getElem? (i := 77) rfl))
theorem kw_820 : Cond.static yL_areEqual ∈ w0 := w0_b (kwC_3 (740, Cond.static yL_areEqual) (List.mem_of_getElem? (i := 78) rfl))
theorem kw_577 : Cond.methodLink RL 81 yX1_areEqual ∈ w0 := w0_b (kwC_3 (742, Cond.methodLink RL 81 yX1_areEqual) (List.mem_of_getElem? (i := 79) rfl))
theorem kw_578 : Cond.instanceMethod yX1_areEqual ∈ w0 := w0_b (kwC_3 (743, Cond.instanceMethod yX1_areEqual) (List.mem_of_getElem? (i := 80) rfl))
theorem kw_579 : Cond.selects RX1 yX1_areEqual yX1_areEqual ∈ w0 := w0_b (kwC_3 (744, Cond.selects RX1 yX1_areEqual yX1_areEqual) (List.mem_of_getElem? (i := 81) rfl))
theorem kw_826 : Cond.methodLink RL 228 yL_code ∈ w0 := w0_b (kwC_3 (746, Cond.methodLink RL 228 yL_code) (List.mem_of_getElem? (i := 82) rfl))
theorem kw_827 : Cond.static yL_code ∈ w0 := w0_b (kwC_3 (747, Cond.static yL_code) (List.mem_of_getElem? (i := 83) rfl))
theorem kw_575 : Cond.methodLink RL 84 yX1_code ∈ w0 := w0_b (kwC_3 (749, Cond.methodLink RL 84 yX1_code) (List.mem_of_getElem? (i := 84) rfl))
theorem kw_678 : Cond.methodLink RL 231 yL_walk ∈ w0 := w0_b (kwC_3 (750, Cond.methodLink RL 231 yL_walk) (List.mem_of_getElem? (i := 85) rfl))
theorem kw_679 : Cond.static yL_walk ∈ w0 := w0_b (kwC_3 (751, Cond.static yL_walk) (List.mem_of_getElem? (i := 86) rfl))
theorem kw_529 : Cond.methodLink RL 87 yX1_walk ∈ w0 := w0_b (kwC_3 (753, Cond.methodLink RL 87 yX1_walk) (List.mem_of_getElem? (i := 87) rfl))
theorem kw_530 : Cond.instanceMethod yX1_walk ∈ w0 := w0_b (kwC_3 (754, Cond.instanceMethod yX1_walk) (List.mem_of_getElem? (i := 88) rfl))
theorem kw_531 : Cond.selects RX1 yX1_walk yX1_walk ∈ w0 := w0_b (kwC_3 (755, Cond.selects RX1 yX1_walk yX1_walk) (List.mem_of_getElem? (i := 89) rfl))
theorem kw_366 : Cond.methodLink RX1 106 yX1_stepsLeft ∈ w0 := w0_b (kwC_3 (757, Cond.methodLink RX1 106 yX1_stepsLeft) (List.mem_of_getElem? (i := 90) rfl))
theorem kw_367 : Cond.static yX1_stepsLeft ∈ w0 := w0_b (kwC_3 (758, Cond.static yX1_stepsLeft) (List.mem_of_getElem? (i := 91) rfl))
theorem kw_352 : Cond.methodLink RX1 110 Lib.Math.min.name ∈ w0 := w0_b (kwC_3 (760, Cond.methodLink RX1 110 Lib.Math.min.name) (List.mem_of_getElem? (i := 92) rfl))
theorem kw_833 : Cond.methodLink RL 235 yL_sum ∈ w0 := w0_b (kwC_3 (761, Cond.methodLink RL 235 yL_sum) (List.mem_of_getElem? (i := 93) rfl))
theorem kw_834 : Cond.static yL_sum ∈ w0 := w0_b (kwC_3 (762, Cond.static yL_sum) (List.mem_of_getElem? (i := 94) rfl))
theorem kw_397 : Cond.methodLink RL 91 yX1_sum ∈ w0 := w0_b (kwC_3 (764, Cond.methodLink RL 91 yX1_sum) (List.mem_of_getElem? (i := 95) rfl))
theorem kw_686 : Cond.methodLink RL 238 yL_walkSet ∈ w0 := w0_b (kwC_3 (765, Cond.methodLink RL 238 yL_walkSet) (List.mem_of_getElem? (i := 96) rfl))
theorem kw_687 : Cond.static yL_walkSet ∈ w0 := w0_b (kwC_3 (766, Cond.static yL_walkSet) (List.mem_of_getElem? (i := 97) rfl))
theorem kw_394 : Cond.methodLink RL 94 yX1_walkSet ∈ w0 := w0_b (kwC_3 (768, Cond.methodLink RL 94 yX1_walkSet) (List.mem_of_getElem? (i := 98) rfl))
theorem kw_395 : Cond.instanceMethod yX1_walkSet ∈ w0 := w0_b (kwC_3 (769, Cond.instanceMethod yX1_walkSet) (List.mem_of_getElem? (i := 99) rfl))
def kwB_4 : List (Nat × Cond) := [(770, Cond.selects RX1 yX1_walkSet yX1_walkSet), (772, Cond.methodLink RX1 118 yX1_checkRule), (773, Cond.static yX1_checkRule), (775, Cond.methodLink RX1 122 yX1_writeRuled), (776, Cond.static yX1_writeRuled), (778, Cond.methodLink RX1 236 yX1_ruled), (779, Cond.static yX1_ruled), (781, Cond.methodLink RX1 240 yX1_withinNumbers), (782, Cond.static yX1_withinNumbers), (784, Cond.methodLink RX1 243 Lib.Math.max.name), (785, Cond.methodLink RL 242 yL_replaceAll), (786, Cond.static yL_replaceAll), (788, Cond.methodLink RL 98 yX1_replaceAll), (789, Cond.instanceMethod yX1_replaceAll), (790, Cond.selects RX1 yX1_replaceAll yX1_replaceAll), (792, Cond.methodLink RL 245 yL_replaceOld), (793, Cond.static yL_replaceOld), (795, Cond.methodLink RL 101 yX1_replaceOld), (796, Cond.instanceMethod yX1_replaceOld), (797, Cond.selects RX1 yX1_replaceOld yX1_replaceOld), (799, Cond.methodLink RL 248 yL_fill), (800, Cond.static yL_fill), (802, Cond.methodLink RL 104 yX1_fill), (803, Cond.instanceMethod yX1_fill), (804, Cond.selects RX1 yX1_fill yX1_fill), (806, Cond.methodLink RL 251 yL_sort), (807, Cond.static yL_sort), (809, Cond.methodLink RL 107 yX1_sort), (810, Cond.instanceMethod yX1_sort), (811, Cond.selects RX1 yX1_sort yX1_sort), (813, Cond.methodLink RX1 126 yX1_sink), (814, Cond.static yX1_sink), (816, Cond.methodLink RX1 246 yJ6_compare_7cf53), (817, Cond.static yJ6_compare_7cf53), (819, Cond.methodLink RX1 137 yX0_exchange), (820, Cond.instanceMethod yX0_exchange), (821, Cond.selects RX0 yX0_exchange yX0_exchange), (823, Cond.methodLink RX0 29 yX0_write), (824, Cond.methodLink RL 255 yL_reverse), (825, Cond.static yL_reverse), (827, Cond.methodLink RL 111 yX1_reverse), (828, Cond.instanceMethod yX1_reverse), (829, Cond.selects RX1 yX1_reverse yX1_reverse), (831, Cond.methodLink RX1 130 yX1_turn), (832, Cond.static yX1_turn), (834, Cond.methodLink RL 258 yL_rotate), (835, Cond.static yL_rotate), (837, Cond.methodLink RL 114 yX1_rotate), (838, Cond.instanceMethod yX1_rotate), (839, Cond.selects RX1 yX1_rotate yX1_rotate), (841, Cond.methodLink RX1 134 yJ9_floorMod_7cf53), (842, Cond.static yJ9_floorMod_7cf53), (844, Cond.methodLink RL 261 yL_swap), (845, Cond.static yL_swap), (847, Cond.methodLink RL 117 yX1_swap), (848, Cond.instanceMethod yX1_swap), (849, Cond.selects RX1 yX1_swap yX1_swap), (851, Cond.methodLink RL 264 yL_add), (852, Cond.static yL_add), (854, Cond.methodLink RL 120 yX1_add), (855, Cond.instanceMethod yX1_add), (856, Cond.selects RX1 yX1_add yX1_add), (858, Cond.methodLink RX1 140 yX1_refuseIf), (860, Cond.instanceMethod yX1_refuseIf), (862, Cond.methodLink RL 267 yL_addAt), (863, Cond.static yL_addAt), (865, Cond.methodLink RL 123 yX1_addAt), (866, Cond.instanceMethod yX1_addAt), (867, Cond.selects RX1 yX1_addAt yX1_addAt), (869, Cond.methodLink RL 270 yL_addAll), (870, Cond.static yL_addAll), (872, Cond.methodLink RL 126 yX1_addAll), (873, Cond.instanceMethod yX1_addAll), (874, Cond.selects RX1 yX1_addAll yX1_addAll), (876, Cond.methodLink RL 273 yL_remove), (877, Cond.static yL_remove), (879, Cond.methodLink RL 129 yX1_remove), (880, Cond.instanceMethod yX1_remove), (881, Cond.selects RX1 yX1_remove yX1_remove), (883, Cond.methodLink RL 276 yL_removeValue), (884, Cond.static yL_removeValue), (886, Cond.methodLink RL 132 yX1_removeValue), (887, Cond.instanceMethod yX1_removeValue), (888, Cond.selects RX1 yX1_removeValue yX1_removeValue), (890, Cond.methodLink RL 279 yL_removeAll), (891, Cond.static yL_removeAll), (893, Cond.methodLink RL 135 yX1_removeAll), (894, Cond.instanceMethod yX1_removeAll), (895, Cond.selects RX1 yX1_removeAll yX1_removeAll), (897, Cond.methodLink RL 282 yL_retainAll), (898, Cond.static yL_retainAll), (900, Cond.methodLink RL 138 yX1_retainAll), (901, Cond.instanceMethod yX1_retainAll), (902, Cond.selects RX1 yX1_retainAll yX1_retainAll), (904, Cond.methodLink RL 285 yL_removeIf), (905, Cond.static yL_removeIf), (907, Cond.methodLink RL 141 yX1_removeIf), (908, Cond.instanceMethod yX1_removeIf), (909, Cond.selects RX1 yX1_removeIf yX1_removeIf), (911, Cond.methodLink RX1 144 yX1_hasOneOfTest)]
theorem kwC_4 : ∀ q ∈ kwB_4, lw_t2[q.1]? = some q.2 ∧ goodWord q.2 = true := by decide +kernel
theorem kw_396 : Cond.selects RX1 yX1_walkSet yX1_walkSet ∈ w0 := w0_b (kwC_4 (770, Cond.selects RX1 yX1_walkSet yX1_walkSet) (List.mem_of_getElem? (i := 0) rfl))
theorem kw_369 : Cond.methodLink RX1 118 yX1_checkRule ∈ w0 := w0_b (kwC_4 (772, Cond.methodLink RX1 118 yX1_checkRule) (List.mem_of_getElem? (i := 1) rfl))
theorem kw_370 : Cond.static yX1_checkRule ∈ w0 := w0_b (kwC_4 (773, Cond.static yX1_checkRule) (List.mem_of_getElem? (i := 2) rfl))
theorem kw_372 : Cond.methodLink RX1 122 yX1_writeRuled ∈ w0 := w0_b (kwC_4 (775, Cond.methodLink RX1 122 yX1_writeRuled) (List.mem_of_getElem? (i := 3) rfl))
theorem kw_373 : Cond.static yX1_writeRuled ∈ w0 := w0_b (kwC_4 (776, Cond.static yX1_writeRuled) (List.mem_of_getElem? (i := 4) rfl))
theorem kw_363 : Cond.methodLink RX1 236 yX1_ruled ∈ w0 := w0_b (kwC_4 (778, Cond.methodLink RX1 236 yX1_ruled) (List.mem_of_getElem? (i := 5) rfl))
theorem kw_364 : Cond.static yX1_ruled ∈ w0 := w0_b (kwC_4 (779, Cond.static yX1_ruled) (List.mem_of_getElem? (i := 6) rfl))
theorem kw_360 : Cond.methodLink RX1 240 yX1_withinNumbers ∈ w0 := w0_b (kwC_4 (781, Cond.methodLink RX1 240 yX1_withinNumbers) (List.mem_of_getElem? (i := 7) rfl))
theorem kw_361 : Cond.static yX1_withinNumbers ∈ w0 := w0_b (kwC_4 (782, Cond.static yX1_withinNumbers) (List.mem_of_getElem? (i := 8) rfl))
theorem kw_356 : Cond.methodLink RX1 243 Lib.Math.max.name ∈ w0 := w0_b (kwC_4 (784, Cond.methodLink RX1 243 Lib.Math.max.name) (List.mem_of_getElem? (i := 9) rfl))
theorem kw_840 : Cond.methodLink RL 242 yL_replaceAll ∈ w0 := w0_b (kwC_4 (785, Cond.methodLink RL 242 yL_replaceAll) (List.mem_of_getElem? (i := 10) rfl))
theorem kw_841 : Cond.static yL_replaceAll ∈ w0 := w0_b (kwC_4 (786, Cond.static yL_replaceAll) (List.mem_of_getElem? (i := 11) rfl))
theorem kw_375 : Cond.methodLink RL 98 yX1_replaceAll ∈ w0 := w0_b (kwC_4 (788, Cond.methodLink RL 98 yX1_replaceAll) (List.mem_of_getElem? (i := 12) rfl))
theorem kw_376 : Cond.instanceMethod yX1_replaceAll ∈ w0 := w0_b (kwC_4 (789, Cond.instanceMethod yX1_replaceAll) (List.mem_of_getElem? (i := 13) rfl))
theorem kw_377 : Cond.selects RX1 yX1_replaceAll yX1_replaceAll ∈ w0 := w0_b (kwC_4 (790, Cond.selects RX1 yX1_replaceAll yX1_replaceAll) (List.mem_of_getElem? (i := 14) rfl))
theorem kw_847 : Cond.methodLink RL 245 yL_replaceOld ∈ w0 := w0_b (kwC_4 (792, Cond.methodLink RL 245 yL_replaceOld) (List.mem_of_getElem? (i := 15) rfl))
theorem kw_848 : Cond.static yL_replaceOld ∈ w0 := w0_b (kwC_4 (793, Cond.static yL_replaceOld) (List.mem_of_getElem? (i := 16) rfl))
theorem kw_345 : Cond.methodLink RL 101 yX1_replaceOld ∈ w0 := w0_b (kwC_4 (795, Cond.methodLink RL 101 yX1_replaceOld) (List.mem_of_getElem? (i := 17) rfl))
theorem kw_346 : Cond.instanceMethod yX1_replaceOld ∈ w0 := w0_b (kwC_4 (796, Cond.instanceMethod yX1_replaceOld) (List.mem_of_getElem? (i := 18) rfl))
theorem kw_347 : Cond.selects RX1 yX1_replaceOld yX1_replaceOld ∈ w0 := w0_b (kwC_4 (797, Cond.selects RX1 yX1_replaceOld yX1_replaceOld) (List.mem_of_getElem? (i := 19) rfl))
theorem kw_854 : Cond.methodLink RL 248 yL_fill ∈ w0 := w0_b (kwC_4 (799, Cond.methodLink RL 248 yL_fill) (List.mem_of_getElem? (i := 20) rfl))
theorem kw_855 : Cond.static yL_fill ∈ w0 := w0_b (kwC_4 (800, Cond.static yL_fill) (List.mem_of_getElem? (i := 21) rfl))
theorem kw_341 : Cond.methodLink RL 104 yX1_fill ∈ w0 := w0_b (kwC_4 (802, Cond.methodLink RL 104 yX1_fill) (List.mem_of_getElem? (i := 22) rfl))
theorem kw_342 : Cond.instanceMethod yX1_fill ∈ w0 := w0_b (kwC_4 (803, Cond.instanceMethod yX1_fill) (List.mem_of_getElem? (i := 23) rfl))
theorem kw_343 : Cond.selects RX1 yX1_fill yX1_fill ∈ w0 := w0_b (kwC_4 (804, Cond.selects RX1 yX1_fill yX1_fill) (List.mem_of_getElem? (i := 24) rfl))
theorem kw_693 : Cond.methodLink RL 251 yL_sort ∈ w0 := w0_b (kwC_4 (806, Cond.methodLink RL 251 yL_sort) (List.mem_of_getElem? (i := 25) rfl))
theorem kw_694 : Cond.static yL_sort ∈ w0 := w0_b (kwC_4 (807, Cond.static yL_sort) (List.mem_of_getElem? (i := 26) rfl))
theorem kw_334 : Cond.methodLink RL 107 yX1_sort ∈ w0 := w0_b (kwC_4 (809, Cond.methodLink RL 107 yX1_sort) (List.mem_of_getElem? (i := 27) rfl))
theorem kw_335 : Cond.instanceMethod yX1_sort ∈ w0 := w0_b (kwC_4 (810, Cond.instanceMethod yX1_sort) (List.mem_of_getElem? (i := 28) rfl))
theorem kw_336 : Cond.selects RX1 yX1_sort yX1_sort ∈ w0 := w0_b (kwC_4 (811, Cond.selects RX1 yX1_sort yX1_sort) (List.mem_of_getElem? (i := 29) rfl))
theorem kw_331 : Cond.methodLink RX1 126 yX1_sink ∈ w0 := w0_b (kwC_4 (813, Cond.methodLink RX1 126 yX1_sink) (List.mem_of_getElem? (i := 30) rfl))
theorem kw_332 : Cond.static yX1_sink ∈ w0 := w0_b (kwC_4 (814, Cond.static yX1_sink) (List.mem_of_getElem? (i := 31) rfl))
theorem kw_327 : Cond.methodLink RX1 246 yJ6_compare_7cf53 ∈ w0 := w0_b (kwC_4 (816, Cond.methodLink RX1 246 yJ6_compare_7cf53) (List.mem_of_getElem? (i := 32) rfl))
theorem kw_328 : Cond.static yJ6_compare_7cf53 ∈ w0 := w0_b (kwC_4 (817, Cond.static yJ6_compare_7cf53) (List.mem_of_getElem? (i := 33) rfl))
theorem kw_300 : Cond.methodLink RX1 137 yX0_exchange ∈ w0 := w0_b (kwC_4 (819, Cond.methodLink RX1 137 yX0_exchange) (List.mem_of_getElem? (i := 34) rfl))
theorem kw_301 : Cond.instanceMethod yX0_exchange ∈ w0 := w0_b (kwC_4 (820, Cond.instanceMethod yX0_exchange) (List.mem_of_getElem? (i := 35) rfl))
theorem kw_302 : Cond.selects RX0 yX0_exchange yX0_exchange ∈ w0 := w0_b (kwC_4 (821, Cond.selects RX0 yX0_exchange yX0_exchange) (List.mem_of_getElem? (i := 36) rfl))
theorem kw_298 : Cond.methodLink RX0 29 yX0_write ∈ w0 := w0_b (kwC_4 (823, Cond.methodLink RX0 29 yX0_write) (List.mem_of_getElem? (i := 37) rfl))
theorem kw_861 : Cond.methodLink RL 255 yL_reverse ∈ w0 := w0_b (kwC_4 (824, Cond.methodLink RL 255 yL_reverse) (List.mem_of_getElem? (i := 38) rfl))
theorem kw_862 : Cond.static yL_reverse ∈ w0 := w0_b (kwC_4 (825, Cond.static yL_reverse) (List.mem_of_getElem? (i := 39) rfl))
theorem kw_323 : Cond.methodLink RL 111 yX1_reverse ∈ w0 := w0_b (kwC_4 (827, Cond.methodLink RL 111 yX1_reverse) (List.mem_of_getElem? (i := 40) rfl))
theorem kw_324 : Cond.instanceMethod yX1_reverse ∈ w0 := w0_b (kwC_4 (828, Cond.instanceMethod yX1_reverse) (List.mem_of_getElem? (i := 41) rfl))
theorem kw_325 : Cond.selects RX1 yX1_reverse yX1_reverse ∈ w0 := w0_b (kwC_4 (829, Cond.selects RX1 yX1_reverse yX1_reverse) (List.mem_of_getElem? (i := 42) rfl))
theorem kw_316 : Cond.methodLink RX1 130 yX1_turn ∈ w0 := w0_b (kwC_4 (831, Cond.methodLink RX1 130 yX1_turn) (List.mem_of_getElem? (i := 43) rfl))
theorem kw_317 : Cond.static yX1_turn ∈ w0 := w0_b (kwC_4 (832, Cond.static yX1_turn) (List.mem_of_getElem? (i := 44) rfl))
theorem kw_868 : Cond.methodLink RL 258 yL_rotate ∈ w0 := w0_b (kwC_4 (834, Cond.methodLink RL 258 yL_rotate) (List.mem_of_getElem? (i := 45) rfl))
theorem kw_869 : Cond.static yL_rotate ∈ w0 := w0_b (kwC_4 (835, Cond.static yL_rotate) (List.mem_of_getElem? (i := 46) rfl))
theorem kw_319 : Cond.methodLink RL 114 yX1_rotate ∈ w0 := w0_b (kwC_4 (837, Cond.methodLink RL 114 yX1_rotate) (List.mem_of_getElem? (i := 47) rfl))
theorem kw_320 : Cond.instanceMethod yX1_rotate ∈ w0 := w0_b (kwC_4 (838, Cond.instanceMethod yX1_rotate) (List.mem_of_getElem? (i := 48) rfl))
theorem kw_321 : Cond.selects RX1 yX1_rotate yX1_rotate ∈ w0 := w0_b (kwC_4 (839, Cond.selects RX1 yX1_rotate yX1_rotate) (List.mem_of_getElem? (i := 49) rfl))
theorem kw_312 : Cond.methodLink RX1 134 yJ9_floorMod_7cf53 ∈ w0 := w0_b (kwC_4 (841, Cond.methodLink RX1 134 yJ9_floorMod_7cf53) (List.mem_of_getElem? (i := 50) rfl))
theorem kw_313 : Cond.static yJ9_floorMod_7cf53 ∈ w0 := w0_b (kwC_4 (842, Cond.static yJ9_floorMod_7cf53) (List.mem_of_getElem? (i := 51) rfl))
theorem kw_875 : Cond.methodLink RL 261 yL_swap ∈ w0 := w0_b (kwC_4 (844, Cond.methodLink RL 261 yL_swap) (List.mem_of_getElem? (i := 52) rfl))
theorem kw_876 : Cond.static yL_swap ∈ w0 := w0_b (kwC_4 (845, Cond.static yL_swap) (List.mem_of_getElem? (i := 53) rfl))
theorem kw_304 : Cond.methodLink RL 117 yX1_swap ∈ w0 := w0_b (kwC_4 (847, Cond.methodLink RL 117 yX1_swap) (List.mem_of_getElem? (i := 54) rfl))
theorem kw_305 : Cond.instanceMethod yX1_swap ∈ w0 := w0_b (kwC_4 (848, Cond.instanceMethod yX1_swap) (List.mem_of_getElem? (i := 55) rfl))
theorem kw_306 : Cond.selects RX1 yX1_swap yX1_swap ∈ w0 := w0_b (kwC_4 (849, Cond.selects RX1 yX1_swap yX1_swap) (List.mem_of_getElem? (i := 56) rfl))
theorem kw_882 : Cond.methodLink RL 264 yL_add ∈ w0 := w0_b (kwC_4 (851, Cond.methodLink RL 264 yL_add) (List.mem_of_getElem? (i := 57) rfl))
theorem kw_883 : Cond.static yL_add ∈ w0 := w0_b (kwC_4 (852, Cond.static yL_add) (List.mem_of_getElem? (i := 58) rfl))
theorem kw_295 : Cond.methodLink RL 120 yX1_add ∈ w0 := w0_b (kwC_4 (854, Cond.methodLink RL 120 yX1_add) (List.mem_of_getElem? (i := 59) rfl))
theorem kw_296 : Cond.instanceMethod yX1_add ∈ w0 := w0_b (kwC_4 (855, Cond.instanceMethod yX1_add) (List.mem_of_getElem? (i := 60) rfl))
theorem kw_297 : Cond.selects RX1 yX1_add yX1_add ∈ w0 := w0_b (kwC_4 (856, Cond.selects RX1 yX1_add yX1_add) (List.mem_of_getElem? (i := 61) rfl))
theorem kw_202 : Cond.methodLink RX1 140 yX1_refuseIf ∈ w0 := w0_b (kwC_4 (858, Cond.methodLink RX1 140 yX1_refuseIf) (List.mem_of_getElem? (i := 62) rfl))
theorem kw_203 : Cond.instanceMethod yX1_refuseIf ∈ w0 := w0_b (kwC_4 (860, Cond.instanceMethod yX1_refuseIf) (List.mem_of_getElem? (i := 63) rfl))
theorem kw_889 : Cond.methodLink RL 267 yL_addAt ∈ w0 := w0_b (kwC_4 (862, Cond.methodLink RL 267 yL_addAt) (List.mem_of_getElem? (i := 64) rfl))
theorem kw_890 : Cond.static yL_addAt ∈ w0 := w0_b (kwC_4 (863, Cond.static yL_addAt) (List.mem_of_getElem? (i := 65) rfl))
theorem kw_287 : Cond.methodLink RL 123 yX1_addAt ∈ w0 := w0_b (kwC_4 (865, Cond.methodLink RL 123 yX1_addAt) (List.mem_of_getElem? (i := 66) rfl))
theorem kw_288 : Cond.instanceMethod yX1_addAt ∈ w0 := w0_b (kwC_4 (866, Cond.instanceMethod yX1_addAt) (List.mem_of_getElem? (i := 67) rfl))
theorem kw_289 : Cond.selects RX1 yX1_addAt yX1_addAt ∈ w0 := w0_b (kwC_4 (867, Cond.selects RX1 yX1_addAt yX1_addAt) (List.mem_of_getElem? (i := 68) rfl))
theorem kw_896 : Cond.methodLink RL 270 yL_addAll ∈ w0 := w0_b (kwC_4 (869, Cond.methodLink RL 270 yL_addAll) (List.mem_of_getElem? (i := 69) rfl))
theorem kw_897 : Cond.static yL_addAll ∈ w0 := w0_b (kwC_4 (870, Cond.static yL_addAll) (List.mem_of_getElem? (i := 70) rfl))
theorem kw_283 : Cond.methodLink RL 126 yX1_addAll ∈ w0 := w0_b (kwC_4 (872, Cond.methodLink RL 126 yX1_addAll) (List.mem_of_getElem? (i := 71) rfl))
theorem kw_284 : Cond.instanceMethod yX1_addAll ∈ w0 := w0_b (kwC_4 (873, Cond.instanceMethod yX1_addAll) (List.mem_of_getElem? (i := 72) rfl))
theorem kw_285 : Cond.selects RX1 yX1_addAll yX1_addAll ∈ w0 := w0_b (kwC_4 (874, Cond.selects RX1 yX1_addAll yX1_addAll) (List.mem_of_getElem? (i := 73) rfl))
theorem kw_903 : Cond.methodLink RL 273 yL_remove ∈ w0 := w0_b (kwC_4 (876, Cond.methodLink RL 273 yL_remove) (List.mem_of_getElem? (i := 74) rfl))
theorem kw_904 : Cond.static yL_remove ∈ w0 := w0_b (kwC_4 (877, Cond.static yL_remove) (List.mem_of_getElem? (i := 75) rfl))
theorem kw_279 : Cond.methodLink RL 129 yX1_remove ∈ w0 := w0_b (kwC_4 (879, Cond.methodLink RL 129 yX1_remove) (List.mem_of_getElem? (i := 76) rfl))
theorem kw_280 : Cond.instanceMethod yX1_remove ∈ w0 := w0_b (kwC_4 (880, Cond.instanceMethod yX1_remove) (List.mem_of_getElem? (i := 77) rfl))
theorem kw_281 : Cond.selects RX1 yX1_remove yX1_remove ∈ w0 := w0_b (kwC_4 (881, Cond.selects RX1 yX1_remove yX1_remove) (List.mem_of_getElem? (i := 78) rfl))
theorem kw_910 : Cond.methodLink RL 276 yL_removeValue ∈ w0 := w0_b (kwC_4 (883, Cond.methodLink RL 276 yL_removeValue) (List.mem_of_getElem? (i := 79) rfl))
theorem kw_911 : Cond.static yL_removeValue ∈ w0 := w0_b (kwC_4 (884, Cond.static yL_removeValue) (List.mem_of_getElem? (i := 80) rfl))
theorem kw_272 : Cond.methodLink RL 132 yX1_removeValue ∈ w0 := w0_b (kwC_4 (886, Cond.methodLink RL 132 yX1_removeValue) (List.mem_of_getElem? (i := 81) rfl))
theorem kw_273 : Cond.instanceMethod yX1_removeValue ∈ w0 := w0_b (kwC_4 (887, Cond.instanceMethod yX1_removeValue) (List.mem_of_getElem? (i := 82) rfl))
theorem kw_274 : Cond.selects RX1 yX1_removeValue yX1_removeValue ∈ w0 := w0_b (kwC_4 (888, Cond.selects RX1 yX1_removeValue yX1_removeValue) (List.mem_of_getElem? (i := 83) rfl))
theorem kw_917 : Cond.methodLink RL 279 yL_removeAll ∈ w0 := w0_b (kwC_4 (890, Cond.methodLink RL 279 yL_removeAll) (List.mem_of_getElem? (i := 84) rfl))
theorem kw_918 : Cond.static yL_removeAll ∈ w0 := w0_b (kwC_4 (891, Cond.static yL_removeAll) (List.mem_of_getElem? (i := 85) rfl))
theorem kw_265 : Cond.methodLink RL 135 yX1_removeAll ∈ w0 := w0_b (kwC_4 (893, Cond.methodLink RL 135 yX1_removeAll) (List.mem_of_getElem? (i := 86) rfl))
theorem kw_266 : Cond.instanceMethod yX1_removeAll ∈ w0 := w0_b (kwC_4 (894, Cond.instanceMethod yX1_removeAll) (List.mem_of_getElem? (i := 87) rfl))
theorem kw_267 : Cond.selects RX1 yX1_removeAll yX1_removeAll ∈ w0 := w0_b (kwC_4 (895, Cond.selects RX1 yX1_removeAll yX1_removeAll) (List.mem_of_getElem? (i := 88) rfl))
theorem kw_924 : Cond.methodLink RL 282 yL_retainAll ∈ w0 := w0_b (kwC_4 (897, Cond.methodLink RL 282 yL_retainAll) (List.mem_of_getElem? (i := 89) rfl))
theorem kw_925 : Cond.static yL_retainAll ∈ w0 := w0_b (kwC_4 (898, Cond.static yL_retainAll) (List.mem_of_getElem? (i := 90) rfl))
theorem kw_250 : Cond.methodLink RL 138 yX1_retainAll ∈ w0 := w0_b (kwC_4 (900, Cond.methodLink RL 138 yX1_retainAll) (List.mem_of_getElem? (i := 91) rfl))
theorem kw_251 : Cond.instanceMethod yX1_retainAll ∈ w0 := w0_b (kwC_4 (901, Cond.instanceMethod yX1_retainAll) (List.mem_of_getElem? (i := 92) rfl))
theorem kw_252 : Cond.selects RX1 yX1_retainAll yX1_retainAll ∈ w0 := w0_b (kwC_4 (902, Cond.selects RX1 yX1_retainAll yX1_retainAll) (List.mem_of_getElem? (i := 93) rfl))
theorem kw_931 : Cond.methodLink RL 285 yL_removeIf ∈ w0 := w0_b (kwC_4 (904, Cond.methodLink RL 285 yL_removeIf) (List.mem_of_getElem? (i := 94) rfl))
theorem kw_932 : Cond.static yL_removeIf ∈ w0 := w0_b (kwC_4 (905, Cond.static yL_removeIf) (List.mem_of_getElem? (i := 95) rfl))
theorem kw_237 : Cond.methodLink RL 141 yX1_removeIf ∈ w0 := w0_b (kwC_4 (907, Cond.methodLink RL 141 yX1_removeIf) (List.mem_of_getElem? (i := 96) rfl))
theorem kw_238 : Cond.instanceMethod yX1_removeIf ∈ w0 := w0_b (kwC_4 (908, Cond.instanceMethod yX1_removeIf) (List.mem_of_getElem? (i := 97) rfl))
theorem kw_239 : Cond.selects RX1 yX1_removeIf yX1_removeIf ∈ w0 := w0_b (kwC_4 (909, Cond.selects RX1 yX1_removeIf yX1_removeIf) (List.mem_of_getElem? (i := 98) rfl))
theorem kw_234 : Cond.methodLink RX1 144 yX1_hasOneOfTest ∈ w0 := w0_b (kwC_4 (911, Cond.methodLink RX1 144 yX1_hasOneOfTest) (List.mem_of_getElem? (i := 99) rfl))
def kwB_5 : List (Nat × Cond) := [(912, Cond.static yX1_hasOneOfTest), (914, Cond.methodLink RX1 232 yX1_isOfTest), (915, Cond.static yX1_isOfTest), (917, Cond.methodLink RL 288 yL_clear), (918, Cond.static yL_clear), (920, Cond.methodLink RL 144 yX1_clear), (921, Cond.instanceMethod yX1_clear), (922, Cond.selects RX1 yX1_clear yX1_clear), (924, Cond.methodLink RL 291 yL_walkChange), (925, Cond.static yL_walkChange), (927, Cond.methodLink RL 147 yX1_walkChange), (928, Cond.instanceMethod yX1_walkChange), (929, Cond.selects RX1 yX1_walkChange yX1_walkChange), (931, Cond.methodLink RL 298 yL_house), (932, Cond.static yL_house), (934, Cond.methodLink RL 150 yX1_house), (935, Cond.methodLink RL 301 yL_rowOf), (936, Cond.static yL_rowOf), (938, Cond.methodLink RL 153 yX1_rowOf), (939, Cond.methodLink RL 304 yL_begin), (940, Cond.static yL_begin), (942, Cond.methodLink RL 156 yX1_begin), (943, Cond.classLink RL 160 RX3), (944, Cond.instantiable RX3 8), (945, Cond.methodLink RL 162 yX3_init), (946, Cond.instanceMethod yX3_init), (948, Cond.methodLink RX3 1 objectInit), (949, Cond.classLink RX3 7 "[I"), (951, Cond.fieldLink RX3 9 "TwinrowModel" "rows" "[[I"), (952, Cond.fieldLink RX3 15 "TwinrowModel" "rowsOf" "[I"), (953, Cond.fieldLink RX3 18 "TwinrowModel" "begins" "[I"), (954, Cond.fieldLink RX3 21 "TwinrowModel" "lengths" "[I"), (955, Cond.fieldLink RX3 168 "TwinrowModel" "knocks" "I"), (956, Cond.fieldLink RX3 44 "TwinrowModel" "refusals" "I"), (957, Cond.fieldLink RX3 28 "TwinrowModel" "thrown" "I"), (958, Cond.fieldLink RX3 177 "TwinrowModel" "sum" "J"), (976, Cond.methodLink RL 174 yX3_thrown), (977, Cond.instanceMethod yX3_thrown), (978, Cond.selects RX3 yX3_thrown yX3_thrown), (980, Cond.methodLink RL 169 yX3_lay), (981, Cond.instanceMethod yX3_lay), (982, Cond.selects RX3 yX3_lay yX3_lay), (984, Cond.methodLink RX3 24 yX3_isIn), (985, Cond.static yX3_isIn), (987, Cond.methodLink RX3 81 yX3_fails), (989, Cond.instanceMethod yX3_fails), (991, Cond.methodLink RL 173 yX3_put), (992, Cond.instanceMethod yX3_put), (993, Cond.selects RX3 yX3_put yX3_put), (995, Cond.methodLink RX3 85 yX3_isNoRowPlace), (997, Cond.instanceMethod yX3_isNoRowPlace), (999, Cond.methodLink RX3 89 yX3_isNoValue), (1000, Cond.static yX3_isNoValue), (1002, Cond.methodLink RL 180 yX3_at), (1003, Cond.instanceMethod yX3_at), (1004, Cond.selects RX3 yX3_at yX3_at), (1006, Cond.methodLink RL 184 yX3_part), (1007, Cond.instanceMethod yX3_part), (1008, Cond.selects RX3 yX3_part yX3_part), (1010, Cond.methodLink RX3 32 yX3_isNoList), (1012, Cond.instanceMethod yX3_isNoList), (1014, Cond.methodLink RL 187 yX3_set), (1015, Cond.instanceMethod yX3_set), (1016, Cond.selects RX3 yX3_set yX3_set), (1018, Cond.methodLink RX3 92 yX3_isNoPlace), (1020, Cond.instanceMethod yX3_isNoPlace), (1022, Cond.methodLink RX3 36 yX3_value), (1024, Cond.instanceMethod yX3_value), (1026, Cond.methodLink RX3 40 yX3_write), (1028, Cond.instanceMethod yX3_write), (1030, Cond.methodLink RL 190 yX3_get), (1031, Cond.instanceMethod yX3_get), (1032, Cond.selects RX3 yX3_get yX3_get), (1034, Cond.methodLink RL 194 yX3_length), (1035, Cond.instanceMethod yX3_length), (1036, Cond.selects RX3 yX3_length yX3_length), (1038, Cond.methodLink RL 197 yX3_isEmpty), (1039, Cond.instanceMethod yX3_isEmpty), (1040, Cond.selects RX3 yX3_isEmpty yX3_isEmpty), (1042, Cond.methodLink RL 200 yX3_text), (1043, Cond.instanceMethod yX3_text), (1044, Cond.selects RX3 yX3_text yX3_text), (1046, Cond.methodLink RX3 111 yX3_line), (1048, Cond.instanceMethod yX3_line), (1051, Cond.methodLink RX3 95 yX3_all), (1053, Cond.instanceMethod yX3_all), (1055, Cond.methodLink RX3 99 yJ0_isEmpty_aae02), (1056, Cond.instanceMethod yJ0_isEmpty_aae02), (1057, Cond.selects RJ0 yJ0_isEmpty_aae02 yJ0_isEmpty_aae02), (1059, Cond.methodLink RX3 105 yX3_shown), (1060, Cond.static yX3_shown), (1063, Cond.classLink RX3 65 RJ4), (1064, Cond.methodLink RX3 67 yJ4_init_da8c8), (1065, Cond.methodLink RX3 70 yJ4_append_15ec4), (1066, Cond.methodLink RX3 74 yJ4_append_bf812), (1067, Cond.methodLink RX3 77 yJ4_toString_0e30d), (1069, Cond.methodLink RL 203 yX3_back), (1070, Cond.instanceMethod yX3_back), (1071, Cond.selects RX3 yX3_back yX3_back), (1073, Cond.methodLink RL 206 yX3_indexOf)]
theorem kwC_5 : ∀ q ∈ kwB_5, lw_t2[q.1]? = some q.2 ∧ goodWord q.2 = true := by decide +kernel
theorem kw_235 : Cond.static yX1_hasOneOfTest ∈ w0 := w0_b (kwC_5 (912, Cond.static yX1_hasOneOfTest) (List.mem_of_getElem? (i := 0) rfl))
theorem kw_231 : Cond.methodLink RX1 232 yX1_isOfTest ∈ w0 := w0_b (kwC_5 (914, Cond.methodLink RX1 232 yX1_isOfTest) (List.mem_of_getElem? (i := 1) rfl))
theorem kw_232 : Cond.static yX1_isOfTest ∈ w0 := w0_b (kwC_5 (915, Cond.static yX1_isOfTest) (List.mem_of_getElem? (i := 2) rfl))
theorem kw_938 : Cond.methodLink RL 288 yL_clear ∈ w0 := w0_b (kwC_5 (917, Cond.methodLink RL 288 yL_clear) (List.mem_of_getElem? (i := 3) rfl))
theorem kw_939 : Cond.static yL_clear ∈ w0 := w0_b (kwC_5 (918, Cond.static yL_clear) (List.mem_of_getElem? (i := 4) rfl))
theorem kw_223 : Cond.methodLink RL 144 yX1_clear ∈ w0 := w0_b (kwC_5 (920, Cond.methodLink RL 144 yX1_clear) (List.mem_of_getElem? (i := 5) rfl))
theorem kw_224 : Cond.instanceMethod yX1_clear ∈ w0 := w0_b (kwC_5 (921, Cond.instanceMethod yX1_clear) (List.mem_of_getElem? (i := 6) rfl))
theorem kw_225 : Cond.selects RX1 yX1_clear yX1_clear ∈ w0 := w0_b (kwC_5 (922, Cond.selects RX1 yX1_clear yX1_clear) (List.mem_of_getElem? (i := 7) rfl))
theorem kw_945 : Cond.methodLink RL 291 yL_walkChange ∈ w0 := w0_b (kwC_5 (924, Cond.methodLink RL 291 yL_walkChange) (List.mem_of_getElem? (i := 8) rfl))
theorem kw_946 : Cond.static yL_walkChange ∈ w0 := w0_b (kwC_5 (925, Cond.static yL_walkChange) (List.mem_of_getElem? (i := 9) rfl))
theorem kw_206 : Cond.methodLink RL 147 yX1_walkChange ∈ w0 := w0_b (kwC_5 (927, Cond.methodLink RL 147 yX1_walkChange) (List.mem_of_getElem? (i := 10) rfl))
theorem kw_207 : Cond.instanceMethod yX1_walkChange ∈ w0 := w0_b (kwC_5 (928, Cond.instanceMethod yX1_walkChange) (List.mem_of_getElem? (i := 11) rfl))
theorem kw_208 : Cond.selects RX1 yX1_walkChange yX1_walkChange ∈ w0 := w0_b (kwC_5 (929, Cond.selects RX1 yX1_walkChange yX1_walkChange) (List.mem_of_getElem? (i := 12) rfl))
theorem kw_960 : Cond.methodLink RL 298 yL_house ∈ w0 := w0_b (kwC_5 (931, Cond.methodLink RL 298 yL_house) (List.mem_of_getElem? (i := 13) rfl))
theorem kw_961 : Cond.static yL_house ∈ w0 := w0_b (kwC_5 (932, Cond.static yL_house) (List.mem_of_getElem? (i := 14) rfl))
theorem kw_197 : Cond.methodLink RL 150 yX1_house ∈ w0 := w0_b (kwC_5 (934, Cond.methodLink RL 150 yX1_house) (List.mem_of_getElem? (i := 15) rfl))
theorem kw_967 : Cond.methodLink RL 301 yL_rowOf ∈ w0 := w0_b (kwC_5 (935, Cond.methodLink RL 301 yL_rowOf) (List.mem_of_getElem? (i := 16) rfl))
theorem kw_968 : Cond.static yL_rowOf ∈ w0 := w0_b (kwC_5 (936, Cond.static yL_rowOf) (List.mem_of_getElem? (i := 17) rfl))
theorem kw_196 : Cond.methodLink RL 153 yX1_rowOf ∈ w0 := w0_b (kwC_5 (938, Cond.methodLink RL 153 yX1_rowOf) (List.mem_of_getElem? (i := 18) rfl))
theorem kw_974 : Cond.methodLink RL 304 yL_begin ∈ w0 := w0_b (kwC_5 (939, Cond.methodLink RL 304 yL_begin) (List.mem_of_getElem? (i := 19) rfl))
theorem kw_975 : Cond.static yL_begin ∈ w0 := w0_b (kwC_5 (940, Cond.static yL_begin) (List.mem_of_getElem? (i := 20) rfl))
theorem kw_187 : Cond.methodLink RL 156 yX1_begin ∈ w0 := w0_b (kwC_5 (942, Cond.methodLink RL 156 yX1_begin) (List.mem_of_getElem? (i := 21) rfl))
theorem kw_998 : Cond.classLink RL 160 RX3 ∈ w0 := w0_b (kwC_5 (943, Cond.classLink RL 160 RX3) (List.mem_of_getElem? (i := 22) rfl))
theorem kw_999 : Cond.instantiable RX3 8 ∈ w0 := w0_b (kwC_5 (944, Cond.instantiable RX3 8) (List.mem_of_getElem? (i := 23) rfl))
theorem kw_1001 : Cond.methodLink RL 162 yX3_init ∈ w0 := w0_b (kwC_5 (945, Cond.methodLink RL 162 yX3_init) (List.mem_of_getElem? (i := 24) rfl))
theorem kw_1002 : Cond.instanceMethod yX3_init ∈ w0 := w0_b (kwC_5 (946, Cond.instanceMethod yX3_init) (List.mem_of_getElem? (i := 25) rfl))
theorem kw_19 : Cond.methodLink RX3 1 objectInit ∈ w0 := w0_b (kwC_5 (948, Cond.methodLink RX3 1 objectInit) (List.mem_of_getElem? (i := 26) rfl))
theorem kw_20 : Cond.classLink RX3 7 "[I" ∈ w0 := w0_b (kwC_5 (949, Cond.classLink RX3 7 "[I") (List.mem_of_getElem? (i := 27) rfl))
theorem kw_21 : Cond.fieldLink RX3 9 "TwinrowModel" "rows" "[[I" ∈ w0 := w0_b (kwC_5 (951, Cond.fieldLink RX3 9 "TwinrowModel" "rows" "[[I") (List.mem_of_getElem? (i := 28) rfl))
theorem kw_22 : Cond.fieldLink RX3 15 "TwinrowModel" "rowsOf" "[I" ∈ w0 := w0_b (kwC_5 (952, Cond.fieldLink RX3 15 "TwinrowModel" "rowsOf" "[I") (List.mem_of_getElem? (i := 29) rfl))
theorem kw_23 : Cond.fieldLink RX3 18 "TwinrowModel" "begins" "[I" ∈ w0 := w0_b (kwC_5 (953, Cond.fieldLink RX3 18 "TwinrowModel" "begins" "[I") (List.mem_of_getElem? (i := 30) rfl))
theorem kw_24 : Cond.fieldLink RX3 21 "TwinrowModel" "lengths" "[I" ∈ w0 := w0_b (kwC_5 (954, Cond.fieldLink RX3 21 "TwinrowModel" "lengths" "[I") (List.mem_of_getElem? (i := 31) rfl))
theorem kw_163 : Cond.fieldLink RX3 168 "TwinrowModel" "knocks" "I" ∈ w0 := w0_b (kwC_5 (955, Cond.fieldLink RX3 168 "TwinrowModel" "knocks" "I") (List.mem_of_getElem? (i := 32) rfl))
theorem kw_164 : Cond.fieldLink RX3 44 "TwinrowModel" "refusals" "I" ∈ w0 := w0_b (kwC_5 (956, Cond.fieldLink RX3 44 "TwinrowModel" "refusals" "I") (List.mem_of_getElem? (i := 33) rfl))
theorem kw_185 : Cond.fieldLink RX3 28 "TwinrowModel" "thrown" "I" ∈ w0 := w0_b (kwC_5 (957, Cond.fieldLink RX3 28 "TwinrowModel" "thrown" "I") (List.mem_of_getElem? (i := 34) rfl))
theorem kw_149 : Cond.fieldLink RX3 177 "TwinrowModel" "sum" "J" ∈ w0 := w0_b (kwC_5 (958, Cond.fieldLink RX3 177 "TwinrowModel" "sum" "J") (List.mem_of_getElem? (i := 35) rfl))
theorem kw_710 : Cond.methodLink RL 174 yX3_thrown ∈ w0 := w0_b (kwC_5 (976, Cond.methodLink RL 174 yX3_thrown) (List.mem_of_getElem? (i := 36) rfl))
theorem kw_711 : Cond.instanceMethod yX3_thrown ∈ w0 := w0_b (kwC_5 (977, Cond.instanceMethod yX3_thrown) (List.mem_of_getElem? (i := 37) rfl))
theorem kw_712 : Cond.selects RX3 yX3_thrown yX3_thrown ∈ w0 := w0_b (kwC_5 (978, Cond.selects RX3 yX3_thrown yX3_thrown) (List.mem_of_getElem? (i := 38) rfl))
theorem kw_699 : Cond.methodLink RL 169 yX3_lay ∈ w0 := w0_b (kwC_5 (980, Cond.methodLink RL 169 yX3_lay) (List.mem_of_getElem? (i := 39) rfl))
theorem kw_700 : Cond.instanceMethod yX3_lay ∈ w0 := w0_b (kwC_5 (981, Cond.instanceMethod yX3_lay) (List.mem_of_getElem? (i := 40) rfl))
theorem kw_701 : Cond.selects RX3 yX3_lay yX3_lay ∈ w0 := w0_b (kwC_5 (982, Cond.selects RX3 yX3_lay yX3_lay) (List.mem_of_getElem? (i := 41) rfl))
theorem kw_194 : Cond.methodLink RX3 24 yX3_isIn ∈ w0 := w0_b (kwC_5 (984, Cond.methodLink RX3 24 yX3_isIn) (List.mem_of_getElem? (i := 42) rfl))
theorem kw_195 : Cond.static yX3_isIn ∈ w0 := w0_b (kwC_5 (985, Cond.static yX3_isIn) (List.mem_of_getElem? (i := 43) rfl))
theorem kw_190 : Cond.methodLink RX3 81 yX3_fails ∈ w0 := w0_b (kwC_5 (987, Cond.methodLink RX3 81 yX3_fails) (List.mem_of_getElem? (i := 44) rfl))
theorem kw_191 : Cond.instanceMethod yX3_fails ∈ w0 := w0_b (kwC_5 (989, Cond.instanceMethod yX3_fails) (List.mem_of_getElem? (i := 45) rfl))
theorem kw_706 : Cond.methodLink RL 173 yX3_put ∈ w0 := w0_b (kwC_5 (991, Cond.methodLink RL 173 yX3_put) (List.mem_of_getElem? (i := 46) rfl))
theorem kw_707 : Cond.instanceMethod yX3_put ∈ w0 := w0_b (kwC_5 (992, Cond.instanceMethod yX3_put) (List.mem_of_getElem? (i := 47) rfl))
theorem kw_708 : Cond.selects RX3 yX3_put yX3_put ∈ w0 := w0_b (kwC_5 (993, Cond.selects RX3 yX3_put yX3_put) (List.mem_of_getElem? (i := 48) rfl))
theorem kw_657 : Cond.methodLink RX3 85 yX3_isNoRowPlace ∈ w0 := w0_b (kwC_5 (995, Cond.methodLink RX3 85 yX3_isNoRowPlace) (List.mem_of_getElem? (i := 49) rfl))
theorem kw_658 : Cond.instanceMethod yX3_isNoRowPlace ∈ w0 := w0_b (kwC_5 (997, Cond.instanceMethod yX3_isNoRowPlace) (List.mem_of_getElem? (i := 50) rfl))
theorem kw_276 : Cond.methodLink RX3 89 yX3_isNoValue ∈ w0 := w0_b (kwC_5 (999, Cond.methodLink RX3 89 yX3_isNoValue) (List.mem_of_getElem? (i := 51) rfl))
theorem kw_277 : Cond.static yX3_isNoValue ∈ w0 := w0_b (kwC_5 (1000, Cond.static yX3_isNoValue) (List.mem_of_getElem? (i := 52) rfl))
theorem kw_717 : Cond.methodLink RL 180 yX3_at ∈ w0 := w0_b (kwC_5 (1002, Cond.methodLink RL 180 yX3_at) (List.mem_of_getElem? (i := 53) rfl))
theorem kw_718 : Cond.instanceMethod yX3_at ∈ w0 := w0_b (kwC_5 (1003, Cond.instanceMethod yX3_at) (List.mem_of_getElem? (i := 54) rfl))
theorem kw_719 : Cond.selects RX3 yX3_at yX3_at ∈ w0 := w0_b (kwC_5 (1004, Cond.selects RX3 yX3_at yX3_at) (List.mem_of_getElem? (i := 55) rfl))
theorem kw_724 : Cond.methodLink RL 184 yX3_part ∈ w0 := w0_b (kwC_5 (1006, Cond.methodLink RL 184 yX3_part) (List.mem_of_getElem? (i := 56) rfl))
theorem kw_725 : Cond.instanceMethod yX3_part ∈ w0 := w0_b (kwC_5 (1007, Cond.instanceMethod yX3_part) (List.mem_of_getElem? (i := 57) rfl))
theorem kw_726 : Cond.selects RX3 yX3_part yX3_part ∈ w0 := w0_b (kwC_5 (1008, Cond.selects RX3 yX3_part yX3_part) (List.mem_of_getElem? (i := 58) rfl))
theorem kw_211 : Cond.methodLink RX3 32 yX3_isNoList ∈ w0 := w0_b (kwC_5 (1010, Cond.methodLink RX3 32 yX3_isNoList) (List.mem_of_getElem? (i := 59) rfl))
theorem kw_212 : Cond.instanceMethod yX3_isNoList ∈ w0 := w0_b (kwC_5 (1012, Cond.instanceMethod yX3_isNoList) (List.mem_of_getElem? (i := 60) rfl))
theorem kw_731 : Cond.methodLink RL 187 yX3_set ∈ w0 := w0_b (kwC_5 (1014, Cond.methodLink RL 187 yX3_set) (List.mem_of_getElem? (i := 61) rfl))
theorem kw_732 : Cond.instanceMethod yX3_set ∈ w0 := w0_b (kwC_5 (1015, Cond.instanceMethod yX3_set) (List.mem_of_getElem? (i := 62) rfl))
theorem kw_733 : Cond.selects RX3 yX3_set yX3_set ∈ w0 := w0_b (kwC_5 (1016, Cond.selects RX3 yX3_set yX3_set) (List.mem_of_getElem? (i := 63) rfl))
theorem kw_219 : Cond.methodLink RX3 92 yX3_isNoPlace ∈ w0 := w0_b (kwC_5 (1018, Cond.methodLink RX3 92 yX3_isNoPlace) (List.mem_of_getElem? (i := 64) rfl))
theorem kw_220 : Cond.instanceMethod yX3_isNoPlace ∈ w0 := w0_b (kwC_5 (1020, Cond.instanceMethod yX3_isNoPlace) (List.mem_of_getElem? (i := 65) rfl))
theorem kw_152 : Cond.methodLink RX3 36 yX3_value ∈ w0 := w0_b (kwC_5 (1022, Cond.methodLink RX3 36 yX3_value) (List.mem_of_getElem? (i := 66) rfl))
theorem kw_153 : Cond.instanceMethod yX3_value ∈ w0 := w0_b (kwC_5 (1024, Cond.instanceMethod yX3_value) (List.mem_of_getElem? (i := 67) rfl))
theorem kw_308 : Cond.methodLink RX3 40 yX3_write ∈ w0 := w0_b (kwC_5 (1026, Cond.methodLink RX3 40 yX3_write) (List.mem_of_getElem? (i := 68) rfl))
theorem kw_309 : Cond.instanceMethod yX3_write ∈ w0 := w0_b (kwC_5 (1028, Cond.instanceMethod yX3_write) (List.mem_of_getElem? (i := 69) rfl))
theorem kw_738 : Cond.methodLink RL 190 yX3_get ∈ w0 := w0_b (kwC_5 (1030, Cond.methodLink RL 190 yX3_get) (List.mem_of_getElem? (i := 70) rfl))
theorem kw_739 : Cond.instanceMethod yX3_get ∈ w0 := w0_b (kwC_5 (1031, Cond.instanceMethod yX3_get) (List.mem_of_getElem? (i := 71) rfl))
theorem kw_740 : Cond.selects RX3 yX3_get yX3_get ∈ w0 := w0_b (kwC_5 (1032, Cond.selects RX3 yX3_get yX3_get) (List.mem_of_getElem? (i := 72) rfl))
theorem kw_745 : Cond.methodLink RL 194 yX3_length ∈ w0 := w0_b (kwC_5 (1034, Cond.methodLink RL 194 yX3_length) (List.mem_of_getElem? (i := 73) rfl))
theorem kw_746 : Cond.instanceMethod yX3_length ∈ w0 := w0_b (kwC_5 (1035, Cond.instanceMethod yX3_length) (List.mem_of_getElem? (i := 74) rfl))
theorem kw_747 : Cond.selects RX3 yX3_length yX3_length ∈ w0 := w0_b (kwC_5 (1036, Cond.selects RX3 yX3_length yX3_length) (List.mem_of_getElem? (i := 75) rfl))
theorem kw_752 : Cond.methodLink RL 197 yX3_isEmpty ∈ w0 := w0_b (kwC_5 (1038, Cond.methodLink RL 197 yX3_isEmpty) (List.mem_of_getElem? (i := 76) rfl))
theorem kw_753 : Cond.instanceMethod yX3_isEmpty ∈ w0 := w0_b (kwC_5 (1039, Cond.instanceMethod yX3_isEmpty) (List.mem_of_getElem? (i := 77) rfl))
theorem kw_754 : Cond.selects RX3 yX3_isEmpty yX3_isEmpty ∈ w0 := w0_b (kwC_5 (1040, Cond.selects RX3 yX3_isEmpty yX3_isEmpty) (List.mem_of_getElem? (i := 78) rfl))
theorem kw_759 : Cond.methodLink RL 200 yX3_text ∈ w0 := w0_b (kwC_5 (1042, Cond.methodLink RL 200 yX3_text) (List.mem_of_getElem? (i := 79) rfl))
theorem kw_760 : Cond.instanceMethod yX3_text ∈ w0 := w0_b (kwC_5 (1043, Cond.instanceMethod yX3_text) (List.mem_of_getElem? (i := 80) rfl))
theorem kw_761 : Cond.selects RX3 yX3_text yX3_text ∈ w0 := w0_b (kwC_5 (1044, Cond.selects RX3 yX3_text yX3_text) (List.mem_of_getElem? (i := 81) rfl))
theorem kw_619 : Cond.methodLink RX3 111 yX3_line ∈ w0 := w0_b (kwC_5 (1046, Cond.methodLink RX3 111 yX3_line) (List.mem_of_getElem? (i := 82) rfl))
theorem kw_620 : Cond.instanceMethod yX3_line ∈ w0 := w0_b (kwC_5 (1048, Cond.instanceMethod yX3_line) (List.mem_of_getElem? (i := 83) rfl))
theorem kw_157 : Cond.methodLink RX3 95 yX3_all ∈ w0 := w0_b (kwC_5 (1051, Cond.methodLink RX3 95 yX3_all) (List.mem_of_getElem? (i := 84) rfl))
theorem kw_158 : Cond.instanceMethod yX3_all ∈ w0 := w0_b (kwC_5 (1053, Cond.instanceMethod yX3_all) (List.mem_of_getElem? (i := 85) rfl))
theorem kw_572 : Cond.methodLink RX3 99 yJ0_isEmpty_aae02 ∈ w0 := w0_b (kwC_5 (1055, Cond.methodLink RX3 99 yJ0_isEmpty_aae02) (List.mem_of_getElem? (i := 86) rfl))
theorem kw_573 : Cond.instanceMethod yJ0_isEmpty_aae02 ∈ w0 := w0_b (kwC_5 (1056, Cond.instanceMethod yJ0_isEmpty_aae02) (List.mem_of_getElem? (i := 87) rfl))
theorem kw_574 : Cond.selects RJ0 yJ0_isEmpty_aae02 yJ0_isEmpty_aae02 ∈ w0 := w0_b (kwC_5 (1057, Cond.selects RJ0 yJ0_isEmpty_aae02 yJ0_isEmpty_aae02) (List.mem_of_getElem? (i := 88) rfl))
theorem kw_569 : Cond.methodLink RX3 105 yX3_shown ∈ w0 := w0_b (kwC_5 (1059, Cond.methodLink RX3 105 yX3_shown) (List.mem_of_getElem? (i := 89) rfl))
theorem kw_570 : Cond.static yX3_shown ∈ w0 := w0_b (kwC_5 (1060, Cond.static yX3_shown) (List.mem_of_getElem? (i := 90) rfl))
theorem kw_560 : Cond.classLink RX3 65 RJ4 ∈ w0 := w0_b (kwC_5 (1063, Cond.classLink RX3 65 RJ4) (List.mem_of_getElem? (i := 91) rfl))
theorem kw_561 : Cond.methodLink RX3 67 yJ4_init_da8c8 ∈ w0 := w0_b (kwC_5 (1064, Cond.methodLink RX3 67 yJ4_init_da8c8) (List.mem_of_getElem? (i := 92) rfl))
theorem kw_563 : Cond.methodLink RX3 70 yJ4_append_15ec4 ∈ w0 := w0_b (kwC_5 (1065, Cond.methodLink RX3 70 yJ4_append_15ec4) (List.mem_of_getElem? (i := 93) rfl))
theorem kw_566 : Cond.methodLink RX3 74 yJ4_append_bf812 ∈ w0 := w0_b (kwC_5 (1066, Cond.methodLink RX3 74 yJ4_append_bf812) (List.mem_of_getElem? (i := 94) rfl))
theorem kw_567 : Cond.methodLink RX3 77 yJ4_toString_0e30d ∈ w0 := w0_b (kwC_5 (1067, Cond.methodLink RX3 77 yJ4_toString_0e30d) (List.mem_of_getElem? (i := 95) rfl))
theorem kw_766 : Cond.methodLink RL 203 yX3_back ∈ w0 := w0_b (kwC_5 (1069, Cond.methodLink RL 203 yX3_back) (List.mem_of_getElem? (i := 96) rfl))
theorem kw_767 : Cond.instanceMethod yX3_back ∈ w0 := w0_b (kwC_5 (1070, Cond.instanceMethod yX3_back) (List.mem_of_getElem? (i := 97) rfl))
theorem kw_768 : Cond.selects RX3 yX3_back yX3_back ∈ w0 := w0_b (kwC_5 (1071, Cond.selects RX3 yX3_back yX3_back) (List.mem_of_getElem? (i := 98) rfl))
theorem kw_773 : Cond.methodLink RL 206 yX3_indexOf ∈ w0 := w0_b (kwC_5 (1073, Cond.methodLink RL 206 yX3_indexOf) (List.mem_of_getElem? (i := 99) rfl))
def kwB_6 : List (Nat × Cond) := [(1074, Cond.instanceMethod yX3_indexOf), (1075, Cond.selects RX3 yX3_indexOf yX3_indexOf), (1077, Cond.methodLink RX3 115 yX3_placeOf), (1078, Cond.static yX3_placeOf), (1080, Cond.methodLink RL 209 yX3_lastIndexOf), (1081, Cond.instanceMethod yX3_lastIndexOf), (1082, Cond.selects RX3 yX3_lastIndexOf yX3_lastIndexOf), (1084, Cond.methodLink RL 212 yX3_has), (1085, Cond.instanceMethod yX3_has), (1086, Cond.selects RX3 yX3_has yX3_has), (1088, Cond.methodLink RL 215 yX3_often), (1089, Cond.instanceMethod yX3_often), (1090, Cond.selects RX3 yX3_often yX3_often), (1092, Cond.methodLink RX3 119 yX3_oftenIn), (1093, Cond.static yX3_oftenIn), (1095, Cond.methodLink RX3 59 yX3_one), (1096, Cond.static yX3_one), (1098, Cond.methodLink RL 218 yX3_hasAll), (1099, Cond.instanceMethod yX3_hasAll), (1100, Cond.selects RX3 yX3_hasAll yX3_hasAll), (1102, Cond.methodLink RX3 122 yX3_isNoPair), (1104, Cond.instanceMethod yX3_isNoPair), (1106, Cond.methodLink RX3 125 yX3_shared), (1108, Cond.instanceMethod yX3_shared), (1110, Cond.methodLink RL 221 yX3_areApart), (1111, Cond.instanceMethod yX3_areApart), (1112, Cond.selects RX3 yX3_areApart yX3_areApart), (1114, Cond.methodLink RL 224 yX3_indexOfAll), (1115, Cond.instanceMethod yX3_indexOfAll), (1116, Cond.selects RX3 yX3_indexOfAll yX3_indexOfAll), (1118, Cond.methodLink RX3 128 yX3_isAt), (1119, Cond.static yX3_isAt), (1121, Cond.methodLink RL 227 yX3_areEqual), (1122, Cond.instanceMethod yX3_areEqual), (1123, Cond.selects RX3 yX3_areEqual yX3_areEqual), (1125, Cond.methodLink RL 230 yX3_code), (1126, Cond.instanceMethod yX3_code), (1127, Cond.selects RX3 yX3_code yX3_code), (1129, Cond.methodLink RX3 132 yX3_codeNow), (1131, Cond.instanceMethod yX3_codeNow), (1133, Cond.methodLink RL 234 yX3_walk), (1134, Cond.instanceMethod yX3_walk), (1135, Cond.selects RX3 yX3_walk yX3_walk), (1137, Cond.methodLink RX3 135 yX3_isBeyond), (1139, Cond.instanceMethod yX3_isBeyond), (1142, Cond.methodLink RL 237 yX3_sum), (1143, Cond.instanceMethod yX3_sum), (1144, Cond.selects RX3 yX3_sum yX3_sum), (1146, Cond.methodLink RX3 140 yX3_sumNow), (1148, Cond.instanceMethod yX3_sumNow), (1150, Cond.methodLink RL 241 yX3_walkSet), (1151, Cond.instanceMethod yX3_walkSet), (1152, Cond.selects RX3 yX3_walkSet yX3_walkSet), (1154, Cond.methodLink RX3 147 yX3_isNoRule), (1155, Cond.static yX3_isNoRule), (1157, Cond.methodLink RX3 150 yX3_ruledAll), (1159, Cond.instanceMethod yX3_ruledAll), (1161, Cond.methodLink RX3 143 yX3_ruled), (1162, Cond.static yX3_ruled), (1164, Cond.methodLink RX3 55 yX3_bounded), (1165, Cond.static yX3_bounded), (1167, Cond.methodLink RX3 47 Lib.Math.min.name), (1168, Cond.methodLink RX3 52 Lib.Math.max.name), (1169, Cond.methodLink RL 244 yX3_replaceAll), (1170, Cond.instanceMethod yX3_replaceAll), (1171, Cond.selects RX3 yX3_replaceAll yX3_replaceAll), (1173, Cond.methodLink RL 247 yX3_replaceOld), (1174, Cond.instanceMethod yX3_replaceOld), (1175, Cond.selects RX3 yX3_replaceOld yX3_replaceOld), (1177, Cond.methodLink RX3 154 yX3_writeAll), (1179, Cond.instanceMethod yX3_writeAll), (1181, Cond.methodLink RL 250 yX3_fill), (1182, Cond.instanceMethod yX3_fill), (1183, Cond.selects RX3 yX3_fill yX3_fill), (1185, Cond.methodLink RL 254 yX3_sort), (1186, Cond.instanceMethod yX3_sort), (1187, Cond.selects RX3 yX3_sort yX3_sort), (1189, Cond.methodLink RL 257 yX3_reverse), (1190, Cond.instanceMethod yX3_reverse), (1191, Cond.selects RX3 yX3_reverse yX3_reverse), (1193, Cond.methodLink RL 260 yX3_rotate), (1194, Cond.instanceMethod yX3_rotate), (1195, Cond.selects RX3 yX3_rotate yX3_rotate), (1197, Cond.methodLink RL 263 yX3_swap), (1198, Cond.instanceMethod yX3_swap), (1199, Cond.selects RX3 yX3_swap yX3_swap), (1201, Cond.methodLink RL 266 yX3_add), (1202, Cond.instanceMethod yX3_add), (1203, Cond.selects RX3 yX3_add yX3_add), (1205, Cond.methodLink RX3 158 yX3_refused), (1207, Cond.instanceMethod yX3_refused), (1209, Cond.methodLink RL 269 yX3_addAt), (1210, Cond.instanceMethod yX3_addAt), (1211, Cond.selects RX3 yX3_addAt yX3_addAt), (1213, Cond.methodLink RL 272 yX3_addAll), (1214, Cond.instanceMethod yX3_addAll), (1215, Cond.selects RX3 yX3_addAll yX3_addAll), (1217, Cond.methodLink RX3 162 yX3_refusedIf), (1219, Cond.instanceMethod yX3_refusedIf), (1221, Cond.methodLink RL 275 yX3_remove)]
theorem kwC_6 : ∀ q ∈ kwB_6, lw_t2[q.1]? = some q.2 ∧ goodWord q.2 = true := by decide +kernel
theorem kw_774 : Cond.instanceMethod yX3_indexOf ∈ w0 := w0_b (kwC_6 (1074, Cond.instanceMethod yX3_indexOf) (List.mem_of_getElem? (i := 0) rfl))
theorem kw_775 : Cond.selects RX3 yX3_indexOf yX3_indexOf ∈ w0 := w0_b (kwC_6 (1075, Cond.selects RX3 yX3_indexOf yX3_indexOf) (List.mem_of_getElem? (i := 1) rfl))
theorem kw_604 : Cond.methodLink RX3 115 yX3_placeOf ∈ w0 := w0_b (kwC_6 (1077, Cond.methodLink RX3 115 yX3_placeOf) (List.mem_of_getElem? (i := 2) rfl))
theorem kw_605 : Cond.static yX3_placeOf ∈ w0 := w0_b (kwC_6 (1078, Cond.static yX3_placeOf) (List.mem_of_getElem? (i := 3) rfl))
theorem kw_780 : Cond.methodLink RL 209 yX3_lastIndexOf ∈ w0 := w0_b (kwC_6 (1080, Cond.methodLink RL 209 yX3_lastIndexOf) (List.mem_of_getElem? (i := 4) rfl))
theorem kw_781 : Cond.instanceMethod yX3_lastIndexOf ∈ w0 := w0_b (kwC_6 (1081, Cond.instanceMethod yX3_lastIndexOf) (List.mem_of_getElem? (i := 5) rfl))
theorem kw_782 : Cond.selects RX3 yX3_lastIndexOf yX3_lastIndexOf ∈ w0 := w0_b (kwC_6 (1082, Cond.selects RX3 yX3_lastIndexOf yX3_lastIndexOf) (List.mem_of_getElem? (i := 6) rfl))
theorem kw_787 : Cond.methodLink RL 212 yX3_has ∈ w0 := w0_b (kwC_6 (1084, Cond.methodLink RL 212 yX3_has) (List.mem_of_getElem? (i := 7) rfl))
theorem kw_788 : Cond.instanceMethod yX3_has ∈ w0 := w0_b (kwC_6 (1085, Cond.instanceMethod yX3_has) (List.mem_of_getElem? (i := 8) rfl))
theorem kw_789 : Cond.selects RX3 yX3_has yX3_has ∈ w0 := w0_b (kwC_6 (1086, Cond.selects RX3 yX3_has yX3_has) (List.mem_of_getElem? (i := 9) rfl))
theorem kw_794 : Cond.methodLink RL 215 yX3_often ∈ w0 := w0_b (kwC_6 (1088, Cond.methodLink RL 215 yX3_often) (List.mem_of_getElem? (i := 10) rfl))
theorem kw_795 : Cond.instanceMethod yX3_often ∈ w0 := w0_b (kwC_6 (1089, Cond.instanceMethod yX3_often) (List.mem_of_getElem? (i := 11) rfl))
theorem kw_796 : Cond.selects RX3 yX3_often yX3_often ∈ w0 := w0_b (kwC_6 (1090, Cond.selects RX3 yX3_often yX3_often) (List.mem_of_getElem? (i := 12) rfl))
theorem kw_254 : Cond.methodLink RX3 119 yX3_oftenIn ∈ w0 := w0_b (kwC_6 (1092, Cond.methodLink RX3 119 yX3_oftenIn) (List.mem_of_getElem? (i := 13) rfl))
theorem kw_255 : Cond.static yX3_oftenIn ∈ w0 := w0_b (kwC_6 (1093, Cond.static yX3_oftenIn) (List.mem_of_getElem? (i := 14) rfl))
theorem kw_161 : Cond.methodLink RX3 59 yX3_one ∈ w0 := w0_b (kwC_6 (1095, Cond.methodLink RX3 59 yX3_one) (List.mem_of_getElem? (i := 15) rfl))
theorem kw_162 : Cond.static yX3_one ∈ w0 := w0_b (kwC_6 (1096, Cond.static yX3_one) (List.mem_of_getElem? (i := 16) rfl))
theorem kw_801 : Cond.methodLink RL 218 yX3_hasAll ∈ w0 := w0_b (kwC_6 (1098, Cond.methodLink RL 218 yX3_hasAll) (List.mem_of_getElem? (i := 17) rfl))
theorem kw_802 : Cond.instanceMethod yX3_hasAll ∈ w0 := w0_b (kwC_6 (1099, Cond.instanceMethod yX3_hasAll) (List.mem_of_getElem? (i := 18) rfl))
theorem kw_803 : Cond.selects RX3 yX3_hasAll yX3_hasAll ∈ w0 := w0_b (kwC_6 (1100, Cond.selects RX3 yX3_hasAll yX3_hasAll) (List.mem_of_getElem? (i := 19) rfl))
theorem kw_257 : Cond.methodLink RX3 122 yX3_isNoPair ∈ w0 := w0_b (kwC_6 (1102, Cond.methodLink RX3 122 yX3_isNoPair) (List.mem_of_getElem? (i := 20) rfl))
theorem kw_258 : Cond.instanceMethod yX3_isNoPair ∈ w0 := w0_b (kwC_6 (1104, Cond.instanceMethod yX3_isNoPair) (List.mem_of_getElem? (i := 21) rfl))
theorem kw_261 : Cond.methodLink RX3 125 yX3_shared ∈ w0 := w0_b (kwC_6 (1106, Cond.methodLink RX3 125 yX3_shared) (List.mem_of_getElem? (i := 22) rfl))
theorem kw_262 : Cond.instanceMethod yX3_shared ∈ w0 := w0_b (kwC_6 (1108, Cond.instanceMethod yX3_shared) (List.mem_of_getElem? (i := 23) rfl))
theorem kw_808 : Cond.methodLink RL 221 yX3_areApart ∈ w0 := w0_b (kwC_6 (1110, Cond.methodLink RL 221 yX3_areApart) (List.mem_of_getElem? (i := 24) rfl))
theorem kw_809 : Cond.instanceMethod yX3_areApart ∈ w0 := w0_b (kwC_6 (1111, Cond.instanceMethod yX3_areApart) (List.mem_of_getElem? (i := 25) rfl))
theorem kw_810 : Cond.selects RX3 yX3_areApart yX3_areApart ∈ w0 := w0_b (kwC_6 (1112, Cond.selects RX3 yX3_areApart yX3_areApart) (List.mem_of_getElem? (i := 26) rfl))
theorem kw_815 : Cond.methodLink RL 224 yX3_indexOfAll ∈ w0 := w0_b (kwC_6 (1114, Cond.methodLink RL 224 yX3_indexOfAll) (List.mem_of_getElem? (i := 27) rfl))
theorem kw_816 : Cond.instanceMethod yX3_indexOfAll ∈ w0 := w0_b (kwC_6 (1115, Cond.instanceMethod yX3_indexOfAll) (List.mem_of_getElem? (i := 28) rfl))
theorem kw_817 : Cond.selects RX3 yX3_indexOfAll yX3_indexOfAll ∈ w0 := w0_b (kwC_6 (1116, Cond.selects RX3 yX3_indexOfAll yX3_indexOfAll) (List.mem_of_getElem? (i := 29) rfl))
theorem kw_581 : Cond.methodLink RX3 128 yX3_isAt ∈ w0 := w0_b (kwC_6 (1118, Cond.methodLink RX3 128 yX3_isAt) (List.mem_of_getElem? (i := 30) rfl))
theorem kw_582 : Cond.static yX3_isAt ∈ w0 := w0_b (kwC_6 (1119, Cond.static yX3_isAt) (List.mem_of_getElem? (i := 31) rfl))
theorem kw_822 : Cond.methodLink RL 227 yX3_areEqual ∈ w0 := w0_b (kwC_6 (1121, Cond.methodLink RL 227 yX3_areEqual) (List.mem_of_getElem? (i := 32) rfl))
theorem kw_823 : Cond.instanceMethod yX3_areEqual ∈ w0 := w0_b (kwC_6 (1122, Cond.instanceMethod yX3_areEqual) (List.mem_of_getElem? (i := 33) rfl))
theorem kw_824 : Cond.selects RX3 yX3_areEqual yX3_areEqual ∈ w0 := w0_b (kwC_6 (1123, Cond.selects RX3 yX3_areEqual yX3_areEqual) (List.mem_of_getElem? (i := 34) rfl))
theorem kw_829 : Cond.methodLink RL 230 yX3_code ∈ w0 := w0_b (kwC_6 (1125, Cond.methodLink RL 230 yX3_code) (List.mem_of_getElem? (i := 35) rfl))
theorem kw_830 : Cond.instanceMethod yX3_code ∈ w0 := w0_b (kwC_6 (1126, Cond.instanceMethod yX3_code) (List.mem_of_getElem? (i := 36) rfl))
theorem kw_831 : Cond.selects RX3 yX3_code yX3_code ∈ w0 := w0_b (kwC_6 (1127, Cond.selects RX3 yX3_code yX3_code) (List.mem_of_getElem? (i := 37) rfl))
theorem kw_174 : Cond.methodLink RX3 132 yX3_codeNow ∈ w0 := w0_b (kwC_6 (1129, Cond.methodLink RX3 132 yX3_codeNow) (List.mem_of_getElem? (i := 38) rfl))
theorem kw_175 : Cond.instanceMethod yX3_codeNow ∈ w0 := w0_b (kwC_6 (1131, Cond.instanceMethod yX3_codeNow) (List.mem_of_getElem? (i := 39) rfl))
theorem kw_674 : Cond.methodLink RL 234 yX3_walk ∈ w0 := w0_b (kwC_6 (1133, Cond.methodLink RL 234 yX3_walk) (List.mem_of_getElem? (i := 40) rfl))
theorem kw_675 : Cond.instanceMethod yX3_walk ∈ w0 := w0_b (kwC_6 (1134, Cond.instanceMethod yX3_walk) (List.mem_of_getElem? (i := 41) rfl))
theorem kw_676 : Cond.selects RX3 yX3_walk yX3_walk ∈ w0 := w0_b (kwC_6 (1135, Cond.selects RX3 yX3_walk yX3_walk) (List.mem_of_getElem? (i := 42) rfl))
theorem kw_291 : Cond.methodLink RX3 135 yX3_isBeyond ∈ w0 := w0_b (kwC_6 (1137, Cond.methodLink RX3 135 yX3_isBeyond) (List.mem_of_getElem? (i := 43) rfl))
theorem kw_292 : Cond.instanceMethod yX3_isBeyond ∈ w0 := w0_b (kwC_6 (1139, Cond.instanceMethod yX3_isBeyond) (List.mem_of_getElem? (i := 44) rfl))
theorem kw_836 : Cond.methodLink RL 237 yX3_sum ∈ w0 := w0_b (kwC_6 (1142, Cond.methodLink RL 237 yX3_sum) (List.mem_of_getElem? (i := 45) rfl))
theorem kw_837 : Cond.instanceMethod yX3_sum ∈ w0 := w0_b (kwC_6 (1143, Cond.instanceMethod yX3_sum) (List.mem_of_getElem? (i := 46) rfl))
theorem kw_838 : Cond.selects RX3 yX3_sum yX3_sum ∈ w0 := w0_b (kwC_6 (1144, Cond.selects RX3 yX3_sum yX3_sum) (List.mem_of_getElem? (i := 47) rfl))
theorem kw_178 : Cond.methodLink RX3 140 yX3_sumNow ∈ w0 := w0_b (kwC_6 (1146, Cond.methodLink RX3 140 yX3_sumNow) (List.mem_of_getElem? (i := 48) rfl))
theorem kw_179 : Cond.instanceMethod yX3_sumNow ∈ w0 := w0_b (kwC_6 (1148, Cond.instanceMethod yX3_sumNow) (List.mem_of_getElem? (i := 49) rfl))
theorem kw_682 : Cond.methodLink RL 241 yX3_walkSet ∈ w0 := w0_b (kwC_6 (1150, Cond.methodLink RL 241 yX3_walkSet) (List.mem_of_getElem? (i := 50) rfl))
theorem kw_683 : Cond.instanceMethod yX3_walkSet ∈ w0 := w0_b (kwC_6 (1151, Cond.instanceMethod yX3_walkSet) (List.mem_of_getElem? (i := 51) rfl))
theorem kw_684 : Cond.selects RX3 yX3_walkSet yX3_walkSet ∈ w0 := w0_b (kwC_6 (1152, Cond.selects RX3 yX3_walkSet yX3_walkSet) (List.mem_of_getElem? (i := 52) rfl))
theorem kw_387 : Cond.methodLink RX3 147 yX3_isNoRule ∈ w0 := w0_b (kwC_6 (1154, Cond.methodLink RX3 147 yX3_isNoRule) (List.mem_of_getElem? (i := 53) rfl))
theorem kw_388 : Cond.static yX3_isNoRule ∈ w0 := w0_b (kwC_6 (1155, Cond.static yX3_isNoRule) (List.mem_of_getElem? (i := 54) rfl))
theorem kw_390 : Cond.methodLink RX3 150 yX3_ruledAll ∈ w0 := w0_b (kwC_6 (1157, Cond.methodLink RX3 150 yX3_ruledAll) (List.mem_of_getElem? (i := 55) rfl))
theorem kw_391 : Cond.instanceMethod yX3_ruledAll ∈ w0 := w0_b (kwC_6 (1159, Cond.instanceMethod yX3_ruledAll) (List.mem_of_getElem? (i := 56) rfl))
theorem kw_384 : Cond.methodLink RX3 143 yX3_ruled ∈ w0 := w0_b (kwC_6 (1161, Cond.methodLink RX3 143 yX3_ruled) (List.mem_of_getElem? (i := 57) rfl))
theorem kw_385 : Cond.static yX3_ruled ∈ w0 := w0_b (kwC_6 (1162, Cond.static yX3_ruled) (List.mem_of_getElem? (i := 58) rfl))
theorem kw_381 : Cond.methodLink RX3 55 yX3_bounded ∈ w0 := w0_b (kwC_6 (1164, Cond.methodLink RX3 55 yX3_bounded) (List.mem_of_getElem? (i := 59) rfl))
theorem kw_382 : Cond.static yX3_bounded ∈ w0 := w0_b (kwC_6 (1165, Cond.static yX3_bounded) (List.mem_of_getElem? (i := 60) rfl))
theorem kw_378 : Cond.methodLink RX3 47 Lib.Math.min.name ∈ w0 := w0_b (kwC_6 (1167, Cond.methodLink RX3 47 Lib.Math.min.name) (List.mem_of_getElem? (i := 61) rfl))
theorem kw_379 : Cond.methodLink RX3 52 Lib.Math.max.name ∈ w0 := w0_b (kwC_6 (1168, Cond.methodLink RX3 52 Lib.Math.max.name) (List.mem_of_getElem? (i := 62) rfl))
theorem kw_843 : Cond.methodLink RL 244 yX3_replaceAll ∈ w0 := w0_b (kwC_6 (1169, Cond.methodLink RL 244 yX3_replaceAll) (List.mem_of_getElem? (i := 63) rfl))
theorem kw_844 : Cond.instanceMethod yX3_replaceAll ∈ w0 := w0_b (kwC_6 (1170, Cond.instanceMethod yX3_replaceAll) (List.mem_of_getElem? (i := 64) rfl))
theorem kw_845 : Cond.selects RX3 yX3_replaceAll yX3_replaceAll ∈ w0 := w0_b (kwC_6 (1171, Cond.selects RX3 yX3_replaceAll yX3_replaceAll) (List.mem_of_getElem? (i := 65) rfl))
theorem kw_850 : Cond.methodLink RL 247 yX3_replaceOld ∈ w0 := w0_b (kwC_6 (1173, Cond.methodLink RL 247 yX3_replaceOld) (List.mem_of_getElem? (i := 66) rfl))
theorem kw_851 : Cond.instanceMethod yX3_replaceOld ∈ w0 := w0_b (kwC_6 (1174, Cond.instanceMethod yX3_replaceOld) (List.mem_of_getElem? (i := 67) rfl))
theorem kw_852 : Cond.selects RX3 yX3_replaceOld yX3_replaceOld ∈ w0 := w0_b (kwC_6 (1175, Cond.selects RX3 yX3_replaceOld yX3_replaceOld) (List.mem_of_getElem? (i := 68) rfl))
theorem kw_349 : Cond.methodLink RX3 154 yX3_writeAll ∈ w0 := w0_b (kwC_6 (1177, Cond.methodLink RX3 154 yX3_writeAll) (List.mem_of_getElem? (i := 69) rfl))
theorem kw_350 : Cond.instanceMethod yX3_writeAll ∈ w0 := w0_b (kwC_6 (1179, Cond.instanceMethod yX3_writeAll) (List.mem_of_getElem? (i := 70) rfl))
theorem kw_857 : Cond.methodLink RL 250 yX3_fill ∈ w0 := w0_b (kwC_6 (1181, Cond.methodLink RL 250 yX3_fill) (List.mem_of_getElem? (i := 71) rfl))
theorem kw_858 : Cond.instanceMethod yX3_fill ∈ w0 := w0_b (kwC_6 (1182, Cond.instanceMethod yX3_fill) (List.mem_of_getElem? (i := 72) rfl))
theorem kw_859 : Cond.selects RX3 yX3_fill yX3_fill ∈ w0 := w0_b (kwC_6 (1183, Cond.selects RX3 yX3_fill yX3_fill) (List.mem_of_getElem? (i := 73) rfl))
theorem kw_689 : Cond.methodLink RL 254 yX3_sort ∈ w0 := w0_b (kwC_6 (1185, Cond.methodLink RL 254 yX3_sort) (List.mem_of_getElem? (i := 74) rfl))
theorem kw_690 : Cond.instanceMethod yX3_sort ∈ w0 := w0_b (kwC_6 (1186, Cond.instanceMethod yX3_sort) (List.mem_of_getElem? (i := 75) rfl))
theorem kw_691 : Cond.selects RX3 yX3_sort yX3_sort ∈ w0 := w0_b (kwC_6 (1187, Cond.selects RX3 yX3_sort yX3_sort) (List.mem_of_getElem? (i := 76) rfl))
theorem kw_864 : Cond.methodLink RL 257 yX3_reverse ∈ w0 := w0_b (kwC_6 (1189, Cond.methodLink RL 257 yX3_reverse) (List.mem_of_getElem? (i := 77) rfl))
theorem kw_865 : Cond.instanceMethod yX3_reverse ∈ w0 := w0_b (kwC_6 (1190, Cond.instanceMethod yX3_reverse) (List.mem_of_getElem? (i := 78) rfl))
theorem kw_866 : Cond.selects RX3 yX3_reverse yX3_reverse ∈ w0 := w0_b (kwC_6 (1191, Cond.selects RX3 yX3_reverse yX3_reverse) (List.mem_of_getElem? (i := 79) rfl))
theorem kw_871 : Cond.methodLink RL 260 yX3_rotate ∈ w0 := w0_b (kwC_6 (1193, Cond.methodLink RL 260 yX3_rotate) (List.mem_of_getElem? (i := 80) rfl))
theorem kw_872 : Cond.instanceMethod yX3_rotate ∈ w0 := w0_b (kwC_6 (1194, Cond.instanceMethod yX3_rotate) (List.mem_of_getElem? (i := 81) rfl))
theorem kw_873 : Cond.selects RX3 yX3_rotate yX3_rotate ∈ w0 := w0_b (kwC_6 (1195, Cond.selects RX3 yX3_rotate yX3_rotate) (List.mem_of_getElem? (i := 82) rfl))
theorem kw_878 : Cond.methodLink RL 263 yX3_swap ∈ w0 := w0_b (kwC_6 (1197, Cond.methodLink RL 263 yX3_swap) (List.mem_of_getElem? (i := 83) rfl))
theorem kw_879 : Cond.instanceMethod yX3_swap ∈ w0 := w0_b (kwC_6 (1198, Cond.instanceMethod yX3_swap) (List.mem_of_getElem? (i := 84) rfl))
theorem kw_880 : Cond.selects RX3 yX3_swap yX3_swap ∈ w0 := w0_b (kwC_6 (1199, Cond.selects RX3 yX3_swap yX3_swap) (List.mem_of_getElem? (i := 85) rfl))
theorem kw_885 : Cond.methodLink RL 266 yX3_add ∈ w0 := w0_b (kwC_6 (1201, Cond.methodLink RL 266 yX3_add) (List.mem_of_getElem? (i := 86) rfl))
theorem kw_886 : Cond.instanceMethod yX3_add ∈ w0 := w0_b (kwC_6 (1202, Cond.instanceMethod yX3_add) (List.mem_of_getElem? (i := 87) rfl))
theorem kw_887 : Cond.selects RX3 yX3_add yX3_add ∈ w0 := w0_b (kwC_6 (1203, Cond.selects RX3 yX3_add yX3_add) (List.mem_of_getElem? (i := 88) rfl))
theorem kw_215 : Cond.methodLink RX3 158 yX3_refused ∈ w0 := w0_b (kwC_6 (1205, Cond.methodLink RX3 158 yX3_refused) (List.mem_of_getElem? (i := 89) rfl))
theorem kw_216 : Cond.instanceMethod yX3_refused ∈ w0 := w0_b (kwC_6 (1207, Cond.instanceMethod yX3_refused) (List.mem_of_getElem? (i := 90) rfl))
theorem kw_892 : Cond.methodLink RL 269 yX3_addAt ∈ w0 := w0_b (kwC_6 (1209, Cond.methodLink RL 269 yX3_addAt) (List.mem_of_getElem? (i := 91) rfl))
theorem kw_893 : Cond.instanceMethod yX3_addAt ∈ w0 := w0_b (kwC_6 (1210, Cond.instanceMethod yX3_addAt) (List.mem_of_getElem? (i := 92) rfl))
theorem kw_894 : Cond.selects RX3 yX3_addAt yX3_addAt ∈ w0 := w0_b (kwC_6 (1211, Cond.selects RX3 yX3_addAt yX3_addAt) (List.mem_of_getElem? (i := 93) rfl))
theorem kw_899 : Cond.methodLink RL 272 yX3_addAll ∈ w0 := w0_b (kwC_6 (1213, Cond.methodLink RL 272 yX3_addAll) (List.mem_of_getElem? (i := 94) rfl))
theorem kw_900 : Cond.instanceMethod yX3_addAll ∈ w0 := w0_b (kwC_6 (1214, Cond.instanceMethod yX3_addAll) (List.mem_of_getElem? (i := 95) rfl))
theorem kw_901 : Cond.selects RX3 yX3_addAll yX3_addAll ∈ w0 := w0_b (kwC_6 (1215, Cond.selects RX3 yX3_addAll yX3_addAll) (List.mem_of_getElem? (i := 96) rfl))
theorem kw_227 : Cond.methodLink RX3 162 yX3_refusedIf ∈ w0 := w0_b (kwC_6 (1217, Cond.methodLink RX3 162 yX3_refusedIf) (List.mem_of_getElem? (i := 97) rfl))
theorem kw_228 : Cond.instanceMethod yX3_refusedIf ∈ w0 := w0_b (kwC_6 (1219, Cond.instanceMethod yX3_refusedIf) (List.mem_of_getElem? (i := 98) rfl))
theorem kw_906 : Cond.methodLink RL 275 yX3_remove ∈ w0 := w0_b (kwC_6 (1221, Cond.methodLink RL 275 yX3_remove) (List.mem_of_getElem? (i := 99) rfl))
def kwB_7 : List (Nat × Cond) := [(1222, Cond.instanceMethod yX3_remove), (1223, Cond.selects RX3 yX3_remove yX3_remove), (1225, Cond.methodLink RL 278 yX3_removeValue), (1226, Cond.instanceMethod yX3_removeValue), (1227, Cond.selects RX3 yX3_removeValue yX3_removeValue), (1229, Cond.methodLink RL 281 yX3_removeAll), (1230, Cond.instanceMethod yX3_removeAll), (1231, Cond.selects RX3 yX3_removeAll yX3_removeAll), (1233, Cond.methodLink RL 284 yX3_retainAll), (1234, Cond.instanceMethod yX3_retainAll), (1235, Cond.selects RX3 yX3_retainAll yX3_retainAll), (1237, Cond.methodLink RL 287 yX3_removeIf), (1238, Cond.instanceMethod yX3_removeIf), (1239, Cond.selects RX3 yX3_removeIf yX3_removeIf), (1241, Cond.methodLink RX3 165 yX3_tested), (1242, Cond.static yX3_tested), (1244, Cond.methodLink RL 290 yX3_clear), (1245, Cond.instanceMethod yX3_clear), (1246, Cond.selects RX3 yX3_clear yX3_clear), (1248, Cond.methodLink RL 293 yX3_walkChange), (1249, Cond.instanceMethod yX3_walkChange), (1250, Cond.selects RX3 yX3_walkChange yX3_walkChange), (1252, Cond.methodLink RL 297 yX3_knock), (1253, Cond.instanceMethod yX3_knock), (1254, Cond.selects RX3 yX3_knock yX3_knock), (1256, Cond.methodLink RL 300 yX3_house), (1257, Cond.instanceMethod yX3_house), (1258, Cond.selects RX3 yX3_house yX3_house), (1260, Cond.methodLink RX3 171 yX3_houseNow), (1262, Cond.instanceMethod yX3_houseNow), (1264, Cond.methodLink RL 303 yX3_rowOf), (1265, Cond.instanceMethod yX3_rowOf), (1266, Cond.selects RX3 yX3_rowOf yX3_rowOf), (1268, Cond.methodLink RL 306 yX3_begin), (1269, Cond.instanceMethod yX3_begin), (1270, Cond.selects RX3 yX3_begin yX3_begin), (1272, Cond.methodLink RX3 174 yX3_beginNow), (1274, Cond.instanceMethod yX3_beginNow), (1276, Cond.methodLink RL 311 yX3_isSound), (1277, Cond.instanceMethod yX3_isSound), (1278, Cond.selects RX3 yX3_isSound yX3_isSound), (1280, Cond.methodLink RL 316 yX3_digest), (1281, Cond.instanceMethod yX3_digest), (1282, Cond.selects RX3 yX3_digest yX3_digest), (1284, Cond.constantLong RX3 183 (7778)), (1285, Cond.methodLink RX3 185 yX3_add_), (1287, Cond.instanceMethod yX3_add_), (1289, Cond.constantLong RX3 181 (31)), (1291, Cond.sameMethod "java/lang/AbstractStringBuilder" "java/lang/AbstractStringBuilder" "append" "(C)Ljava/lang/AbstractStringBuilder;"), (1292, Cond.sameMethod "java/lang/AbstractStringBuilder" "java/lang/AbstractStringBuilder" "ensureCapacityInternal" "(I)V"), (1293, Cond.sameMethod "java/lang/AbstractStringBuilder" "java/lang/AbstractStringBuilder" "newCapacity" "(I)I"), (1295, Cond.sameMethod "java/lang/AbstractStringBuilder" "java/lang/AbstractStringBuilder" "append" "(I)Ljava/lang/AbstractStringBuilder;"), (1296, Cond.sameMethod "java/lang/AbstractStringBuilder" "java/lang/AbstractStringBuilder" "append" "(Ljava/lang/String;)Ljava/lang/AbstractStringBuilder;"), (1298, Cond.sameMethod "java/lang/AbstractStringBuilder" "java/lang/AbstractStringBuilder" "putStringAt" "(ILjava/lang/String;)V"), (1299, Cond.sameMethod "java/lang/AbstractStringBuilder" "java/lang/AbstractStringBuilder" "inflateIfNeededFor" "(Ljava/lang/String;)V"), (1300, Cond.selects RJ4 ⟨"java/lang/AbstractStringBuilder", "newCapacity", "(I)I"⟩ yJ5_newCapacity_0f7a4), (1301, Cond.selects RJ4 ⟨"java/lang/AbstractStringBuilder", "ensureCapacityInternal", "(I)V"⟩ yJ5_ensureCapacityInternal_d00df), (1302, Cond.selects RJ4 ⟨"java/lang/AbstractStringBuilder", "inflateIfNeededFor", "(Ljava/lang/String;)V"⟩ yJ5_inflateIfNeededFor_a7421), (1303, Cond.selects RJ4 ⟨"java/lang/AbstractStringBuilder", "putStringAt", "(ILjava/lang/String;)V"⟩ yJ5_putStringAt_47b60)]
theorem kwC_7 : ∀ q ∈ kwB_7, lw_t2[q.1]? = some q.2 ∧ goodWord q.2 = true := by decide +kernel
theorem kw_907 : Cond.instanceMethod yX3_remove ∈ w0 := w0_b (kwC_7 (1222, Cond.instanceMethod yX3_remove) (List.mem_of_getElem? (i := 0) rfl))
theorem kw_908 : Cond.selects RX3 yX3_remove yX3_remove ∈ w0 := w0_b (kwC_7 (1223, Cond.selects RX3 yX3_remove yX3_remove) (List.mem_of_getElem? (i := 1) rfl))
theorem kw_913 : Cond.methodLink RL 278 yX3_removeValue ∈ w0 := w0_b (kwC_7 (1225, Cond.methodLink RL 278 yX3_removeValue) (List.mem_of_getElem? (i := 2) rfl))
theorem kw_914 : Cond.instanceMethod yX3_removeValue ∈ w0 := w0_b (kwC_7 (1226, Cond.instanceMethod yX3_removeValue) (List.mem_of_getElem? (i := 3) rfl))
theorem kw_915 : Cond.selects RX3 yX3_removeValue yX3_removeValue ∈ w0 := w0_b (kwC_7 (1227, Cond.selects RX3 yX3_removeValue yX3_removeValue) (List.mem_of_getElem? (i := 4) rfl))
theorem kw_920 : Cond.methodLink RL 281 yX3_removeAll ∈ w0 := w0_b (kwC_7 (1229, Cond.methodLink RL 281 yX3_removeAll) (List.mem_of_getElem? (i := 5) rfl))
theorem kw_921 : Cond.instanceMethod yX3_removeAll ∈ w0 := w0_b (kwC_7 (1230, Cond.instanceMethod yX3_removeAll) (List.mem_of_getElem? (i := 6) rfl))
theorem kw_922 : Cond.selects RX3 yX3_removeAll yX3_removeAll ∈ w0 := w0_b (kwC_7 (1231, Cond.selects RX3 yX3_removeAll yX3_removeAll) (List.mem_of_getElem? (i := 7) rfl))
theorem kw_927 : Cond.methodLink RL 284 yX3_retainAll ∈ w0 := w0_b (kwC_7 (1233, Cond.methodLink RL 284 yX3_retainAll) (List.mem_of_getElem? (i := 8) rfl))
theorem kw_928 : Cond.instanceMethod yX3_retainAll ∈ w0 := w0_b (kwC_7 (1234, Cond.instanceMethod yX3_retainAll) (List.mem_of_getElem? (i := 9) rfl))
theorem kw_929 : Cond.selects RX3 yX3_retainAll yX3_retainAll ∈ w0 := w0_b (kwC_7 (1235, Cond.selects RX3 yX3_retainAll yX3_retainAll) (List.mem_of_getElem? (i := 10) rfl))
theorem kw_934 : Cond.methodLink RL 287 yX3_removeIf ∈ w0 := w0_b (kwC_7 (1237, Cond.methodLink RL 287 yX3_removeIf) (List.mem_of_getElem? (i := 11) rfl))
theorem kw_935 : Cond.instanceMethod yX3_removeIf ∈ w0 := w0_b (kwC_7 (1238, Cond.instanceMethod yX3_removeIf) (List.mem_of_getElem? (i := 12) rfl))
theorem kw_936 : Cond.selects RX3 yX3_removeIf yX3_removeIf ∈ w0 := w0_b (kwC_7 (1239, Cond.selects RX3 yX3_removeIf yX3_removeIf) (List.mem_of_getElem? (i := 13) rfl))
theorem kw_241 : Cond.methodLink RX3 165 yX3_tested ∈ w0 := w0_b (kwC_7 (1241, Cond.methodLink RX3 165 yX3_tested) (List.mem_of_getElem? (i := 14) rfl))
theorem kw_242 : Cond.static yX3_tested ∈ w0 := w0_b (kwC_7 (1242, Cond.static yX3_tested) (List.mem_of_getElem? (i := 15) rfl))
theorem kw_941 : Cond.methodLink RL 290 yX3_clear ∈ w0 := w0_b (kwC_7 (1244, Cond.methodLink RL 290 yX3_clear) (List.mem_of_getElem? (i := 16) rfl))
theorem kw_942 : Cond.instanceMethod yX3_clear ∈ w0 := w0_b (kwC_7 (1245, Cond.instanceMethod yX3_clear) (List.mem_of_getElem? (i := 17) rfl))
theorem kw_943 : Cond.selects RX3 yX3_clear yX3_clear ∈ w0 := w0_b (kwC_7 (1246, Cond.selects RX3 yX3_clear yX3_clear) (List.mem_of_getElem? (i := 18) rfl))
theorem kw_948 : Cond.methodLink RL 293 yX3_walkChange ∈ w0 := w0_b (kwC_7 (1248, Cond.methodLink RL 293 yX3_walkChange) (List.mem_of_getElem? (i := 19) rfl))
theorem kw_949 : Cond.instanceMethod yX3_walkChange ∈ w0 := w0_b (kwC_7 (1249, Cond.instanceMethod yX3_walkChange) (List.mem_of_getElem? (i := 20) rfl))
theorem kw_950 : Cond.selects RX3 yX3_walkChange yX3_walkChange ∈ w0 := w0_b (kwC_7 (1250, Cond.selects RX3 yX3_walkChange yX3_walkChange) (List.mem_of_getElem? (i := 21) rfl))
theorem kw_956 : Cond.methodLink RL 297 yX3_knock ∈ w0 := w0_b (kwC_7 (1252, Cond.methodLink RL 297 yX3_knock) (List.mem_of_getElem? (i := 22) rfl))
theorem kw_957 : Cond.instanceMethod yX3_knock ∈ w0 := w0_b (kwC_7 (1253, Cond.instanceMethod yX3_knock) (List.mem_of_getElem? (i := 23) rfl))
theorem kw_958 : Cond.selects RX3 yX3_knock yX3_knock ∈ w0 := w0_b (kwC_7 (1254, Cond.selects RX3 yX3_knock yX3_knock) (List.mem_of_getElem? (i := 24) rfl))
theorem kw_963 : Cond.methodLink RL 300 yX3_house ∈ w0 := w0_b (kwC_7 (1256, Cond.methodLink RL 300 yX3_house) (List.mem_of_getElem? (i := 25) rfl))
theorem kw_964 : Cond.instanceMethod yX3_house ∈ w0 := w0_b (kwC_7 (1257, Cond.instanceMethod yX3_house) (List.mem_of_getElem? (i := 26) rfl))
theorem kw_965 : Cond.selects RX3 yX3_house yX3_house ∈ w0 := w0_b (kwC_7 (1258, Cond.selects RX3 yX3_house yX3_house) (List.mem_of_getElem? (i := 27) rfl))
theorem kw_182 : Cond.methodLink RX3 171 yX3_houseNow ∈ w0 := w0_b (kwC_7 (1260, Cond.methodLink RX3 171 yX3_houseNow) (List.mem_of_getElem? (i := 28) rfl))
theorem kw_183 : Cond.instanceMethod yX3_houseNow ∈ w0 := w0_b (kwC_7 (1262, Cond.instanceMethod yX3_houseNow) (List.mem_of_getElem? (i := 29) rfl))
theorem kw_970 : Cond.methodLink RL 303 yX3_rowOf ∈ w0 := w0_b (kwC_7 (1264, Cond.methodLink RL 303 yX3_rowOf) (List.mem_of_getElem? (i := 30) rfl))
theorem kw_971 : Cond.instanceMethod yX3_rowOf ∈ w0 := w0_b (kwC_7 (1265, Cond.instanceMethod yX3_rowOf) (List.mem_of_getElem? (i := 31) rfl))
theorem kw_972 : Cond.selects RX3 yX3_rowOf yX3_rowOf ∈ w0 := w0_b (kwC_7 (1266, Cond.selects RX3 yX3_rowOf yX3_rowOf) (List.mem_of_getElem? (i := 32) rfl))
theorem kw_977 : Cond.methodLink RL 306 yX3_begin ∈ w0 := w0_b (kwC_7 (1268, Cond.methodLink RL 306 yX3_begin) (List.mem_of_getElem? (i := 33) rfl))
theorem kw_978 : Cond.instanceMethod yX3_begin ∈ w0 := w0_b (kwC_7 (1269, Cond.instanceMethod yX3_begin) (List.mem_of_getElem? (i := 34) rfl))
theorem kw_979 : Cond.selects RX3 yX3_begin yX3_begin ∈ w0 := w0_b (kwC_7 (1270, Cond.selects RX3 yX3_begin yX3_begin) (List.mem_of_getElem? (i := 35) rfl))
theorem kw_170 : Cond.methodLink RX3 174 yX3_beginNow ∈ w0 := w0_b (kwC_7 (1272, Cond.methodLink RX3 174 yX3_beginNow) (List.mem_of_getElem? (i := 36) rfl))
theorem kw_171 : Cond.instanceMethod yX3_beginNow ∈ w0 := w0_b (kwC_7 (1274, Cond.instanceMethod yX3_beginNow) (List.mem_of_getElem? (i := 37) rfl))
theorem kw_982 : Cond.methodLink RL 311 yX3_isSound ∈ w0 := w0_b (kwC_7 (1276, Cond.methodLink RL 311 yX3_isSound) (List.mem_of_getElem? (i := 38) rfl))
theorem kw_983 : Cond.instanceMethod yX3_isSound ∈ w0 := w0_b (kwC_7 (1277, Cond.instanceMethod yX3_isSound) (List.mem_of_getElem? (i := 39) rfl))
theorem kw_984 : Cond.selects RX3 yX3_isSound yX3_isSound ∈ w0 := w0_b (kwC_7 (1278, Cond.selects RX3 yX3_isSound yX3_isSound) (List.mem_of_getElem? (i := 40) rfl))
theorem kw_990 : Cond.methodLink RL 316 yX3_digest ∈ w0 := w0_b (kwC_7 (1280, Cond.methodLink RL 316 yX3_digest) (List.mem_of_getElem? (i := 41) rfl))
theorem kw_991 : Cond.instanceMethod yX3_digest ∈ w0 := w0_b (kwC_7 (1281, Cond.instanceMethod yX3_digest) (List.mem_of_getElem? (i := 42) rfl))
theorem kw_992 : Cond.selects RX3 yX3_digest yX3_digest ∈ w0 := w0_b (kwC_7 (1282, Cond.selects RX3 yX3_digest yX3_digest) (List.mem_of_getElem? (i := 43) rfl))
theorem kw_186 : Cond.constantLong RX3 183 (7778) ∈ w0 := w0_b (kwC_7 (1284, Cond.constantLong RX3 183 (7778)) (List.mem_of_getElem? (i := 44) rfl))
theorem kw_166 : Cond.methodLink RX3 185 yX3_add_ ∈ w0 := w0_b (kwC_7 (1285, Cond.methodLink RX3 185 yX3_add_) (List.mem_of_getElem? (i := 45) rfl))
theorem kw_167 : Cond.instanceMethod yX3_add_ ∈ w0 := w0_b (kwC_7 (1287, Cond.instanceMethod yX3_add_) (List.mem_of_getElem? (i := 46) rfl))
theorem kw_150 : Cond.constantLong RX3 181 (31) ∈ w0 := w0_b (kwC_7 (1289, Cond.constantLong RX3 181 (31)) (List.mem_of_getElem? (i := 47) rfl))
theorem kw_503 : Cond.sameMethod "java/lang/AbstractStringBuilder" "java/lang/AbstractStringBuilder" "append" "(C)Ljava/lang/AbstractStringBuilder;" ∈ w0 := w0_b (kwC_7 (1291, Cond.sameMethod "java/lang/AbstractStringBuilder" "java/lang/AbstractStringBuilder" "append" "(C)Ljava/lang/AbstractStringBuilder;") (List.mem_of_getElem? (i := 48) rfl))
theorem kw_486 : Cond.sameMethod "java/lang/AbstractStringBuilder" "java/lang/AbstractStringBuilder" "ensureCapacityInternal" "(I)V" ∈ w0 := w0_b (kwC_7 (1292, Cond.sameMethod "java/lang/AbstractStringBuilder" "java/lang/AbstractStringBuilder" "ensureCapacityInternal" "(I)V") (List.mem_of_getElem? (i := 49) rfl))
theorem kw_473 : Cond.sameMethod "java/lang/AbstractStringBuilder" "java/lang/AbstractStringBuilder" "newCapacity" "(I)I" ∈ w0 := w0_b (kwC_7 (1293, Cond.sameMethod "java/lang/AbstractStringBuilder" "java/lang/AbstractStringBuilder" "newCapacity" "(I)I") (List.mem_of_getElem? (i := 50) rfl))
theorem kw_495 : Cond.sameMethod "java/lang/AbstractStringBuilder" "java/lang/AbstractStringBuilder" "append" "(I)Ljava/lang/AbstractStringBuilder;" ∈ w0 := w0_b (kwC_7 (1295, Cond.sameMethod "java/lang/AbstractStringBuilder" "java/lang/AbstractStringBuilder" "append" "(I)Ljava/lang/AbstractStringBuilder;") (List.mem_of_getElem? (i := 51) rfl))
theorem kw_558 : Cond.sameMethod "java/lang/AbstractStringBuilder" "java/lang/AbstractStringBuilder" "append" "(Ljava/lang/String;)Ljava/lang/AbstractStringBuilder;" ∈ w0 := w0_b (kwC_7 (1296, Cond.sameMethod "java/lang/AbstractStringBuilder" "java/lang/AbstractStringBuilder" "append" "(Ljava/lang/String;)Ljava/lang/AbstractStringBuilder;") (List.mem_of_getElem? (i := 52) rfl))
theorem kw_553 : Cond.sameMethod "java/lang/AbstractStringBuilder" "java/lang/AbstractStringBuilder" "putStringAt" "(ILjava/lang/String;)V" ∈ w0 := w0_b (kwC_7 (1298, Cond.sameMethod "java/lang/AbstractStringBuilder" "java/lang/AbstractStringBuilder" "putStringAt" "(ILjava/lang/String;)V") (List.mem_of_getElem? (i := 53) rfl))
theorem kw_540 : Cond.sameMethod "java/lang/AbstractStringBuilder" "java/lang/AbstractStringBuilder" "inflateIfNeededFor" "(Ljava/lang/String;)V" ∈ w0 := w0_b (kwC_7 (1299, Cond.sameMethod "java/lang/AbstractStringBuilder" "java/lang/AbstractStringBuilder" "inflateIfNeededFor" "(Ljava/lang/String;)V") (List.mem_of_getElem? (i := 54) rfl))
theorem kw_474 : Cond.selects RJ4 ⟨"java/lang/AbstractStringBuilder", "newCapacity", "(I)I"⟩ yJ5_newCapacity_0f7a4 ∈ w0 := w0_b (kwC_7 (1300, Cond.selects RJ4 ⟨"java/lang/AbstractStringBuilder", "newCapacity", "(I)I"⟩ yJ5_newCapacity_0f7a4) (List.mem_of_getElem? (i := 55) rfl))
theorem kw_487 : Cond.selects RJ4 ⟨"java/lang/AbstractStringBuilder", "ensureCapacityInternal", "(I)V"⟩ yJ5_ensureCapacityInternal_d00df ∈ w0 := w0_b (kwC_7 (1301, Cond.selects RJ4 ⟨"java/lang/AbstractStringBuilder", "ensureCapacityInternal", "(I)V"⟩ yJ5_ensureCapacityInternal_d00df) (List.mem_of_getElem? (i := 56) rfl))
theorem kw_541 : Cond.selects RJ4 ⟨"java/lang/AbstractStringBuilder", "inflateIfNeededFor", "(Ljava/lang/String;)V"⟩ yJ5_inflateIfNeededFor_a7421 ∈ w0 := w0_b (kwC_7 (1302, Cond.selects RJ4 ⟨"java/lang/AbstractStringBuilder", "inflateIfNeededFor", "(Ljava/lang/String;)V"⟩ yJ5_inflateIfNeededFor_a7421) (List.mem_of_getElem? (i := 57) rfl))
theorem kw_554 : Cond.selects RJ4 ⟨"java/lang/AbstractStringBuilder", "putStringAt", "(ILjava/lang/String;)V"⟩ yJ5_putStringAt_47b60 ∈ w0 := w0_b (kwC_7 (1303, Cond.selects RJ4 ⟨"java/lang/AbstractStringBuilder", "putStringAt", "(ILjava/lang/String;)V"⟩ yJ5_putStringAt_47b60) (List.mem_of_getElem? (i := 58) rfl))
theorem hw_J0 : ∀ w ∈ u_ws RJ0 TJ0 4, w ∈ w0 := fun w h => List.mem_filter.mpr ⟨(show ∀ w ∈ u_ws RJ0 TJ0 4, w ∈ lw_tbl by decide +kernel) w h |> List.mem_append_left _, List.all_eq_true.mp (show (u_ws RJ0 TJ0 4).all goodWord = true by decide +kernel) w h⟩
theorem hw_J4 : ∀ w ∈ u_ws RJ4 TJ4 4, w ∈ w0 := fun w h => List.mem_filter.mpr ⟨(show ∀ w ∈ u_ws RJ4 TJ4 4, w ∈ lw_tbl by decide +kernel) w h |> List.mem_append_left _, List.all_eq_true.mp (show (u_ws RJ4 TJ4 4).all goodWord = true by decide +kernel) w h⟩
theorem hw_X0 : ∀ w ∈ u_ws RX0 TX0 4, w ∈ w0 := fun w h => List.mem_filter.mpr ⟨(show ∀ w ∈ u_ws RX0 TX0 4, w ∈ lw_tbl by decide +kernel) w h |> List.mem_append_left _, List.all_eq_true.mp (show (u_ws RX0 TX0 4).all goodWord = true by decide +kernel) w h⟩
theorem hw_X1 : ∀ w ∈ u_ws RX1 TX1 4, w ∈ w0 := fun w h => List.mem_filter.mpr ⟨(show ∀ w ∈ u_ws RX1 TX1 4, w ∈ lw_tbl by decide +kernel) w h |> List.mem_append_left _, List.all_eq_true.mp (show (u_ws RX1 TX1 4).all goodWord = true by decide +kernel) w h⟩
theorem hw_X2 : ∀ w ∈ u_ws RX2 TX2 2, w ∈ w0 := fun w h => List.mem_filter.mpr ⟨(show ∀ w ∈ u_ws RX2 TX2 2, w ∈ lw_tbl by decide +kernel) w h |> List.mem_append_left _, List.all_eq_true.mp (show (u_ws RX2 TX2 2).all goodWord = true by decide +kernel) w h⟩
theorem hw_X3 : ∀ w ∈ u_ws RX3 TX3 8, w ∈ w0 := fun w h => List.mem_filter.mpr ⟨(show ∀ w ∈ u_ws RX3 TX3 8, w ∈ lw_tbl by decide +kernel) w h |> List.mem_append_left _, List.all_eq_true.mp (show (u_ws RX3 TX3 8).all goodWord = true by decide +kernel) w h⟩
theorem at_RX1_192 : ∀ w ∈ (vx_atS RX1 192 "java/lang/IndexOutOfBoundsException" ["java/lang/RuntimeException", "java/lang/Exception"]).filter goodWord, w ∈ w0 := fun w h => List.mem_filter.mpr ⟨(show ∀ w ∈ (vx_atS RX1 192 "java/lang/IndexOutOfBoundsException" ["java/lang/RuntimeException", "java/lang/Exception"]).filter goodWord, w ∈ lw_tbl by decide +kernel) w h |> List.mem_append_left _, (List.mem_filter.mp h).2⟩
theorem at_RX1_209 : ∀ w ∈ (vx_atS RX1 209 "java/lang/IllegalArgumentException" ["java/lang/RuntimeException", "java/lang/Exception"]).filter goodWord, w ∈ w0 := fun w h => List.mem_filter.mpr ⟨(show ∀ w ∈ (vx_atS RX1 209 "java/lang/IllegalArgumentException" ["java/lang/RuntimeException", "java/lang/Exception"]).filter goodWord, w ∈ lw_tbl by decide +kernel) w h |> List.mem_append_left _, (List.mem_filter.mp h).2⟩
