/-! L_often -/
def wz_L_often : List Cond := Cond.codeWith yL_often cL_often 5 (some .int) [(0, 11, 14, 19), (0, 11, 18, 21)] :: w0
section Z_L_often
variable {p : Program} {l : Launch} {e : Env} {s : State} {m : MethodId} {args : Array Value} {below : List Frame} {meth : Method} {c : Code} {D : va_G} {A : Nat → Prop}
set_option maxHeartbeats 4000000 in
set_option maxRecDepth 100000 in
theorem s_L_often {K : tK} (C : tc_B p l s m args meth c D K A wz_L_often RL cL_often 5) (hr : meth.sig.returnType = (some .int)) (htab : c.exceptionTable.toList = tableOf [(0, 11, 14, 19), (0, 11, 18, 21)]) (hcC : kx_C s) (hll : l.stackTraces = false)  (post : Int32 → tG → Prop) (v0 : Option Nat) (v1 : Int32) (v2 : Int32) (v3 : Option Nat) : ∀ (G : tG) (H : Heap) (locs : List Loc) (ls : Array Slot), tg_W D A s H G → va_S A s.heap H locs → tl ls 5 [(0, .inr (.inr v0)), (1, .inl v1), (2, .inl v2), (3, .inr (.inr v3))] → w_L_often K post v0 v1 v2 v3 G → W p l e ({ frames := 9, cells := 2, slots := 12, locals := 149 } : Room) s m args below meth c H locs 0 0 (vx_MQ below (tc_Qc D A (retI post)) (tc_XC D A (fun _ _ => False)) args s 2 12 A) (F0 m 0 ls []) := by
  intro G H locs ls hW hS hl hw
  unfold w_L_often at hw
  refine tr_aload_n (k := 3) (x := v3) C hl 3 rfl dL_often_0 ?_
  refine tr_aload_n (k := 0) (x := v0) C hl 0 rfl dL_often_1 ?_
  refine tr_iload_n (k := 1) (x := v1) C hl 1 rfl dL_often_2 ?_
  refine tr_iload_n (k := 2) (x := v2) C hl 2 rfl dL_often_3 ?_
  refine tx_backCI (tx_runV (r := v0) (As := [.int v1, .int v2]) C hl.1 (c_X1_often l hll K _ _ v0 v1 v2) (cwV 2 C.1.2.2.2.2 (gi_V (zm kw_596) (zm kw_597) (zm kw_598) (zm kw_33) (zm kw_595)) rfl rfl rfl (by decide +kernel) ⟨(Nat.le_of_ble_eq_true rfl), (Nat.le_of_ble_eq_true rfl)⟩) rfl rfl dL_often_4 ⟨(Nat.le_of_ble_eq_true rfl), (Nat.le_of_ble_eq_true rfl)⟩ [.inr (.inr v3)] rfl (Nat.le_of_ble_eq_true rfl) rfl hW hS hw) hS (fun E ce q9 GX H locs hw hW hS hce hcv hcl => ?_) (fun x_4 G_4 H locs hw hW hS => ?_)
  · by_cases hq0 : E = "java/lang/IndexOutOfBoundsException"
    · replace hw := hw.1 hq0
      subst hq0
      refine vx_catch (name := "java/lang/IndexOutOfBoundsException") C.1.2.2.2.1 [] (⟨0, 11, 14, 19⟩ : ExceptionTableEntry) [(⟨0, 11, 18, 21⟩ : ExceptionTableEntry)] (by rw [htab]; rfl) (fun z hz => nomatch hz) (by decide) (by decide) (C.1.2.2.2.2 _ (zm kw_209)) hcC.2.2.1 hce hcv hcl ?_
      refine tr_astore (x := (some q9)) C hl [(4, .inr (.inr (some q9))), (0, .inr (.inr v0)), (1, .inl v1), (2, .inl v2), (3, .inr (.inr v3))] (by decide) rfl dL_often_14 (fun ls hl => ?_)
      refine lv_iconst (v := (1 : Int32)) C.1.1 C.1.2.1 dL_often_16 (by decide) ?_
      exact vx_ret (tr_iret C hr dL_often_17 (Nat.le_of_ble_eq_true rfl) (Nat.le_of_ble_eq_true rfl) hW hS hw)
    replace hw := hw.2 hq0
    by_cases hq1 : E = "java/lang/IllegalArgumentException"
    · replace hw := hw.1 hq1
      subst hq1
      refine vx_catch (name := "java/lang/IllegalArgumentException") C.1.2.2.2.1 [(⟨0, 11, 14, 19⟩ : ExceptionTableEntry)] (⟨0, 11, 18, 21⟩ : ExceptionTableEntry) [] (by rw [htab]; rfl) (kx_pass1 C hcC rfl (by decide) (zm kw_209)) (by decide) (by decide) (C.1.2.2.2.2 _ (zm kw_188)) hcC.2.2.2.1 hce hcv hcl ?_
      refine tr_astore (x := (some q9)) C hl [(4, .inr (.inr (some q9))), (0, .inr (.inr v0)), (1, .inl v1), (2, .inl v2), (3, .inr (.inr v3))] (by decide) rfl dL_often_18 (fun ls hl => ?_)
      refine lv_iconst (v := (2 : Int32)) C.1.1 C.1.2.1 dL_often_20 (by decide) ?_
      exact vx_ret (tr_iret C hr dL_often_21 (Nat.le_of_ble_eq_true rfl) (Nat.le_of_ble_eq_true rfl) hW hS hw)
    replace hw := hw.2 hq1
    exact hw.elim
  · refine lv_i2l (v := ((x_4).toInt64)) C.1.1 C.1.2.1 dL_often_7 rfl ?_
    refine tr_pfN (C0 := RX2) (T := TX2) (N := 2) (ci := 4) (ref := "TwinrowLaw$Out") (host := "TwinrowLaw") (k := 0) (ty := .long) (v := .long (((x_4).toInt64))) (r := v3) C (zh hw_X2) tyX2 tyX2_ok nmX2 rfl (by decide) hcC.1 rfl rfl (by decide +kernel) rfl rfl dL_often_8 hW hS hw (fun G_8 H locs hw hW hS => ?_)
    refine lv_goto (tgt := 22) C.1.1 C.1.2.1 dL_often_11 (by decide) ?_
    refine lv_iconst (v := (0 : Int32)) C.1.1 C.1.2.1 dL_often_22 (by decide) ?_
    exact vx_ret (tr_iret C hr dL_often_23 (Nat.le_of_ble_eq_true rfl) (Nat.le_of_ble_eq_true rfl) hW hS hw)
end Z_L_often
set_option maxHeartbeats 4000000 in
set_option maxRecDepth 100000 in
theorem c_L_often (l : Launch) (hll : l.stackTraces = false) (K : tK) (post : Int32 → tG → Prop) (v0 : Option Nat) (v1 : Int32) (v2 : Int32) (v3 : Option Nat) : Cx l yL_often wz_L_often ({ frames := 9, cells := 2, slots := 12, locals := 149 } : Room) 2 12 [va_rf v0, .int v1, .int v2, va_rf v3] K (retI post) (fun _ _ => False) (fun G => w_L_often K post v0 v1 v2 v3 G) := by
  refine tx_ofH (cc := cL_often) (maxL := 5) (ret := (some .int)) (own := RL) (hh := [(0, 11, 14, 19), (0, 11, 18, 21)]) (by decide) rfl rfl hll [.inr (.inr v0), .inl v1, .inl v2, .inr (.inr v3)] rfl (Nat.le_of_ble_eq_true rfl) ?_
  intro p e s m args below meth c D A G ls C hr htab hcC hl hW hS hw
  exact s_L_often C hr htab hcC hll post v0 v1 v2 v3 _ _ _ _ hW hS hl hw

/-! X3_often -/
def wz_X3_often : List Cond := Cond.code yX3_often cX3_often 3 (some .int) :: w0
section Z_X3_often
variable {p : Program} {l : Launch} {e : Env} {s : State} {m : MethodId} {args : Array Value} {below : List Frame} {meth : Method} {c : Code} {D : va_G} {A : Nat → Prop}
set_option maxHeartbeats 4000000 in
set_option maxRecDepth 100000 in
theorem s_X3_often_29 {K : tK} (C : tc_B p l s m args meth c D K A wz_X3_often RX3 cX3_often 3) (hr : meth.sig.returnType = (some .int)) (hll : l.stackTraces = false)  (post : Int32 → tG → Prop) : ∀ (u0 : Int32) (G : tG) (H : Heap) (locs : List Loc) (ls : Array Slot), tg_W D A s H G → va_S A s.heap H locs → tl ls 3 [] → w_X3_often_29 K post u0 G → W p l e ({ frames := 2, cells := 1, slots := 12, locals := 46 } : Room) s m args below meth c H locs 1 12 (MQ below (tc_Qc D A (retI post)) args s 1 12 A) (F0 m 29 ls [.int u0]) := by
  intro u0 G H locs ls hW hS hl hw
  unfold w_X3_often_29 at hw
  exact tr_iret C hr dX3_often_29 (Nat.le_of_ble_eq_true rfl) (Nat.le_of_ble_eq_true rfl) hW hS hw
set_option maxHeartbeats 4000000 in
set_option maxRecDepth 100000 in
theorem s_X3_often {K : tK} (C : tc_B p l s m args meth c D K A wz_X3_often RX3 cX3_often 3) (hr : meth.sig.returnType = (some .int)) (hll : l.stackTraces = false)  (post : Int32 → tG → Prop) (v0 : Option Nat) (v1 : Int32) (v2 : Int32) : ∀ (G : tG) (H : Heap) (locs : List Loc) (ls : Array Slot), tg_W D A s H G → va_S A s.heap H locs → tl ls 3 [(0, .inr (.inr v0)), (1, .inl v1), (2, .inl v2)] → w_X3_often K post v0 v1 v2 G → W p l e ({ frames := 2, cells := 1, slots := 12, locals := 46 } : Room) s m args below meth c H locs 0 0 (MQ below (tc_Qc D A (retI post)) args s 1 12 A) (F0 m 0 ls []) := by
  intro G H locs ls hW hS hl hw
  unfold w_X3_often at hw
  refine tr_aload_n (k := 0) (x := v0) C hl 0 rfl dX3_often_0 ?_
  refine tr_aload_n (k := 0) (x := v0) C hl 0 rfl dX3_often_1 ?_
  refine tr_iload_n (k := 1) (x := v1) C hl 1 rfl dX3_often_2 ?_
  refine tr_backI (tr_runV (r := v0) (As := [.int v1]) C hl.1 (c_X3_isNoList l hll K _ v0 v1) (cwV 1 C.1.2.2.2.2 (gi_V (zm kw_211) (zm kw_212) (zm kw_213) (zm kw_155) (zm kw_210)) rfl rfl rfl (by decide +kernel) ⟨(Nat.le_of_ble_eq_true rfl), (Nat.le_of_ble_eq_true rfl)⟩) rfl rfl dX3_often_3 ⟨(Nat.le_of_ble_eq_true rfl), (Nat.le_of_ble_eq_true rfl)⟩ [.inr (.inr v0)] rfl (Nat.le_of_ble_eq_true rfl) rfl hW hS hw) hS (fun x_3 G_3 H locs hw hW hS => ?_)
  refine tr_iload_n (k := 2) (x := v2) C hl 2 rfl dX3_often_6 ?_
  refine tr_backI (tr_runS (As := [.int v2]) C hl.1 (c_X3_isNoValue l hll K _ v2) (va_cwS 1 C.1.2.2.2.2 (gi_S (zm kw_276) (zm kw_277) (zm kw_155) (zm kw_275)) rfl rfl rfl (by decide +kernel) ⟨(Nat.le_of_ble_eq_true rfl), (Nat.le_of_ble_eq_true rfl)⟩) rfl dX3_often_7 ⟨(Nat.le_of_ble_eq_true rfl), (Nat.le_of_ble_eq_true rfl)⟩ [.inl x_3, .inr (.inr v0)] rfl (Nat.le_of_ble_eq_true rfl) rfl hW hS hw) hS (fun x_7 G_7 H locs hw hW hS => ?_)
  refine tr_backI (tr_runV (r := v0) (As := [.int x_3, .int x_7]) C hl.1 (c_X3_fails l hll K _ v0 x_3 x_7) (cwV 2 C.1.2.2.2.2 (gi_V (zm kw_190) (zm kw_191) (zm kw_192) (zm kw_155) (zm kw_189)) rfl rfl rfl (by decide +kernel) ⟨(Nat.le_of_ble_eq_true rfl), (Nat.le_of_ble_eq_true rfl)⟩) rfl rfl dX3_often_10 ⟨(Nat.le_of_ble_eq_true rfl), (Nat.le_of_ble_eq_true rfl)⟩ [] rfl (Nat.le_of_ble_eq_true rfl) rfl hW hS hw) hS (fun x_10 G_10 H locs hw hW hS => ?_)
  refine lv_if_eq (tgt := 20) C.1.1 C.1.2.1 dX3_often_13 (by decide) (fun hc => ?_) (fun hc => ?_)
  · have hw := hw.1 hc
    refine tr_aload_n (k := 0) (x := v0) C hl 0 rfl dX3_often_20 ?_
    refine tr_iload_n (k := 1) (x := v1) C hl 1 rfl dX3_often_21 ?_
    refine tr_backR (tr_runV (r := v0) (As := [.int v1]) C hl.1 (c_X3_all l hll K _ v0 v1) (cwV 1 C.1.2.2.2.2 (gi_V (zm kw_157) (zm kw_158) (zm kw_159) (zm kw_155) (zm kw_156)) rfl rfl rfl (by decide +kernel) ⟨(Nat.le_of_ble_eq_true rfl), (Nat.le_of_ble_eq_true rfl)⟩) rfl rfl dX3_often_22 ⟨(Nat.le_of_ble_eq_true rfl), (Nat.le_of_ble_eq_true rfl)⟩ [] rfl (Nat.le_of_ble_eq_true rfl) rfl hW hS hw) hS (fun x_22 G_22 H locs hw hW hS => ?_)
    refine tr_iload_n (k := 2) (x := v2) C hl 2 rfl dX3_often_25 ?_
    refine tr_backI (tr_runS (As := [va_rf x_22, .int v2]) C hl.1 (c_X3_oftenIn l hll K _ x_22 v2) (va_cwS 2 C.1.2.2.2.2 (gi_S (zm kw_254) (zm kw_255) (zm kw_155) (zm kw_253)) rfl rfl rfl (by decide +kernel) ⟨(Nat.le_of_ble_eq_true rfl), (Nat.le_of_ble_eq_true rfl)⟩) rfl dX3_often_26 ⟨(Nat.le_of_ble_eq_true rfl), (Nat.le_of_ble_eq_true rfl)⟩ [] rfl (Nat.le_of_ble_eq_true rfl) rfl hW hS hw) hS (fun x_26 G_26 H locs hw hW hS => ?_)
    exact s_X3_often_29 C hr hll post x_26 _ _ _ _ hW hS (tl_sub hl [] rfl) hw
  · have hw := hw.2 hc
    refine lv_iconst (v := (0 : Int32)) C.1.1 C.1.2.1 dX3_often_16 (by decide) ?_
    refine lv_goto (tgt := 29) C.1.1 C.1.2.1 dX3_often_17 (by decide) ?_
    refine W.widen (k := 1) (n := 12) (Nat.le_of_ble_eq_true rfl) (Nat.le_of_ble_eq_true rfl) ?_
    exact s_X3_often_29 C hr hll post ((0 : Int32)) _ _ _ _ hW hS (tl_sub hl [] rfl) hw
end Z_X3_often
set_option maxHeartbeats 4000000 in
set_option maxRecDepth 100000 in
theorem c_X3_often (l : Launch) (hll : l.stackTraces = false) (K : tK) (post : Int32 → tG → Prop) (v0 : Option Nat) (v1 : Int32) (v2 : Int32) : Ct l yX3_often wz_X3_often ({ frames := 2, cells := 1, slots := 12, locals := 46 } : Room) 1 12 [va_rf v0, .int v1, .int v2] K (retI post) (fun G => w_X3_often K post v0 v1 v2 G) := by
  refine tc_of (cc := cX3_often) (maxL := 3) (ret := (some .int)) (own := RX3) (plainFor_of_name (by decide)) rfl rfl hll [.inr (.inr v0), .inl v1, .inl v2] rfl (Nat.le_of_ble_eq_true rfl) ?_
  intro p e s m args below meth c D A G ls C hr hn ht hl hW hS hw
  exact s_X3_often C hr hll post v0 v1 v2 _ _ _ _ hW hS hl hw

/-! X1_has -/
def wz_X1_has : List Cond := Cond.code yX1_has cX1_has 4 (some .boolean) :: w0
section Z_X1_has
variable {p : Program} {l : Launch} {e : Env} {s : State} {m : MethodId} {args : Array Value} {below : List Frame} {meth : Method} {c : Code} {D : va_G} {A : Nat → Prop}
set_option maxHeartbeats 4000000 in
set_option maxRecDepth 100000 in
theorem s_X1_has {K : tK} (C : tc_B p l s m args meth c D K A wz_X1_has RX1 cX1_has 4) (hr : meth.sig.returnType = (some .boolean)) (ht : ∀ x ∈ c.exceptionTable.toList, False) (hll : l.stackTraces = false)  (post : Int32 → tG → Prop) (postX : String → tG → Prop) (v0 : Option Nat) (v1 : Int32) (v2 : Int32) : ∀ (G : tG) (H : Heap) (locs : List Loc) (ls : Array Slot), tg_W D A s H G → va_S A s.heap H locs → tl ls 4 [(0, .inr (.inr v0)), (1, .inl v1), (2, .inl v2)] → w_X1_has K post postX v0 v1 v2 G → W p l e ({ frames := 8, cells := 2, slots := 12, locals := 124 } : Room) s m args below meth c H locs 0 0 (vx_MQ below (tc_Qc D A (retI post)) (tc_XC D A postX) args s 2 12 A) (F0 m 0 ls []) := by
  intro G H locs ls hW hS hl hw
  unfold w_X1_has at hw
  refine tr_aload_n (k := 0) (x := v0) C hl 0 rfl dX1_has_0 ?_
  refine tr_iload_n (k := 1) (x := v1) C hl 1 rfl dX1_has_1 ?_
  refine tx_backR (tx_runV (r := v0) (As := [.int v1]) C hl.1 (c_X1_listAt l hll K _ _ v0 v1) (cwV 1 C.1.2.2.2.2 (gi_V (zm kw_94) (zm kw_95) (zm kw_96) (zm kw_33) (zm kw_93)) rfl rfl rfl (by decide +kernel) ⟨(Nat.le_of_ble_eq_true rfl), (Nat.le_of_ble_eq_true rfl)⟩) rfl rfl dX1_has_2 ⟨(Nat.le_of_ble_eq_true rfl), (Nat.le_of_ble_eq_true rfl)⟩ [] rfl (Nat.le_of_ble_eq_true rfl) rfl hW hS hw) hS C.2.1 ht (Nat.le_of_ble_eq_true rfl) (Nat.le_of_ble_eq_true rfl) (fun x_2 G_2 H locs hw hW hS => ?_)
  refine tr_astore_n (k := 3) (x := x_2) C hl [(3, .inr (.inr x_2)), (0, .inr (.inr v0)), (1, .inl v1), (2, .inl v2)] (by decide) rfl dX1_has_5 (fun ls hl => ?_)
  refine tr_iload_n (k := 2) (x := v2) C hl 3 rfl dX1_has_6 ?_
  refine tx_backV (tx_runS (As := [.int v2]) C hl.1 (c_X1_checkValue l hll K _ _ v2) (va_cwS 1 C.1.2.2.2.2 (gi_S (zm kw_269) (zm kw_270) (zm kw_33) (zm kw_268)) rfl rfl rfl (by decide +kernel) ⟨(Nat.le_of_ble_eq_true rfl), (Nat.le_of_ble_eq_true rfl)⟩) rfl dX1_has_7 ⟨(Nat.le_of_ble_eq_true rfl), (Nat.le_of_ble_eq_true rfl)⟩ [] rfl (Nat.le_of_ble_eq_true rfl) rfl hW hS hw) hS C.2.1 ht (Nat.le_of_ble_eq_true rfl) (Nat.le_of_ble_eq_true rfl) (fun G_7 H locs hw hW hS => ?_)
  refine tr_aload_n (k := 3) (x := x_2) C hl 0 rfl dX1_has_10 ?_
  refine tr_iload_n (k := 2) (x := v2) C hl 3 rfl dX1_has_11 ?_
  refine tr_backI (tr_runS (As := [va_rf x_2, .int v2]) C hl.1 (c_X1_stands l hll K _ x_2 v2) (va_cwS 2 C.1.2.2.2.2 (gi_S (zm kw_244) (zm kw_245) (zm kw_33) (zm kw_243)) rfl rfl rfl (by decide +kernel) ⟨(Nat.le_of_ble_eq_true rfl), (Nat.le_of_ble_eq_true rfl)⟩) rfl dX1_has_12 ⟨(Nat.le_of_ble_eq_true rfl), (Nat.le_of_ble_eq_true rfl)⟩ [] rfl (Nat.le_of_ble_eq_true rfl) rfl hW hS hw) hS (fun x_12 G_12 H locs hw hW hS => ?_)
  exact vx_ret (tr_zret C hr dX1_has_15 (Nat.le_of_ble_eq_true rfl) (Nat.le_of_ble_eq_true rfl) hW hS hw)
end Z_X1_has
set_option maxHeartbeats 4000000 in
set_option maxRecDepth 100000 in
theorem c_X1_has (l : Launch) (hll : l.stackTraces = false) (K : tK) (post : Int32 → tG → Prop) (postX : String → tG → Prop) (v0 : Option Nat) (v1 : Int32) (v2 : Int32) : Cx l yX1_has wz_X1_has ({ frames := 8, cells := 2, slots := 12, locals := 124 } : Room) 2 12 [va_rf v0, .int v1, .int v2] K (retI post) postX (fun G => w_X1_has K post postX v0 v1 v2 G) := by
  refine tx_of (cc := cX1_has) (maxL := 4) (ret := (some .boolean)) (own := RX1) (by decide) rfl rfl hll [.inr (.inr v0), .inl v1, .inl v2] rfl (Nat.le_of_ble_eq_true rfl) ?_
  intro p e s m args below meth c D A G ls C hr hn ht hl hW hS hw
  exact s_X1_has C hr ht hll post postX v0 v1 v2 _ _ _ _ hW hS hl hw

/-! L_has -/
def wz_L_has : List Cond := Cond.codeWith yL_has cL_has 5 (some .int) [(0, 18, 21, 19), (0, 18, 25, 21)] :: w0
section Z_L_has
variable {p : Program} {l : Launch} {e : Env} {s : State} {m : MethodId} {args : Array Value} {below : List Frame} {meth : Method} {c : Code} {D : va_G} {A : Nat → Prop}
set_option maxHeartbeats 4000000 in
set_option maxRecDepth 100000 in
theorem s_L_has_15 {K : tK} (C : tc_B p l s m args meth c D K A wz_L_has RL cL_has 5) (hr : meth.sig.returnType = (some .int)) (htab : c.exceptionTable.toList = tableOf [(0, 18, 21, 19), (0, 18, 25, 21)]) (hcC : kx_C s) (hll : l.stackTraces = false)  (post : Int32 → tG → Prop) : ∀ (u0 : Option Nat) (u1 : Int64) (G : tG) (H : Heap) (locs : List Loc) (ls : Array Slot), tg_W D A s H G → va_S A s.heap H locs → tl ls 5 [] → w_L_has_15 K post u0 u1 G → W p l e ({ frames := 9, cells := 2, slots := 12, locals := 147 } : Room) s m args below meth c H locs 2 12 (vx_MQ below (tc_Qc D A (retI post)) (tc_XC D A (fun _ _ => False)) args s 2 12 A) (F0 m 15 ls [.long u1, va_rf u0]) := by
  intro u0 u1 G H locs ls hW hS hl hw
  unfold w_L_has_15 at hw
  refine tr_pfN (C0 := RX2) (T := TX2) (N := 2) (ci := 4) (ref := "TwinrowLaw$Out") (host := "TwinrowLaw") (k := 0) (ty := .long) (v := .long u1) (r := u0) C (zh hw_X2) tyX2 tyX2_ok nmX2 rfl (by decide) hcC.1 rfl rfl (by decide +kernel) rfl rfl dL_has_15 hW hS hw (fun G_15 H locs hw hW hS => ?_)
  refine lv_goto (tgt := 29) C.1.1 C.1.2.1 dL_has_18 (by decide) ?_
  refine lv_iconst (v := (0 : Int32)) C.1.1 C.1.2.1 dL_has_29 (by decide) ?_
  exact vx_ret (tr_iret C hr dL_has_30 (Nat.le_of_ble_eq_true rfl) (Nat.le_of_ble_eq_true rfl) hW hS hw)
set_option maxHeartbeats 4000000 in
set_option maxRecDepth 100000 in
theorem s_L_has {K : tK} (C : tc_B p l s m args meth c D K A wz_L_has RL cL_has 5) (hr : meth.sig.returnType = (some .int)) (htab : c.exceptionTable.toList = tableOf [(0, 18, 21, 19), (0, 18, 25, 21)]) (hcC : kx_C s) (hll : l.stackTraces = false)  (post : Int32 → tG → Prop) (v0 : Option Nat) (v1 : Int32) (v2 : Int32) (v3 : Option Nat) : ∀ (G : tG) (H : Heap) (locs : List Loc) (ls : Array Slot), tg_W D A s H G → va_S A s.heap H locs → tl ls 5 [(0, .inr (.inr v0)), (1, .inl v1), (2, .inl v2), (3, .inr (.inr v3))] → w_L_has K post v0 v1 v2 v3 G → W p l e ({ frames := 9, cells := 2, slots := 12, locals := 147 } : Room) s m args below meth c H locs 0 0 (vx_MQ below (tc_Qc D A (retI post)) (tc_XC D A (fun _ _ => False)) args s 2 12 A) (F0 m 0 ls []) := by
  intro G H locs ls hW hS hl hw
  unfold w_L_has at hw
  refine tr_aload_n (k := 3) (x := v3) C hl 3 rfl dL_has_0 ?_
  refine tr_aload_n (k := 0) (x := v0) C hl 0 rfl dL_has_1 ?_
  refine tr_iload_n (k := 1) (x := v1) C hl 1 rfl dL_has_2 ?_
  refine tr_iload_n (k := 2) (x := v2) C hl 2 rfl dL_has_3 ?_
  refine tx_backCI (tx_runV (r := v0) (As := [.int v1, .int v2]) C hl.1 (c_X1_has l hll K _ _ v0 v1 v2) (cwV 2 C.1.2.2.2.2 (gi_V (zm kw_600) (zm kw_601) (zm kw_602) (zm kw_33) (zm kw_599)) rfl rfl rfl (by decide +kernel) ⟨(Nat.le_of_ble_eq_true rfl), (Nat.le_of_ble_eq_true rfl)⟩) rfl rfl dL_has_4 ⟨(Nat.le_of_ble_eq_true rfl), (Nat.le_of_ble_eq_true rfl)⟩ [.inr (.inr v3)] rfl (Nat.le_of_ble_eq_true rfl) rfl hW hS hw) hS (fun E ce q9 GX H locs hw hW hS hce hcv hcl => ?_) (fun x_4 G_4 H locs hw hW hS => ?_)
  · by_cases hq0 : E = "java/lang/IndexOutOfBoundsException"
    · replace hw := hw.1 hq0
      subst hq0
      refine vx_catch (name := "java/lang/IndexOutOfBoundsException") C.1.2.2.2.1 [] (⟨0, 18, 21, 19⟩ : ExceptionTableEntry) [(⟨0, 18, 25, 21⟩ : ExceptionTableEntry)] (by rw [htab]; rfl) (fun z hz => nomatch hz) (by decide) (by decide) (C.1.2.2.2.2 _ (zm kw_209)) hcC.2.2.1 hce hcv hcl ?_
      refine tr_astore (x := (some q9)) C hl [(4, .inr (.inr (some q9))), (0, .inr (.inr v0)), (1, .inl v1), (2, .inl v2), (3, .inr (.inr v3))] (by decide) rfl dL_has_21 (fun ls hl => ?_)
      refine lv_iconst (v := (1 : Int32)) C.1.1 C.1.2.1 dL_has_23 (by decide) ?_
      exact vx_ret (tr_iret C hr dL_has_24 (Nat.le_of_ble_eq_true rfl) (Nat.le_of_ble_eq_true rfl) hW hS hw)
    replace hw := hw.2 hq0
    by_cases hq1 : E = "java/lang/IllegalArgumentException"
    · replace hw := hw.1 hq1
      subst hq1
      refine vx_catch (name := "java/lang/IllegalArgumentException") C.1.2.2.2.1 [(⟨0, 18, 21, 19⟩ : ExceptionTableEntry)] (⟨0, 18, 25, 21⟩ : ExceptionTableEntry) [] (by rw [htab]; rfl) (kx_pass1 C hcC rfl (by decide) (zm kw_209)) (by decide) (by decide) (C.1.2.2.2.2 _ (zm kw_188)) hcC.2.2.2.1 hce hcv hcl ?_
      refine tr_astore (x := (some q9)) C hl [(4, .inr (.inr (some q9))), (0, .inr (.inr v0)), (1, .inl v1), (2, .inl v2), (3, .inr (.inr v3))] (by decide) rfl dL_has_25 (fun ls hl => ?_)
      refine lv_iconst (v := (2 : Int32)) C.1.1 C.1.2.1 dL_has_27 (by decide) ?_
      exact vx_ret (tr_iret C hr dL_has_28 (Nat.le_of_ble_eq_true rfl) (Nat.le_of_ble_eq_true rfl) hW hS hw)
    replace hw := hw.2 hq1
    exact hw.elim
  · refine lv_if_eq (tgt := 14) C.1.1 C.1.2.1 dL_has_7 (by decide) (fun hc => ?_) (fun hc => ?_)
    · have hw := hw.1 hc
      refine lv_lconst (v := (0 : Int64)) C.1.1 C.1.2.1 dL_has_14 (by decide) ?_
      exact s_L_has_15 C hr htab hcC hll post v3 ((0 : Int64)) _ _ _ _ hW hS (tl_sub hl [] rfl) hw
    · have hw := hw.2 hc
      refine lv_lconst (v := (1 : Int64)) C.1.1 C.1.2.1 dL_has_10 (by decide) ?_
      refine lv_goto (tgt := 15) C.1.1 C.1.2.1 dL_has_11 (by decide) ?_
      exact s_L_has_15 C hr htab hcC hll post v3 ((1 : Int64)) _ _ _ _ hW hS (tl_sub hl [] rfl) hw
end Z_L_has
set_option maxHeartbeats 4000000 in
set_option maxRecDepth 100000 in
theorem c_L_has (l : Launch) (hll : l.stackTraces = false) (K : tK) (post : Int32 → tG → Prop) (v0 : Option Nat) (v1 : Int32) (v2 : Int32) (v3 : Option Nat) : Cx l yL_has wz_L_has ({ frames := 9, cells := 2, slots := 12, locals := 147 } : Room) 2 12 [va_rf v0, .int v1, .int v2, va_rf v3] K (retI post) (fun _ _ => False) (fun G => w_L_has K post v0 v1 v2 v3 G) := by
  refine tx_ofH (cc := cL_has) (maxL := 5) (ret := (some .int)) (own := RL) (hh := [(0, 18, 21, 19), (0, 18, 25, 21)]) (by decide) rfl rfl hll [.inr (.inr v0), .inl v1, .inl v2, .inr (.inr v3)] rfl (Nat.le_of_ble_eq_true rfl) ?_
  intro p e s m args below meth c D A G ls C hr htab hcC hl hW hS hw
  exact s_L_has C hr htab hcC hll post v0 v1 v2 v3 _ _ _ _ hW hS hl hw

/-! X3_placeOf -/
def wz_X3_placeOf : List Cond := Cond.code yX3_placeOf cX3_placeOf 3 (some .int) :: w0
section Z_X3_placeOf
variable {p : Program} {l : Launch} {e : Env} {s : State} {m : MethodId} {args : Array Value} {below : List Frame} {meth : Method} {c : Code} {D : va_G} {A : Nat → Prop}
set_option maxHeartbeats 4000000 in
set_option maxRecDepth 100000 in
theorem s_X3_placeOf_2_b {K : tK} (C : tc_B p l s m args meth c D K A wz_X3_placeOf RX3 cX3_placeOf 3) (hr : meth.sig.returnType = (some .int)) (hll : l.stackTraces = false)  (post : Int32 → tG → Prop) (k2 : Option Nat → Int32 → Int32 → tG → Prop) (hk2 : ∀ (v0 : Option Nat) (v1 : Int32) (v2 : Int32) (G : tG) (H : Heap) (locs : List Loc) (ls : Array Slot), tg_W D A s H G → va_S A s.heap H locs → tl ls 3 [(0, .inr (.inr v0)), (1, .inl v1), (2, .inl v2)] → k2 v0 v1 v2 G → W p l e ({ frames := 0, cells := 0, slots := 0, locals := 0 } : Room) s m args below meth c H locs 0 0 (MQ below (tc_Qc D A (retI post)) args s 0 0 A) (F0 m 2 ls [])) : ∀ (v0 : Option Nat) (v1 : Int32) (v2 : Int32) (G : tG) (H : Heap) (locs : List Loc) (ls : Array Slot), tg_W D A s H G → va_S A s.heap H locs → tl ls 3 [(0, .inr (.inr v0)), (1, .inl v1), (2, .inl v2)] → w_X3_placeOf_2_b K post k2 v0 v1 v2 G → W p l e ({ frames := 0, cells := 0, slots := 0, locals := 0 } : Room) s m args below meth c H locs 0 0 (MQ below (tc_Qc D A (retI post)) args s 0 0 A) (F0 m 2 ls []) := by
  intro v0 v1 v2 G H locs ls hW hS hl hw
  unfold w_X3_placeOf_2_b at hw
  refine tr_iload_n (k := 2) (x := v2) C hl 2 rfl dX3_placeOf_2 ?_
  refine tr_aload_n (k := 0) (x := v0) C hl 0 rfl dX3_placeOf_3 ?_
  refine tr_len (r := v0) C dX3_placeOf_4 hW hw (fun x_4 hw => ?_)
  refine lv_icmp_ge (tgt := 23) C.1.1 C.1.2.1 dX3_placeOf_5 (by decide) (fun hc => ?_) (fun hc => ?_)
  · have hw := hw.1 hc
    refine lv_iconst (v := (-1 : Int32)) C.1.1 C.1.2.1 dX3_placeOf_23 (by decide) ?_
    exact tr_iret C hr dX3_placeOf_24 (Nat.le_of_ble_eq_true rfl) (Nat.le_of_ble_eq_true rfl) hW hS hw
  · have hw := hw.2 hc
    refine tr_aload_n (k := 0) (x := v0) C hl 0 rfl dX3_placeOf_8 ?_
    refine tr_iload_n (k := 2) (x := v2) C hl 2 rfl dX3_placeOf_9 ?_
    refine tr_alI (r := v0) C dX3_placeOf_10 hW hw (fun x_10 hw => ?_)
    refine tr_iload_n (k := 1) (x := v1) C hl 1 rfl dX3_placeOf_11 ?_
    refine lv_icmp_ne (tgt := 17) C.1.1 C.1.2.1 dX3_placeOf_12 (by decide) (fun hc => ?_) (fun hc => ?_)
    · have hw := hw.1 hc
      refine tr_iinc C hl 2 (v2 + (1 : Int32)) [(2, .inl (v2 + (1 : Int32))), (0, .inr (.inr v0)), (1, .inl v1)] rfl rfl (by decide) rfl dX3_placeOf_17 (fun ls hl => ?_)
      refine lv_goto (tgt := 2) C.1.1 C.1.2.1 dX3_placeOf_20 (by decide) ?_
      exact hk2 v0 v1 ((v2 + (1 : Int32))) _ _ _ _ hW hS (tl_sub hl [1, 2, 0] rfl) hw
    · have hw := hw.2 hc
      refine tr_iload_n (k := 2) (x := v2) C hl 2 rfl dX3_placeOf_15 ?_
      exact tr_iret C hr dX3_placeOf_16 (Nat.le_of_ble_eq_true rfl) (Nat.le_of_ble_eq_true rfl) hW hS hw
set_option maxHeartbeats 4000000 in
set_option maxRecDepth 100000 in
theorem s_X3_placeOf_2 {K : tK} (C : tc_B p l s m args meth c D K A wz_X3_placeOf RX3 cX3_placeOf 3) (hr : meth.sig.returnType = (some .int)) (hll : l.stackTraces = false)  (post : Int32 → tG → Prop) : ∀ (n : Nat) (v0 : Option Nat) (v1 : Int32) (v2 : Int32) (G : tG) (H : Heap) (locs : List Loc) (ls : Array Slot), tg_W D A s H G → va_S A s.heap H locs → tl ls 3 [(0, .inr (.inr v0)), (1, .inl v1), (2, .inl v2)] → w_X3_placeOf_2 K post n v0 v1 v2 G → W p l e ({ frames := 0, cells := 0, slots := 0, locals := 0 } : Room) s m args below meth c H locs 0 0 (MQ below (tc_Qc D A (retI post)) args s 0 0 A) (F0 m 2 ls []) := by
  intro n
  induction n with
  | zero =>
    intro v0 v1 v2 G H locs ls hW hS hl hw
    exact hw.elim
  | succ n ih => exact s_X3_placeOf_2_b C hr hll post _ ih
set_option maxHeartbeats 4000000 in
set_option maxRecDepth 100000 in
theorem s_X3_placeOf {K : tK} (C : tc_B p l s m args meth c D K A wz_X3_placeOf RX3 cX3_placeOf 3) (hr : meth.sig.returnType = (some .int)) (hll : l.stackTraces = false)  (post : Int32 → tG → Prop) (v0 : Option Nat) (v1 : Int32) : ∀ (G : tG) (H : Heap) (locs : List Loc) (ls : Array Slot), tg_W D A s H G → va_S A s.heap H locs → tl ls 3 [(0, .inr (.inr v0)), (1, .inl v1)] → w_X3_placeOf K post v0 v1 G → W p l e ({ frames := 0, cells := 0, slots := 0, locals := 0 } : Room) s m args below meth c H locs 0 0 (MQ below (tc_Qc D A (retI post)) args s 0 0 A) (F0 m 0 ls []) := by
  intro G H locs ls hW hS hl hw
  unfold w_X3_placeOf at hw
  refine lv_iconst (v := (0 : Int32)) C.1.1 C.1.2.1 dX3_placeOf_0 (by decide) ?_
  refine tr_istore_n (k := 2) (x := (0 : Int32)) C hl [(2, .inl (0 : Int32)), (0, .inr (.inr v0)), (1, .inl v1)] (by decide) rfl dX3_placeOf_1 (fun ls hl => ?_)
  obtain ⟨n2, hw⟩ := hw
  exact s_X3_placeOf_2 C hr hll post n2 v0 v1 ((0 : Int32)) _ _ _ _ hW hS (tl_sub hl [1, 2, 0] rfl) hw
end Z_X3_placeOf
set_option maxHeartbeats 4000000 in
set_option maxRecDepth 100000 in
theorem c_X3_placeOf (l : Launch) (hll : l.stackTraces = false) (K : tK) (post : Int32 → tG → Prop) (v0 : Option Nat) (v1 : Int32) : Ct l yX3_placeOf wz_X3_placeOf ({ frames := 0, cells := 0, slots := 0, locals := 0 } : Room) 0 0 [va_rf v0, .int v1] K (retI post) (fun G => w_X3_placeOf K post v0 v1 G) := by
  refine tc_of (cc := cX3_placeOf) (maxL := 3) (ret := (some .int)) (own := RX3) (plainFor_of_name (by decide)) rfl rfl hll [.inr (.inr v0), .inl v1] rfl (Nat.le_of_ble_eq_true rfl) ?_
  intro p e s m args below meth c D A G ls C hr hn ht hl hW hS hw
  exact s_X3_placeOf C hr hll post v0 v1 _ _ _ _ hW hS hl hw

/-! X3_has -/
def wz_X3_has : List Cond := Cond.code yX3_has cX3_has 3 (some .boolean) :: w0
section Z_X3_has
variable {p : Program} {l : Launch} {e : Env} {s : State} {m : MethodId} {args : Array Value} {below : List Frame} {meth : Method} {c : Code} {D : va_G} {A : Nat → Prop}
set_option maxHeartbeats 4000000 in
set_option maxRecDepth 100000 in
theorem s_X3_has_33 {K : tK} (C : tc_B p l s m args meth c D K A wz_X3_has RX3 cX3_has 3) (hr : meth.sig.returnType = (some .boolean)) (hll : l.stackTraces = false)  (post : Int32 → tG → Prop) : ∀ (u0 : Int32) (G : tG) (H : Heap) (locs : List Loc) (ls : Array Slot), tg_W D A s H G → va_S A s.heap H locs → tl ls 3 [] → w_X3_has_33 K post u0 G → W p l e ({ frames := 2, cells := 1, slots := 12, locals := 45 } : Room) s m args below meth c H locs 1 12 (MQ below (tc_Qc D A (retI post)) args s 1 12 A) (F0 m 33 ls [.int u0]) := by
  intro u0 G H locs ls hW hS hl hw
  unfold w_X3_has_33 at hw
  exact tr_zret C hr dX3_has_33 (Nat.le_of_ble_eq_true rfl) (Nat.le_of_ble_eq_true rfl) hW hS hw
set_option maxHeartbeats 4000000 in
set_option maxRecDepth 100000 in
theorem s_X3_has_32 {K : tK} (C : tc_B p l s m args meth c D K A wz_X3_has RX3 cX3_has 3) (hr : meth.sig.returnType = (some .boolean)) (hll : l.stackTraces = false)  (post : Int32 → tG → Prop) : ∀ (G : tG) (H : Heap) (locs : List Loc) (ls : Array Slot), tg_W D A s H G → va_S A s.heap H locs → tl ls 3 [] → w_X3_has_32 K post G → W p l e ({ frames := 2, cells := 1, slots := 12, locals := 45 } : Room) s m args below meth c H locs 1 12 (MQ below (tc_Qc D A (retI post)) args s 1 12 A) (F0 m 32 ls []) := by
  intro G H locs ls hW hS hl hw
  unfold w_X3_has_32 at hw
  refine lv_iconst (v := (0 : Int32)) C.1.1 C.1.2.1 dX3_has_32 (by decide) ?_
  exact s_X3_has_33 C hr hll post ((0 : Int32)) _ _ _ _ hW hS (tl_sub hl [] rfl) hw
set_option maxHeartbeats 4000000 in
set_option maxRecDepth 100000 in
theorem s_X3_has {K : tK} (C : tc_B p l s m args meth c D K A wz_X3_has RX3 cX3_has 3) (hr : meth.sig.returnType = (some .boolean)) (hll : l.stackTraces = false)  (post : Int32 → tG → Prop) (v0 : Option Nat) (v1 : Int32) (v2 : Int32) : ∀ (G : tG) (H : Heap) (locs : List Loc) (ls : Array Slot), tg_W D A s H G → va_S A s.heap H locs → tl ls 3 [(0, .inr (.inr v0)), (1, .inl v1), (2, .inl v2)] → w_X3_has K post v0 v1 v2 G → W p l e ({ frames := 2, cells := 1, slots := 12, locals := 45 } : Room) s m args below meth c H locs 0 0 (MQ below (tc_Qc D A (retI post)) args s 1 12 A) (F0 m 0 ls []) := by
  intro G H locs ls hW hS hl hw
  unfold w_X3_has at hw
  refine tr_aload_n (k := 0) (x := v0) C hl 0 rfl dX3_has_0 ?_
  refine tr_aload_n (k := 0) (x := v0) C hl 0 rfl dX3_has_1 ?_
  refine tr_iload_n (k := 1) (x := v1) C hl 1 rfl dX3_has_2 ?_
  refine tr_backI (tr_runV (r := v0) (As := [.int v1]) C hl.1 (c_X3_isNoList l hll K _ v0 v1) (cwV 1 C.1.2.2.2.2 (gi_V (zm kw_211) (zm kw_212) (zm kw_213) (zm kw_155) (zm kw_210)) rfl rfl rfl (by decide +kernel) ⟨(Nat.le_of_ble_eq_true rfl), (Nat.le_of_ble_eq_true rfl)⟩) rfl rfl dX3_has_3 ⟨(Nat.le_of_ble_eq_true rfl), (Nat.le_of_ble_eq_true rfl)⟩ [.inr (.inr v0)] rfl (Nat.le_of_ble_eq_true rfl) rfl hW hS hw) hS (fun x_3 G_3 H locs hw hW hS => ?_)
  refine tr_iload_n (k := 2) (x := v2) C hl 2 rfl dX3_has_6 ?_
  refine tr_backI (tr_runS (As := [.int v2]) C hl.1 (c_X3_isNoValue l hll K _ v2) (va_cwS 1 C.1.2.2.2.2 (gi_S (zm kw_276) (zm kw_277) (zm kw_155) (zm kw_275)) rfl rfl rfl (by decide +kernel) ⟨(Nat.le_of_ble_eq_true rfl), (Nat.le_of_ble_eq_true rfl)⟩) rfl dX3_has_7 ⟨(Nat.le_of_ble_eq_true rfl), (Nat.le_of_ble_eq_true rfl)⟩ [.inl x_3, .inr (.inr v0)] rfl (Nat.le_of_ble_eq_true rfl) rfl hW hS hw) hS (fun x_7 G_7 H locs hw hW hS => ?_)
  refine tr_backI (tr_runV (r := v0) (As := [.int x_3, .int x_7]) C hl.1 (c_X3_fails l hll K _ v0 x_3 x_7) (cwV 2 C.1.2.2.2.2 (gi_V (zm kw_190) (zm kw_191) (zm kw_192) (zm kw_155) (zm kw_189)) rfl rfl rfl (by decide +kernel) ⟨(Nat.le_of_ble_eq_true rfl), (Nat.le_of_ble_eq_true rfl)⟩) rfl rfl dX3_has_10 ⟨(Nat.le_of_ble_eq_true rfl), (Nat.le_of_ble_eq_true rfl)⟩ [] rfl (Nat.le_of_ble_eq_true rfl) rfl hW hS hw) hS (fun x_10 G_10 H locs hw hW hS => ?_)
  refine lv_if_ne (tgt := 32) C.1.1 C.1.2.1 dX3_has_13 (by decide) (fun hc => ?_) (fun hc => ?_)
  · have hw := hw.1 hc
    refine W.widen (k := 1) (n := 12) (Nat.le_of_ble_eq_true rfl) (Nat.le_of_ble_eq_true rfl) ?_
    exact s_X3_has_32 C hr hll post _ _ _ _ hW hS (tl_sub hl [] rfl) hw
  · have hw := hw.2 hc
    refine tr_aload_n (k := 0) (x := v0) C hl 0 rfl dX3_has_16 ?_
    refine tr_iload_n (k := 1) (x := v1) C hl 1 rfl dX3_has_17 ?_
    refine tr_backR (tr_runV (r := v0) (As := [.int v1]) C hl.1 (c_X3_all l hll K _ v0 v1) (cwV 1 C.1.2.2.2.2 (gi_V (zm kw_157) (zm kw_158) (zm kw_159) (zm kw_155) (zm kw_156)) rfl rfl rfl (by decide +kernel) ⟨(Nat.le_of_ble_eq_true rfl), (Nat.le_of_ble_eq_true rfl)⟩) rfl rfl dX3_has_18 ⟨(Nat.le_of_ble_eq_true rfl), (Nat.le_of_ble_eq_true rfl)⟩ [] rfl (Nat.le_of_ble_eq_true rfl) rfl hW hS hw) hS (fun x_18 G_18 H locs hw hW hS => ?_)
    refine tr_iload_n (k := 2) (x := v2) C hl 2 rfl dX3_has_21 ?_
    refine tr_backI (tr_runS (As := [va_rf x_18, .int v2]) C hl.1 (c_X3_placeOf l hll K _ x_18 v2) (va_cwS 2 C.1.2.2.2.2 (gi_S (zm kw_604) (zm kw_605) (zm kw_155) (zm kw_603)) rfl rfl rfl (by decide +kernel) ⟨(Nat.le_of_ble_eq_true rfl), (Nat.le_of_ble_eq_true rfl)⟩) rfl dX3_has_22 ⟨(Nat.le_of_ble_eq_true rfl), (Nat.le_of_ble_eq_true rfl)⟩ [] rfl (Nat.le_of_ble_eq_true rfl) rfl hW hS hw) hS (fun x_22 G_22 H locs hw hW hS => ?_)
    refine lv_if_lt (tgt := 32) C.1.1 C.1.2.1 dX3_has_25 (by decide) (fun hc => ?_) (fun hc => ?_)
    · have hw := hw.1 hc
      exact s_X3_has_32 C hr hll post _ _ _ _ hW hS (tl_sub hl [] rfl) hw
    · have hw := hw.2 hc
      refine lv_iconst (v := (1 : Int32)) C.1.1 C.1.2.1 dX3_has_28 (by decide) ?_
      refine lv_goto (tgt := 33) C.1.1 C.1.2.1 dX3_has_29 (by decide) ?_
      exact s_X3_has_33 C hr hll post ((1 : Int32)) _ _ _ _ hW hS (tl_sub hl [] rfl) hw
end Z_X3_has
set_option maxHeartbeats 4000000 in
set_option maxRecDepth 100000 in
theorem c_X3_has (l : Launch) (hll : l.stackTraces = false) (K : tK) (post : Int32 → tG → Prop) (v0 : Option Nat) (v1 : Int32) (v2 : Int32) : Ct l yX3_has wz_X3_has ({ frames := 2, cells := 1, slots := 12, locals := 45 } : Room) 1 12 [va_rf v0, .int v1, .int v2] K (retI post) (fun G => w_X3_has K post v0 v1 v2 G) := by
  refine tc_of (cc := cX3_has) (maxL := 3) (ret := (some .boolean)) (own := RX3) (plainFor_of_name (by decide)) rfl rfl hll [.inr (.inr v0), .inl v1, .inl v2] rfl (Nat.le_of_ble_eq_true rfl) ?_
  intro p e s m args below meth c D A G ls C hr hn ht hl hW hS hw
  exact s_X3_has C hr hll post v0 v1 v2 _ _ _ _ hW hS hl hw

/-! X1_lastIndexOf -/
def wz_X1_lastIndexOf : List Cond := Cond.code yX1_lastIndexOf cX1_lastIndexOf 4 (some .int) :: w0
section Z_X1_lastIndexOf
variable {p : Program} {l : Launch} {e : Env} {s : State} {m : MethodId} {args : Array Value} {below : List Frame} {meth : Method} {c : Code} {D : va_G} {A : Nat → Prop}
set_option maxHeartbeats 4000000 in
set_option maxRecDepth 100000 in
theorem s_X1_lastIndexOf {K : tK} (C : tc_B p l s m args meth c D K A wz_X1_lastIndexOf RX1 cX1_lastIndexOf 4) (hr : meth.sig.returnType = (some .int)) (ht : ∀ x ∈ c.exceptionTable.toList, False) (hll : l.stackTraces = false)  (post : Int32 → tG → Prop) (postX : String → tG → Prop) (v0 : Option Nat) (v1 : Int32) (v2 : Int32) : ∀ (G : tG) (H : Heap) (locs : List Loc) (ls : Array Slot), tg_W D A s H G → va_S A s.heap H locs → tl ls 4 [(0, .inr (.inr v0)), (1, .inl v1), (2, .inl v2)] → w_X1_lastIndexOf K post postX v0 v1 v2 G → W p l e ({ frames := 8, cells := 2, slots := 12, locals := 124 } : Room) s m args below meth c H locs 0 0 (vx_MQ below (tc_Qc D A (retI post)) (tc_XC D A postX) args s 2 12 A) (F0 m 0 ls []) := by
  intro G H locs ls hW hS hl hw
  unfold w_X1_lastIndexOf at hw
  refine tr_aload_n (k := 0) (x := v0) C hl 0 rfl dX1_lastIndexOf_0 ?_
  refine tr_iload_n (k := 1) (x := v1) C hl 1 rfl dX1_lastIndexOf_1 ?_
  refine tx_backR (tx_runV (r := v0) (As := [.int v1]) C hl.1 (c_X1_listAt l hll K _ _ v0 v1) (cwV 1 C.1.2.2.2.2 (gi_V (zm kw_94) (zm kw_95) (zm kw_96) (zm kw_33) (zm kw_93)) rfl rfl rfl (by decide +kernel) ⟨(Nat.le_of_ble_eq_true rfl), (Nat.le_of_ble_eq_true rfl)⟩) rfl rfl dX1_lastIndexOf_2 ⟨(Nat.le_of_ble_eq_true rfl), (Nat.le_of_ble_eq_true rfl)⟩ [] rfl (Nat.le_of_ble_eq_true rfl) rfl hW hS hw) hS C.2.1 ht (Nat.le_of_ble_eq_true rfl) (Nat.le_of_ble_eq_true rfl) (fun x_2 G_2 H locs hw hW hS => ?_)
  refine tr_astore_n (k := 3) (x := x_2) C hl [(3, .inr (.inr x_2)), (0, .inr (.inr v0)), (1, .inl v1), (2, .inl v2)] (by decide) rfl dX1_lastIndexOf_5 (fun ls hl => ?_)
  refine tr_iload_n (k := 2) (x := v2) C hl 3 rfl dX1_lastIndexOf_6 ?_
  refine tx_backV (tx_runS (As := [.int v2]) C hl.1 (c_X1_checkValue l hll K _ _ v2) (va_cwS 1 C.1.2.2.2.2 (gi_S (zm kw_269) (zm kw_270) (zm kw_33) (zm kw_268)) rfl rfl rfl (by decide +kernel) ⟨(Nat.le_of_ble_eq_true rfl), (Nat.le_of_ble_eq_true rfl)⟩) rfl dX1_lastIndexOf_7 ⟨(Nat.le_of_ble_eq_true rfl), (Nat.le_of_ble_eq_true rfl)⟩ [] rfl (Nat.le_of_ble_eq_true rfl) rfl hW hS hw) hS C.2.1 ht (Nat.le_of_ble_eq_true rfl) (Nat.le_of_ble_eq_true rfl) (fun G_7 H locs hw hW hS => ?_)
  refine tr_aload_n (k := 3) (x := x_2) C hl 0 rfl dX1_lastIndexOf_10 ?_
  refine tr_iload_n (k := 2) (x := v2) C hl 3 rfl dX1_lastIndexOf_11 ?_
  refine tr_backI (tr_runS (As := [va_rf x_2, .int v2]) C hl.1 (c_X1_lastPlace l hll K _ x_2 v2) (va_cwS 2 C.1.2.2.2.2 (gi_S (zm kw_57) (zm kw_58) (zm kw_33) (zm kw_56)) rfl rfl rfl (by decide +kernel) ⟨(Nat.le_of_ble_eq_true rfl), (Nat.le_of_ble_eq_true rfl)⟩) rfl dX1_lastIndexOf_12 ⟨(Nat.le_of_ble_eq_true rfl), (Nat.le_of_ble_eq_true rfl)⟩ [] rfl (Nat.le_of_ble_eq_true rfl) rfl hW hS hw) hS (fun x_12 G_12 H locs hw hW hS => ?_)
  exact vx_ret (tr_iret C hr dX1_lastIndexOf_15 (Nat.le_of_ble_eq_true rfl) (Nat.le_of_ble_eq_true rfl) hW hS hw)
end Z_X1_lastIndexOf
set_option maxHeartbeats 4000000 in
set_option maxRecDepth 100000 in
theorem c_X1_lastIndexOf (l : Launch) (hll : l.stackTraces = false) (K : tK) (post : Int32 → tG → Prop) (postX : String → tG → Prop) (v0 : Option Nat) (v1 : Int32) (v2 : Int32) : Cx l yX1_lastIndexOf wz_X1_lastIndexOf ({ frames := 8, cells := 2, slots := 12, locals := 124 } : Room) 2 12 [va_rf v0, .int v1, .int v2] K (retI post) postX (fun G => w_X1_lastIndexOf K post postX v0 v1 v2 G) := by
  refine tx_of (cc := cX1_lastIndexOf) (maxL := 4) (ret := (some .int)) (own := RX1) (by decide) rfl rfl hll [.inr (.inr v0), .inl v1, .inl v2] rfl (Nat.le_of_ble_eq_true rfl) ?_
  intro p e s m args below meth c D A G ls C hr hn ht hl hW hS hw
  exact s_X1_lastIndexOf C hr ht hll post postX v0 v1 v2 _ _ _ _ hW hS hl hw

/-! L_lastIndexOf -/
def wz_L_lastIndexOf : List Cond := Cond.codeWith yL_lastIndexOf cL_lastIndexOf 5 (some .int) [(0, 11, 14, 19), (0, 11, 18, 21)] :: w0
section Z_L_lastIndexOf
variable {p : Program} {l : Launch} {e : Env} {s : State} {m : MethodId} {args : Array Value} {below : List Frame} {meth : Method} {c : Code} {D : va_G} {A : Nat → Prop}
set_option maxHeartbeats 4000000 in
set_option maxRecDepth 100000 in
theorem s_L_lastIndexOf {K : tK} (C : tc_B p l s m args meth c D K A wz_L_lastIndexOf RL cL_lastIndexOf 5) (hr : meth.sig.returnType = (some .int)) (htab : c.exceptionTable.toList = tableOf [(0, 11, 14, 19), (0, 11, 18, 21)]) (hcC : kx_C s) (hll : l.stackTraces = false)  (post : Int32 → tG → Prop) (v0 : Option Nat) (v1 : Int32) (v2 : Int32) (v3 : Option Nat) : ∀ (G : tG) (H : Heap) (locs : List Loc) (ls : Array Slot), tg_W D A s H G → va_S A s.heap H locs → tl ls 5 [(0, .inr (.inr v0)), (1, .inl v1), (2, .inl v2), (3, .inr (.inr v3))] → w_L_lastIndexOf K post v0 v1 v2 v3 G → W p l e ({ frames := 9, cells := 2, slots := 12, locals := 147 } : Room) s m args below meth c H locs 0 0 (vx_MQ below (tc_Qc D A (retI post)) (tc_XC D A (fun _ _ => False)) args s 2 12 A) (F0 m 0 ls []) := by
  intro G H locs ls hW hS hl hw
  unfold w_L_lastIndexOf at hw
  refine tr_aload_n (k := 3) (x := v3) C hl 3 rfl dL_lastIndexOf_0 ?_
  refine tr_aload_n (k := 0) (x := v0) C hl 0 rfl dL_lastIndexOf_1 ?_
  refine tr_iload_n (k := 1) (x := v1) C hl 1 rfl dL_lastIndexOf_2 ?_
  refine tr_iload_n (k := 2) (x := v2) C hl 2 rfl dL_lastIndexOf_3 ?_
  refine tx_backCI (tx_runV (r := v0) (As := [.int v1, .int v2]) C hl.1 (c_X1_lastIndexOf l hll K _ _ v0 v1 v2) (cwV 2 C.1.2.2.2.2 (gi_V (zm kw_607) (zm kw_608) (zm kw_609) (zm kw_33) (zm kw_606)) rfl rfl rfl (by decide +kernel) ⟨(Nat.le_of_ble_eq_true rfl), (Nat.le_of_ble_eq_true rfl)⟩) rfl rfl dL_lastIndexOf_4 ⟨(Nat.le_of_ble_eq_true rfl), (Nat.le_of_ble_eq_true rfl)⟩ [.inr (.inr v3)] rfl (Nat.le_of_ble_eq_true rfl) rfl hW hS hw) hS (fun E ce q9 GX H locs hw hW hS hce hcv hcl => ?_) (fun x_4 G_4 H locs hw hW hS => ?_)
  · by_cases hq0 : E = "java/lang/IndexOutOfBoundsException"
    · replace hw := hw.1 hq0
      subst hq0
      refine vx_catch (name := "java/lang/IndexOutOfBoundsException") C.1.2.2.2.1 [] (⟨0, 11, 14, 19⟩ : ExceptionTableEntry) [(⟨0, 11, 18, 21⟩ : ExceptionTableEntry)] (by rw [htab]; rfl) (fun z hz => nomatch hz) (by decide) (by decide) (C.1.2.2.2.2 _ (zm kw_209)) hcC.2.2.1 hce hcv hcl ?_
      refine tr_astore (x := (some q9)) C hl [(4, .inr (.inr (some q9))), (0, .inr (.inr v0)), (1, .inl v1), (2, .inl v2), (3, .inr (.inr v3))] (by decide) rfl dL_lastIndexOf_14 (fun ls hl => ?_)
      refine lv_iconst (v := (1 : Int32)) C.1.1 C.1.2.1 dL_lastIndexOf_16 (by decide) ?_
      exact vx_ret (tr_iret C hr dL_lastIndexOf_17 (Nat.le_of_ble_eq_true rfl) (Nat.le_of_ble_eq_true rfl) hW hS hw)
    replace hw := hw.2 hq0
    by_cases hq1 : E = "java/lang/IllegalArgumentException"
    · replace hw := hw.1 hq1
      subst hq1
      refine vx_catch (name := "java/lang/IllegalArgumentException") C.1.2.2.2.1 [(⟨0, 11, 14, 19⟩ : ExceptionTableEntry)] (⟨0, 11, 18, 21⟩ : ExceptionTableEntry) [] (by rw [htab]; rfl) (kx_pass1 C hcC rfl (by decide) (zm kw_209)) (by decide) (by decide) (C.1.2.2.2.2 _ (zm kw_188)) hcC.2.2.2.1 hce hcv hcl ?_
      refine tr_astore (x := (some q9)) C hl [(4, .inr (.inr (some q9))), (0, .inr (.inr v0)), (1, .inl v1), (2, .inl v2), (3, .inr (.inr v3))] (by decide) rfl dL_lastIndexOf_18 (fun ls hl => ?_)
      refine lv_iconst (v := (2 : Int32)) C.1.1 C.1.2.1 dL_lastIndexOf_20 (by decide) ?_
      exact vx_ret (tr_iret C hr dL_lastIndexOf_21 (Nat.le_of_ble_eq_true rfl) (Nat.le_of_ble_eq_true rfl) hW hS hw)
    replace hw := hw.2 hq1
    exact hw.elim
  · refine lv_i2l (v := ((x_4).toInt64)) C.1.1 C.1.2.1 dL_lastIndexOf_7 rfl ?_
    refine tr_pfN (C0 := RX2) (T := TX2) (N := 2) (ci := 4) (ref := "TwinrowLaw$Out") (host := "TwinrowLaw") (k := 0) (ty := .long) (v := .long (((x_4).toInt64))) (r := v3) C (zh hw_X2) tyX2 tyX2_ok nmX2 rfl (by decide) hcC.1 rfl rfl (by decide +kernel) rfl rfl dL_lastIndexOf_8 hW hS hw (fun G_8 H locs hw hW hS => ?_)
    refine lv_goto (tgt := 22) C.1.1 C.1.2.1 dL_lastIndexOf_11 (by decide) ?_
    refine lv_iconst (v := (0 : Int32)) C.1.1 C.1.2.1 dL_lastIndexOf_22 (by decide) ?_
    exact vx_ret (tr_iret C hr dL_lastIndexOf_23 (Nat.le_of_ble_eq_true rfl) (Nat.le_of_ble_eq_true rfl) hW hS hw)
end Z_L_lastIndexOf
set_option maxHeartbeats 4000000 in
set_option maxRecDepth 100000 in
theorem c_L_lastIndexOf (l : Launch) (hll : l.stackTraces = false) (K : tK) (post : Int32 → tG → Prop) (v0 : Option Nat) (v1 : Int32) (v2 : Int32) (v3 : Option Nat) : Cx l yL_lastIndexOf wz_L_lastIndexOf ({ frames := 9, cells := 2, slots := 12, locals := 147 } : Room) 2 12 [va_rf v0, .int v1, .int v2, va_rf v3] K (retI post) (fun _ _ => False) (fun G => w_L_lastIndexOf K post v0 v1 v2 v3 G) := by
  refine tx_ofH (cc := cL_lastIndexOf) (maxL := 5) (ret := (some .int)) (own := RL) (hh := [(0, 11, 14, 19), (0, 11, 18, 21)]) (by decide) rfl rfl hll [.inr (.inr v0), .inl v1, .inl v2, .inr (.inr v3)] rfl (Nat.le_of_ble_eq_true rfl) ?_
  intro p e s m args below meth c D A G ls C hr htab hcC hl hW hS hw
  exact s_L_lastIndexOf C hr htab hcC hll post v0 v1 v2 v3 _ _ _ _ hW hS hl hw

/-! X3_lastIndexOf -/
def wz_X3_lastIndexOf : List Cond := Cond.code yX3_lastIndexOf cX3_lastIndexOf 5 (some .int) :: w0
section Z_X3_lastIndexOf
variable {p : Program} {l : Launch} {e : Env} {s : State} {m : MethodId} {args : Array Value} {below : List Frame} {meth : Method} {c : Code} {D : va_G} {A : Nat → Prop}
set_option maxHeartbeats 4000000 in
set_option maxRecDepth 100000 in
theorem s_X3_lastIndexOf_48 {K : tK} (C : tc_B p l s m args meth c D K A wz_X3_lastIndexOf RX3 cX3_lastIndexOf 5) (hr : meth.sig.returnType = (some .int)) (hll : l.stackTraces = false)  (post : Int32 → tG → Prop) (k23 : Option Nat → Int32 → Int32 → Int32 → Int32 → tG → Prop) (hk23 : ∀ (v0 : Option Nat) (v1 : Int32) (v2 : Int32) (v3 : Int32) (v4 : Int32) (G : tG) (H : Heap) (locs : List Loc) (ls : Array Slot), tg_W D A s H G → va_S A s.heap H locs → tl ls 5 [(0, .inr (.inr v0)), (1, .inl v1), (2, .inl v2), (3, .inl v3), (4, .inl v4)] → k23 v0 v1 v2 v3 v4 G → W p l e ({ frames := 2, cells := 0, slots := 0, locals := 43 } : Room) s m args below meth c H locs 0 0 (MQ below (tc_Qc D A (retI post)) args s 0 0 A) (F0 m 23 ls [])) : ∀ (v0 : Option Nat) (v1 : Int32) (v2 : Int32) (v3 : Int32) (v4 : Int32) (G : tG) (H : Heap) (locs : List Loc) (ls : Array Slot), tg_W D A s H G → va_S A s.heap H locs → tl ls 5 [(0, .inr (.inr v0)), (1, .inl v1), (2, .inl v2), (3, .inl v3), (4, .inl v4)] → w_X3_lastIndexOf_48 K post k23 v0 v1 v2 v3 v4 G → W p l e ({ frames := 2, cells := 0, slots := 0, locals := 43 } : Room) s m args below meth c H locs 0 0 (MQ below (tc_Qc D A (retI post)) args s 0 0 A) (F0 m 48 ls []) := by
  intro v0 v1 v2 v3 v4 G H locs ls hW hS hl hw
  unfold w_X3_lastIndexOf_48 at hw
  refine tr_iinc C hl 4 (v4 + (1 : Int32)) [(4, .inl (v4 + (1 : Int32))), (0, .inr (.inr v0)), (1, .inl v1), (2, .inl v2), (3, .inl v3)] rfl rfl (by decide) rfl dX3_lastIndexOf_48 (fun ls hl => ?_)
  refine lv_goto (tgt := 23) C.1.1 C.1.2.1 dX3_lastIndexOf_51 (by decide) ?_
  exact hk23 v0 v1 v2 v3 ((v4 + (1 : Int32))) _ _ _ _ hW hS (tl_sub hl [1, 2, 3, 4, 0] rfl) hw
set_option maxHeartbeats 4000000 in
set_option maxRecDepth 100000 in
theorem s_X3_lastIndexOf_23_b {K : tK} (C : tc_B p l s m args meth c D K A wz_X3_lastIndexOf RX3 cX3_lastIndexOf 5) (hr : meth.sig.returnType = (some .int)) (hll : l.stackTraces = false)  (post : Int32 → tG → Prop) (k23 : Option Nat → Int32 → Int32 → Int32 → Int32 → tG → Prop) (hk23 : ∀ (v0 : Option Nat) (v1 : Int32) (v2 : Int32) (v3 : Int32) (v4 : Int32) (G : tG) (H : Heap) (locs : List Loc) (ls : Array Slot), tg_W D A s H G → va_S A s.heap H locs → tl ls 5 [(0, .inr (.inr v0)), (1, .inl v1), (2, .inl v2), (3, .inl v3), (4, .inl v4)] → k23 v0 v1 v2 v3 v4 G → W p l e ({ frames := 2, cells := 0, slots := 0, locals := 43 } : Room) s m args below meth c H locs 0 0 (MQ below (tc_Qc D A (retI post)) args s 0 0 A) (F0 m 23 ls [])) : ∀ (v0 : Option Nat) (v1 : Int32) (v2 : Int32) (v3 : Int32) (v4 : Int32) (G : tG) (H : Heap) (locs : List Loc) (ls : Array Slot), tg_W D A s H G → va_S A s.heap H locs → tl ls 5 [(0, .inr (.inr v0)), (1, .inl v1), (2, .inl v2), (3, .inl v3), (4, .inl v4)] → w_X3_lastIndexOf_23_b K post k23 v0 v1 v2 v3 v4 G → W p l e ({ frames := 2, cells := 0, slots := 0, locals := 43 } : Room) s m args below meth c H locs 0 0 (MQ below (tc_Qc D A (retI post)) args s 0 0 A) (F0 m 23 ls []) := by
  intro v0 v1 v2 v3 v4 G H locs ls hW hS hl hw
  unfold w_X3_lastIndexOf_23_b at hw
  refine tr_iload (x := v4) C hl 4 rfl dX3_lastIndexOf_23 ?_
  refine tr_aload_n (k := 0) (x := v0) C hl 0 rfl dX3_lastIndexOf_25 ?_
  refine tr_gfR (C0 := RX3) (T := TX3) (N := 8) (ci := 5) (ref := "TwinrowModel") (k := 3) (r := v0) C (zh hw_X3) rfl (by decide) (zm kw_24) rfl dX3_lastIndexOf_26 hW hw (fun x_26 hw => ?_)
  refine tr_iload_n (k := 1) (x := v1) C hl 1 rfl dX3_lastIndexOf_29 ?_
  refine tr_alI (r := x_26) C dX3_lastIndexOf_30 hW hw (fun x_30 hw => ?_)
  refine lv_icmp_ge (tgt := 54) C.1.1 C.1.2.1 dX3_lastIndexOf_31 (by decide) (fun hc => ?_) (fun hc => ?_)
  · have hw := hw.1 hc
    refine tr_iload_n (k := 3) (x := v3) C hl 3 rfl dX3_lastIndexOf_54 ?_
    exact tr_iret C hr dX3_lastIndexOf_55 (Nat.le_of_ble_eq_true rfl) (Nat.le_of_ble_eq_true rfl) hW hS hw
  · have hw := hw.2 hc
    refine tr_aload_n (k := 0) (x := v0) C hl 0 rfl dX3_lastIndexOf_34 ?_
    refine tr_iload_n (k := 1) (x := v1) C hl 1 rfl dX3_lastIndexOf_35 ?_
    refine tr_iload (x := v4) C hl 4 rfl dX3_lastIndexOf_36 ?_
    refine tr_backI (tr_runV (r := v0) (As := [.int v1, .int v4]) C hl.1 (c_X3_value l hll K _ v0 v1 v4) (cwV 2 C.1.2.2.2.2 (gi_V (zm kw_152) (zm kw_153) (zm kw_154) (zm kw_155) (zm kw_151)) rfl rfl rfl (by decide +kernel) ⟨(Nat.le_of_ble_eq_true rfl), (Nat.le_of_ble_eq_true rfl)⟩) rfl rfl dX3_lastIndexOf_38 ⟨(Nat.le_of_ble_eq_true rfl), (Nat.le_of_ble_eq_true rfl)⟩ [] rfl (Nat.le_of_ble_eq_true rfl) rfl hW hS hw) hS (fun x_38 G_38 H locs hw hW hS => ?_)
    refine tr_iload_n (k := 2) (x := v2) C hl 2 rfl dX3_lastIndexOf_41 ?_
    refine lv_icmp_ne (tgt := 48) C.1.1 C.1.2.1 dX3_lastIndexOf_42 (by decide) (fun hc => ?_) (fun hc => ?_)
    · have hw := hw.1 hc
      exact s_X3_lastIndexOf_48 C hr hll post k23 hk23 v0 v1 v2 v3 v4 _ _ _ _ hW hS (tl_sub hl [0, 1, 2, 3, 4] rfl) hw
    · have hw := hw.2 hc
      refine tr_iload (x := v4) C hl 4 rfl dX3_lastIndexOf_45 ?_
      refine tr_istore_n (k := 3) (x := v4) C hl [(3, .inl v4), (0, .inr (.inr v0)), (1, .inl v1), (2, .inl v2), (4, .inl v4)] (by decide) rfl dX3_lastIndexOf_47 (fun ls hl => ?_)
      exact s_X3_lastIndexOf_48 C hr hll post k23 hk23 v0 v1 v2 v4 v4 _ _ _ _ hW hS (tl_sub hl [1, 2, 3, 0, 4] rfl) hw
set_option maxHeartbeats 4000000 in
set_option maxRecDepth 100000 in
theorem s_X3_lastIndexOf_23 {K : tK} (C : tc_B p l s m args meth c D K A wz_X3_lastIndexOf RX3 cX3_lastIndexOf 5) (hr : meth.sig.returnType = (some .int)) (hll : l.stackTraces = false)  (post : Int32 → tG → Prop) : ∀ (n : Nat) (v0 : Option Nat) (v1 : Int32) (v2 : Int32) (v3 : Int32) (v4 : Int32) (G : tG) (H : Heap) (locs : List Loc) (ls : Array Slot), tg_W D A s H G → va_S A s.heap H locs → tl ls 5 [(0, .inr (.inr v0)), (1, .inl v1), (2, .inl v2), (3, .inl v3), (4, .inl v4)] → w_X3_lastIndexOf_23 K post n v0 v1 v2 v3 v4 G → W p l e ({ frames := 2, cells := 0, slots := 0, locals := 43 } : Room) s m args below meth c H locs 0 0 (MQ below (tc_Qc D A (retI post)) args s 0 0 A) (F0 m 23 ls []) := by
  intro n
  induction n with
  | zero =>
    intro v0 v1 v2 v3 v4 G H locs ls hW hS hl hw
    exact hw.elim
  | succ n ih => exact s_X3_lastIndexOf_23_b C hr hll post _ ih
set_option maxHeartbeats 4000000 in
set_option maxRecDepth 100000 in
theorem s_X3_lastIndexOf {K : tK} (C : tc_B p l s m args meth c D K A wz_X3_lastIndexOf RX3 cX3_lastIndexOf 5) (hr : meth.sig.returnType = (some .int)) (hll : l.stackTraces = false)  (post : Int32 → tG → Prop) (v0 : Option Nat) (v1 : Int32) (v2 : Int32) : ∀ (G : tG) (H : Heap) (locs : List Loc) (ls : Array Slot), tg_W D A s H G → va_S A s.heap H locs → tl ls 5 [(0, .inr (.inr v0)), (1, .inl v1), (2, .inl v2)] → w_X3_lastIndexOf K post v0 v1 v2 G → W p l e ({ frames := 2, cells := 0, slots := 0, locals := 43 } : Room) s m args below meth c H locs 0 0 (MQ below (tc_Qc D A (retI post)) args s 0 0 A) (F0 m 0 ls []) := by
  intro G H locs ls hW hS hl hw
  unfold w_X3_lastIndexOf at hw
  refine tr_aload_n (k := 0) (x := v0) C hl 0 rfl dX3_lastIndexOf_0 ?_
  refine tr_aload_n (k := 0) (x := v0) C hl 0 rfl dX3_lastIndexOf_1 ?_
  refine tr_iload_n (k := 1) (x := v1) C hl 1 rfl dX3_lastIndexOf_2 ?_
  refine tr_backI (tr_runV (r := v0) (As := [.int v1]) C hl.1 (c_X3_isNoList l hll K _ v0 v1) (cwV 1 C.1.2.2.2.2 (gi_V (zm kw_211) (zm kw_212) (zm kw_213) (zm kw_155) (zm kw_210)) rfl rfl rfl (by decide +kernel) ⟨(Nat.le_of_ble_eq_true rfl), (Nat.le_of_ble_eq_true rfl)⟩) rfl rfl dX3_lastIndexOf_3 ⟨(Nat.le_of_ble_eq_true rfl), (Nat.le_of_ble_eq_true rfl)⟩ [.inr (.inr v0)] rfl (Nat.le_of_ble_eq_true rfl) rfl hW hS hw) hS (fun x_3 G_3 H locs hw hW hS => ?_)
  refine tr_iload_n (k := 2) (x := v2) C hl 2 rfl dX3_lastIndexOf_6 ?_
  refine tr_backI (tr_runS (As := [.int v2]) C hl.1 (c_X3_isNoValue l hll K _ v2) (va_cwS 1 C.1.2.2.2.2 (gi_S (zm kw_276) (zm kw_277) (zm kw_155) (zm kw_275)) rfl rfl rfl (by decide +kernel) ⟨(Nat.le_of_ble_eq_true rfl), (Nat.le_of_ble_eq_true rfl)⟩) rfl dX3_lastIndexOf_7 ⟨(Nat.le_of_ble_eq_true rfl), (Nat.le_of_ble_eq_true rfl)⟩ [.inl x_3, .inr (.inr v0)] rfl (Nat.le_of_ble_eq_true rfl) rfl hW hS hw) hS (fun x_7 G_7 H locs hw hW hS => ?_)
  refine tr_backI (tr_runV (r := v0) (As := [.int x_3, .int x_7]) C hl.1 (c_X3_fails l hll K _ v0 x_3 x_7) (cwV 2 C.1.2.2.2.2 (gi_V (zm kw_190) (zm kw_191) (zm kw_192) (zm kw_155) (zm kw_189)) rfl rfl rfl (by decide +kernel) ⟨(Nat.le_of_ble_eq_true rfl), (Nat.le_of_ble_eq_true rfl)⟩) rfl rfl dX3_lastIndexOf_10 ⟨(Nat.le_of_ble_eq_true rfl), (Nat.le_of_ble_eq_true rfl)⟩ [] rfl (Nat.le_of_ble_eq_true rfl) rfl hW hS hw) hS (fun x_10 G_10 H locs hw hW hS => ?_)
  refine lv_if_eq (tgt := 18) C.1.1 C.1.2.1 dX3_lastIndexOf_13 (by decide) (fun hc => ?_) (fun hc => ?_)
  · have hw := hw.1 hc
    refine lv_iconst (v := (-1 : Int32)) C.1.1 C.1.2.1 dX3_lastIndexOf_18 (by decide) ?_
    refine tr_istore_n (k := 3) (x := (-1 : Int32)) C hl [(3, .inl (-1 : Int32)), (0, .inr (.inr v0)), (1, .inl v1), (2, .inl v2)] (by decide) rfl dX3_lastIndexOf_19 (fun ls hl => ?_)
    refine lv_iconst (v := (0 : Int32)) C.1.1 C.1.2.1 dX3_lastIndexOf_20 (by decide) ?_
    refine tr_istore (x := (0 : Int32)) C hl [(4, .inl (0 : Int32)), (3, .inl (-1 : Int32)), (0, .inr (.inr v0)), (1, .inl v1), (2, .inl v2)] (by decide) rfl dX3_lastIndexOf_21 (fun ls hl => ?_)
    obtain ⟨n23, hw⟩ := hw
    exact s_X3_lastIndexOf_23 C hr hll post n23 v0 v1 v2 ((-1 : Int32)) ((0 : Int32)) _ _ _ _ hW hS (tl_sub hl [2, 3, 4, 1, 0] rfl) hw
  · have hw := hw.2 hc
    refine lv_iconst (v := (0 : Int32)) C.1.1 C.1.2.1 dX3_lastIndexOf_16 (by decide) ?_
    exact tr_iret C hr dX3_lastIndexOf_17 (Nat.le_of_ble_eq_true rfl) (Nat.le_of_ble_eq_true rfl) hW hS hw
end Z_X3_lastIndexOf
set_option maxHeartbeats 4000000 in
set_option maxRecDepth 100000 in
theorem c_X3_lastIndexOf (l : Launch) (hll : l.stackTraces = false) (K : tK) (post : Int32 → tG → Prop) (v0 : Option Nat) (v1 : Int32) (v2 : Int32) : Ct l yX3_lastIndexOf wz_X3_lastIndexOf ({ frames := 2, cells := 0, slots := 0, locals := 43 } : Room) 0 0 [va_rf v0, .int v1, .int v2] K (retI post) (fun G => w_X3_lastIndexOf K post v0 v1 v2 G) := by
  refine tc_of (cc := cX3_lastIndexOf) (maxL := 5) (ret := (some .int)) (own := RX3) (plainFor_of_name (by decide)) rfl rfl hll [.inr (.inr v0), .inl v1, .inl v2] rfl (Nat.le_of_ble_eq_true rfl) ?_
  intro p e s m args below meth c D A G ls C hr hn ht hl hW hS hw
  exact s_X3_lastIndexOf C hr hll post v0 v1 v2 _ _ _ _ hW hS hl hw

/-! X1_indexOf -/
def wz_X1_indexOf : List Cond := Cond.code yX1_indexOf cX1_indexOf 4 (some .int) :: w0
section Z_X1_indexOf
variable {p : Program} {l : Launch} {e : Env} {s : State} {m : MethodId} {args : Array Value} {below : List Frame} {meth : Method} {c : Code} {D : va_G} {A : Nat → Prop}
set_option maxHeartbeats 4000000 in
set_option maxRecDepth 100000 in
theorem s_X1_indexOf {K : tK} (C : tc_B p l s m args meth c D K A wz_X1_indexOf RX1 cX1_indexOf 4) (hr : meth.sig.returnType = (some .int)) (ht : ∀ x ∈ c.exceptionTable.toList, False) (hll : l.stackTraces = false)  (post : Int32 → tG → Prop) (postX : String → tG → Prop) (v0 : Option Nat) (v1 : Int32) (v2 : Int32) : ∀ (G : tG) (H : Heap) (locs : List Loc) (ls : Array Slot), tg_W D A s H G → va_S A s.heap H locs → tl ls 4 [(0, .inr (.inr v0)), (1, .inl v1), (2, .inl v2)] → w_X1_indexOf K post postX v0 v1 v2 G → W p l e ({ frames := 8, cells := 2, slots := 12, locals := 124 } : Room) s m args below meth c H locs 0 0 (vx_MQ below (tc_Qc D A (retI post)) (tc_XC D A postX) args s 2 12 A) (F0 m 0 ls []) := by
  intro G H locs ls hW hS hl hw
  unfold w_X1_indexOf at hw
  refine tr_aload_n (k := 0) (x := v0) C hl 0 rfl dX1_indexOf_0 ?_
  refine tr_iload_n (k := 1) (x := v1) C hl 1 rfl dX1_indexOf_1 ?_
  refine tx_backR (tx_runV (r := v0) (As := [.int v1]) C hl.1 (c_X1_listAt l hll K _ _ v0 v1) (cwV 1 C.1.2.2.2.2 (gi_V (zm kw_94) (zm kw_95) (zm kw_96) (zm kw_33) (zm kw_93)) rfl rfl rfl (by decide +kernel) ⟨(Nat.le_of_ble_eq_true rfl), (Nat.le_of_ble_eq_true rfl)⟩) rfl rfl dX1_indexOf_2 ⟨(Nat.le_of_ble_eq_true rfl), (Nat.le_of_ble_eq_true rfl)⟩ [] rfl (Nat.le_of_ble_eq_true rfl) rfl hW hS hw) hS C.2.1 ht (Nat.le_of_ble_eq_true rfl) (Nat.le_of_ble_eq_true rfl) (fun x_2 G_2 H locs hw hW hS => ?_)
  refine tr_astore_n (k := 3) (x := x_2) C hl [(3, .inr (.inr x_2)), (0, .inr (.inr v0)), (1, .inl v1), (2, .inl v2)] (by decide) rfl dX1_indexOf_5 (fun ls hl => ?_)
  refine tr_iload_n (k := 2) (x := v2) C hl 3 rfl dX1_indexOf_6 ?_
  refine tx_backV (tx_runS (As := [.int v2]) C hl.1 (c_X1_checkValue l hll K _ _ v2) (va_cwS 1 C.1.2.2.2.2 (gi_S (zm kw_269) (zm kw_270) (zm kw_33) (zm kw_268)) rfl rfl rfl (by decide +kernel) ⟨(Nat.le_of_ble_eq_true rfl), (Nat.le_of_ble_eq_true rfl)⟩) rfl dX1_indexOf_7 ⟨(Nat.le_of_ble_eq_true rfl), (Nat.le_of_ble_eq_true rfl)⟩ [] rfl (Nat.le_of_ble_eq_true rfl) rfl hW hS hw) hS C.2.1 ht (Nat.le_of_ble_eq_true rfl) (Nat.le_of_ble_eq_true rfl) (fun G_7 H locs hw hW hS => ?_)
  refine tr_aload_n (k := 3) (x := x_2) C hl 0 rfl dX1_indexOf_10 ?_
  refine tr_iload_n (k := 2) (x := v2) C hl 3 rfl dX1_indexOf_11 ?_
  refine tr_backI (tr_runS (As := [va_rf x_2, .int v2]) C hl.1 (c_X1_firstPlace l hll K _ x_2 v2) (va_cwS 2 C.1.2.2.2.2 (gi_S (zm kw_54) (zm kw_55) (zm kw_33) (zm kw_53)) rfl rfl rfl (by decide +kernel) ⟨(Nat.le_of_ble_eq_true rfl), (Nat.le_of_ble_eq_true rfl)⟩) rfl dX1_indexOf_12 ⟨(Nat.le_of_ble_eq_true rfl), (Nat.le_of_ble_eq_true rfl)⟩ [] rfl (Nat.le_of_ble_eq_true rfl) rfl hW hS hw) hS (fun x_12 G_12 H locs hw hW hS => ?_)
  exact vx_ret (tr_iret C hr dX1_indexOf_15 (Nat.le_of_ble_eq_true rfl) (Nat.le_of_ble_eq_true rfl) hW hS hw)
end Z_X1_indexOf
set_option maxHeartbeats 4000000 in
set_option maxRecDepth 100000 in
theorem c_X1_indexOf (l : Launch) (hll : l.stackTraces = false) (K : tK) (post : Int32 → tG → Prop) (postX : String → tG → Prop) (v0 : Option Nat) (v1 : Int32) (v2 : Int32) : Cx l yX1_indexOf wz_X1_indexOf ({ frames := 8, cells := 2, slots := 12, locals := 124 } : Room) 2 12 [va_rf v0, .int v1, .int v2] K (retI post) postX (fun G => w_X1_indexOf K post postX v0 v1 v2 G) := by
  refine tx_of (cc := cX1_indexOf) (maxL := 4) (ret := (some .int)) (own := RX1) (by decide) rfl rfl hll [.inr (.inr v0), .inl v1, .inl v2] rfl (Nat.le_of_ble_eq_true rfl) ?_
  intro p e s m args below meth c D A G ls C hr hn ht hl hW hS hw
  exact s_X1_indexOf C hr ht hll post postX v0 v1 v2 _ _ _ _ hW hS hl hw

/-! L_indexOf -/
def wz_L_indexOf : List Cond := Cond.codeWith yL_indexOf cL_indexOf 5 (some .int) [(0, 11, 14, 19), (0, 11, 18, 21)] :: w0
section Z_L_indexOf
variable {p : Program} {l : Launch} {e : Env} {s : State} {m : MethodId} {args : Array Value} {below : List Frame} {meth : Method} {c : Code} {D : va_G} {A : Nat → Prop}
set_option maxHeartbeats 4000000 in
set_option maxRecDepth 100000 in
theorem s_L_indexOf {K : tK} (C : tc_B p l s m args meth c D K A wz_L_indexOf RL cL_indexOf 5) (hr : meth.sig.returnType = (some .int)) (htab : c.exceptionTable.toList = tableOf [(0, 11, 14, 19), (0, 11, 18, 21)]) (hcC : kx_C s) (hll : l.stackTraces = false)  (post : Int32 → tG → Prop) (v0 : Option Nat) (v1 : Int32) (v2 : Int32) (v3 : Option Nat) : ∀ (G : tG) (H : Heap) (locs : List Loc) (ls : Array Slot), tg_W D A s H G → va_S A s.heap H locs → tl ls 5 [(0, .inr (.inr v0)), (1, .inl v1), (2, .inl v2), (3, .inr (.inr v3))] → w_L_indexOf K post v0 v1 v2 v3 G → W p l e ({ frames := 9, cells := 2, slots := 12, locals := 147 } : Room) s m args below meth c H locs 0 0 (vx_MQ below (tc_Qc D A (retI post)) (tc_XC D A (fun _ _ => False)) args s 2 12 A) (F0 m 0 ls []) := by
  intro G H locs ls hW hS hl hw
  unfold w_L_indexOf at hw
  refine tr_aload_n (k := 3) (x := v3) C hl 3 rfl dL_indexOf_0 ?_
  refine tr_aload_n (k := 0) (x := v0) C hl 0 rfl dL_indexOf_1 ?_
  refine tr_iload_n (k := 1) (x := v1) C hl 1 rfl dL_indexOf_2 ?_
  refine tr_iload_n (k := 2) (x := v2) C hl 2 rfl dL_indexOf_3 ?_
  refine tx_backCI (tx_runV (r := v0) (As := [.int v1, .int v2]) C hl.1 (c_X1_indexOf l hll K _ _ v0 v1 v2) (cwV 2 C.1.2.2.2.2 (gi_V (zm kw_611) (zm kw_612) (zm kw_613) (zm kw_33) (zm kw_610)) rfl rfl rfl (by decide +kernel) ⟨(Nat.le_of_ble_eq_true rfl), (Nat.le_of_ble_eq_true rfl)⟩) rfl rfl dL_indexOf_4 ⟨(Nat.le_of_ble_eq_true rfl), (Nat.le_of_ble_eq_true rfl)⟩ [.inr (.inr v3)] rfl (Nat.le_of_ble_eq_true rfl) rfl hW hS hw) hS (fun E ce q9 GX H locs hw hW hS hce hcv hcl => ?_) (fun x_4 G_4 H locs hw hW hS => ?_)
  · by_cases hq0 : E = "java/lang/IndexOutOfBoundsException"
    · replace hw := hw.1 hq0
      subst hq0
      refine vx_catch (name := "java/lang/IndexOutOfBoundsException") C.1.2.2.2.1 [] (⟨0, 11, 14, 19⟩ : ExceptionTableEntry) [(⟨0, 11, 18, 21⟩ : ExceptionTableEntry)] (by rw [htab]; rfl) (fun z hz => nomatch hz) (by decide) (by decide) (C.1.2.2.2.2 _ (zm kw_209)) hcC.2.2.1 hce hcv hcl ?_
      refine tr_astore (x := (some q9)) C hl [(4, .inr (.inr (some q9))), (0, .inr (.inr v0)), (1, .inl v1), (2, .inl v2), (3, .inr (.inr v3))] (by decide) rfl dL_indexOf_14 (fun ls hl => ?_)
      refine lv_iconst (v := (1 : Int32)) C.1.1 C.1.2.1 dL_indexOf_16 (by decide) ?_
      exact vx_ret (tr_iret C hr dL_indexOf_17 (Nat.le_of_ble_eq_true rfl) (Nat.le_of_ble_eq_true rfl) hW hS hw)
    replace hw := hw.2 hq0
    by_cases hq1 : E = "java/lang/IllegalArgumentException"
    · replace hw := hw.1 hq1
      subst hq1
      refine vx_catch (name := "java/lang/IllegalArgumentException") C.1.2.2.2.1 [(⟨0, 11, 14, 19⟩ : ExceptionTableEntry)] (⟨0, 11, 18, 21⟩ : ExceptionTableEntry) [] (by rw [htab]; rfl) (kx_pass1 C hcC rfl (by decide) (zm kw_209)) (by decide) (by decide) (C.1.2.2.2.2 _ (zm kw_188)) hcC.2.2.2.1 hce hcv hcl ?_
      refine tr_astore (x := (some q9)) C hl [(4, .inr (.inr (some q9))), (0, .inr (.inr v0)), (1, .inl v1), (2, .inl v2), (3, .inr (.inr v3))] (by decide) rfl dL_indexOf_18 (fun ls hl => ?_)
      refine lv_iconst (v := (2 : Int32)) C.1.1 C.1.2.1 dL_indexOf_20 (by decide) ?_
      exact vx_ret (tr_iret C hr dL_indexOf_21 (Nat.le_of_ble_eq_true rfl) (Nat.le_of_ble_eq_true rfl) hW hS hw)
    replace hw := hw.2 hq1
    exact hw.elim
  · refine lv_i2l (v := ((x_4).toInt64)) C.1.1 C.1.2.1 dL_indexOf_7 rfl ?_
    refine tr_pfN (C0 := RX2) (T := TX2) (N := 2) (ci := 4) (ref := "TwinrowLaw$Out") (host := "TwinrowLaw") (k := 0) (ty := .long) (v := .long (((x_4).toInt64))) (r := v3) C (zh hw_X2) tyX2 tyX2_ok nmX2 rfl (by decide) hcC.1 rfl rfl (by decide +kernel) rfl rfl dL_indexOf_8 hW hS hw (fun G_8 H locs hw hW hS => ?_)
    refine lv_goto (tgt := 22) C.1.1 C.1.2.1 dL_indexOf_11 (by decide) ?_
    refine lv_iconst (v := (0 : Int32)) C.1.1 C.1.2.1 dL_indexOf_22 (by decide) ?_
    exact vx_ret (tr_iret C hr dL_indexOf_23 (Nat.le_of_ble_eq_true rfl) (Nat.le_of_ble_eq_true rfl) hW hS hw)
end Z_L_indexOf
set_option maxHeartbeats 4000000 in
set_option maxRecDepth 100000 in
theorem c_L_indexOf (l : Launch) (hll : l.stackTraces = false) (K : tK) (post : Int32 → tG → Prop) (v0 : Option Nat) (v1 : Int32) (v2 : Int32) (v3 : Option Nat) : Cx l yL_indexOf wz_L_indexOf ({ frames := 9, cells := 2, slots := 12, locals := 147 } : Room) 2 12 [va_rf v0, .int v1, .int v2, va_rf v3] K (retI post) (fun _ _ => False) (fun G => w_L_indexOf K post v0 v1 v2 v3 G) := by
  refine tx_ofH (cc := cL_indexOf) (maxL := 5) (ret := (some .int)) (own := RL) (hh := [(0, 11, 14, 19), (0, 11, 18, 21)]) (by decide) rfl rfl hll [.inr (.inr v0), .inl v1, .inl v2, .inr (.inr v3)] rfl (Nat.le_of_ble_eq_true rfl) ?_
  intro p e s m args below meth c D A G ls C hr htab hcC hl hW hS hw
  exact s_L_indexOf C hr htab hcC hll post v0 v1 v2 v3 _ _ _ _ hW hS hl hw

/-! X3_indexOf -/
def wz_X3_indexOf : List Cond := Cond.code yX3_indexOf cX3_indexOf 3 (some .int) :: w0
section Z_X3_indexOf
variable {p : Program} {l : Launch} {e : Env} {s : State} {m : MethodId} {args : Array Value} {below : List Frame} {meth : Method} {c : Code} {D : va_G} {A : Nat → Prop}
set_option maxHeartbeats 4000000 in
set_option maxRecDepth 100000 in
theorem s_X3_indexOf_29 {K : tK} (C : tc_B p l s m args meth c D K A wz_X3_indexOf RX3 cX3_indexOf 3) (hr : meth.sig.returnType = (some .int)) (hll : l.stackTraces = false)  (post : Int32 → tG → Prop) : ∀ (u0 : Int32) (G : tG) (H : Heap) (locs : List Loc) (ls : Array Slot), tg_W D A s H G → va_S A s.heap H locs → tl ls 3 [] → w_X3_indexOf_29 K post u0 G → W p l e ({ frames := 2, cells := 1, slots := 12, locals := 45 } : Room) s m args below meth c H locs 1 12 (MQ below (tc_Qc D A (retI post)) args s 1 12 A) (F0 m 29 ls [.int u0]) := by
  intro u0 G H locs ls hW hS hl hw
  unfold w_X3_indexOf_29 at hw
  exact tr_iret C hr dX3_indexOf_29 (Nat.le_of_ble_eq_true rfl) (Nat.le_of_ble_eq_true rfl) hW hS hw
set_option maxHeartbeats 4000000 in
set_option maxRecDepth 100000 in
theorem s_X3_indexOf {K : tK} (C : tc_B p l s m args meth c D K A wz_X3_indexOf RX3 cX3_indexOf 3) (hr : meth.sig.returnType = (some .int)) (hll : l.stackTraces = false)  (post : Int32 → tG → Prop) (v0 : Option Nat) (v1 : Int32) (v2 : Int32) : ∀ (G : tG) (H : Heap) (locs : List Loc) (ls : Array Slot), tg_W D A s H G → va_S A s.heap H locs → tl ls 3 [(0, .inr (.inr v0)), (1, .inl v1), (2, .inl v2)] → w_X3_indexOf K post v0 v1 v2 G → W p l e ({ frames := 2, cells := 1, slots := 12, locals := 45 } : Room) s m args below meth c H locs 0 0 (MQ below (tc_Qc D A (retI post)) args s 1 12 A) (F0 m 0 ls []) := by
  intro G H locs ls hW hS hl hw
  unfold w_X3_indexOf at hw
  refine tr_aload_n (k := 0) (x := v0) C hl 0 rfl dX3_indexOf_0 ?_
  refine tr_aload_n (k := 0) (x := v0) C hl 0 rfl dX3_indexOf_1 ?_
  refine tr_iload_n (k := 1) (x := v1) C hl 1 rfl dX3_indexOf_2 ?_
  refine tr_backI (tr_runV (r := v0) (As := [.int v1]) C hl.1 (c_X3_isNoList l hll K _ v0 v1) (cwV 1 C.1.2.2.2.2 (gi_V (zm kw_211) (zm kw_212) (zm kw_213) (zm kw_155) (zm kw_210)) rfl rfl rfl (by decide +kernel) ⟨(Nat.le_of_ble_eq_true rfl), (Nat.le_of_ble_eq_true rfl)⟩) rfl rfl dX3_indexOf_3 ⟨(Nat.le_of_ble_eq_true rfl), (Nat.le_of_ble_eq_true rfl)⟩ [.inr (.inr v0)] rfl (Nat.le_of_ble_eq_true rfl) rfl hW hS hw) hS (fun x_3 G_3 H locs hw hW hS => ?_)
  refine tr_iload_n (k := 2) (x := v2) C hl 2 rfl dX3_indexOf_6 ?_
  refine tr_backI (tr_runS (As := [.int v2]) C hl.1 (c_X3_isNoValue l hll K _ v2) (va_cwS 1 C.1.2.2.2.2 (gi_S (zm kw_276) (zm kw_277) (zm kw_155) (zm kw_275)) rfl rfl rfl (by decide +kernel) ⟨(Nat.le_of_ble_eq_true rfl), (Nat.le_of_ble_eq_true rfl)⟩) rfl dX3_indexOf_7 ⟨(Nat.le_of_ble_eq_true rfl), (Nat.le_of_ble_eq_true rfl)⟩ [.inl x_3, .inr (.inr v0)] rfl (Nat.le_of_ble_eq_true rfl) rfl hW hS hw) hS (fun x_7 G_7 H locs hw hW hS => ?_)
  refine tr_backI (tr_runV (r := v0) (As := [.int x_3, .int x_7]) C hl.1 (c_X3_fails l hll K _ v0 x_3 x_7) (cwV 2 C.1.2.2.2.2 (gi_V (zm kw_190) (zm kw_191) (zm kw_192) (zm kw_155) (zm kw_189)) rfl rfl rfl (by decide +kernel) ⟨(Nat.le_of_ble_eq_true rfl), (Nat.le_of_ble_eq_true rfl)⟩) rfl rfl dX3_indexOf_10 ⟨(Nat.le_of_ble_eq_true rfl), (Nat.le_of_ble_eq_true rfl)⟩ [] rfl (Nat.le_of_ble_eq_true rfl) rfl hW hS hw) hS (fun x_10 G_10 H locs hw hW hS => ?_)
  refine lv_if_eq (tgt := 20) C.1.1 C.1.2.1 dX3_indexOf_13 (by decide) (fun hc => ?_) (fun hc => ?_)
  · have hw := hw.1 hc
    refine tr_aload_n (k := 0) (x := v0) C hl 0 rfl dX3_indexOf_20 ?_
    refine tr_iload_n (k := 1) (x := v1) C hl 1 rfl dX3_indexOf_21 ?_
    refine tr_backR (tr_runV (r := v0) (As := [.int v1]) C hl.1 (c_X3_all l hll K _ v0 v1) (cwV 1 C.1.2.2.2.2 (gi_V (zm kw_157) (zm kw_158) (zm kw_159) (zm kw_155) (zm kw_156)) rfl rfl rfl (by decide +kernel) ⟨(Nat.le_of_ble_eq_true rfl), (Nat.le_of_ble_eq_true rfl)⟩) rfl rfl dX3_indexOf_22 ⟨(Nat.le_of_ble_eq_true rfl), (Nat.le_of_ble_eq_true rfl)⟩ [] rfl (Nat.le_of_ble_eq_true rfl) rfl hW hS hw) hS (fun x_22 G_22 H locs hw hW hS => ?_)
    refine tr_iload_n (k := 2) (x := v2) C hl 2 rfl dX3_indexOf_25 ?_
    refine tr_backI (tr_runS (As := [va_rf x_22, .int v2]) C hl.1 (c_X3_placeOf l hll K _ x_22 v2) (va_cwS 2 C.1.2.2.2.2 (gi_S (zm kw_604) (zm kw_605) (zm kw_155) (zm kw_603)) rfl rfl rfl (by decide +kernel) ⟨(Nat.le_of_ble_eq_true rfl), (Nat.le_of_ble_eq_true rfl)⟩) rfl dX3_indexOf_26 ⟨(Nat.le_of_ble_eq_true rfl), (Nat.le_of_ble_eq_true rfl)⟩ [] rfl (Nat.le_of_ble_eq_true rfl) rfl hW hS hw) hS (fun x_26 G_26 H locs hw hW hS => ?_)
    exact s_X3_indexOf_29 C hr hll post x_26 _ _ _ _ hW hS (tl_sub hl [] rfl) hw
  · have hw := hw.2 hc
    refine lv_iconst (v := (0 : Int32)) C.1.1 C.1.2.1 dX3_indexOf_16 (by decide) ?_
    refine lv_goto (tgt := 29) C.1.1 C.1.2.1 dX3_indexOf_17 (by decide) ?_
    refine W.widen (k := 1) (n := 12) (Nat.le_of_ble_eq_true rfl) (Nat.le_of_ble_eq_true rfl) ?_
    exact s_X3_indexOf_29 C hr hll post ((0 : Int32)) _ _ _ _ hW hS (tl_sub hl [] rfl) hw
end Z_X3_indexOf
set_option maxHeartbeats 4000000 in
set_option maxRecDepth 100000 in
theorem c_X3_indexOf (l : Launch) (hll : l.stackTraces = false) (K : tK) (post : Int32 → tG → Prop) (v0 : Option Nat) (v1 : Int32) (v2 : Int32) : Ct l yX3_indexOf wz_X3_indexOf ({ frames := 2, cells := 1, slots := 12, locals := 45 } : Room) 1 12 [va_rf v0, .int v1, .int v2] K (retI post) (fun G => w_X3_indexOf K post v0 v1 v2 G) := by
  refine tc_of (cc := cX3_indexOf) (maxL := 3) (ret := (some .int)) (own := RX3) (plainFor_of_name (by decide)) rfl rfl hll [.inr (.inr v0), .inl v1, .inl v2] rfl (Nat.le_of_ble_eq_true rfl) ?_
  intro p e s m args below meth c D A G ls C hr hn ht hl hW hS hw
  exact s_X3_indexOf C hr hll post v0 v1 v2 _ _ _ _ hW hS hl hw

/-! X1_back -/
def wz_X1_back : List Cond := Cond.code yX1_back cX1_back 3 (some (.object "java/lang/String")) :: w0
section Z_X1_back
variable {p : Program} {l : Launch} {e : Env} {s : State} {m : MethodId} {args : Array Value} {below : List Frame} {meth : Method} {c : Code} {D : va_G} {A : Nat → Prop}
set_option maxHeartbeats 4000000 in
set_option maxRecDepth 100000 in
theorem s_X1_back {K : tK} (C : tc_B p l s m args meth c D K A wz_X1_back RX1 cX1_back 3) (hr : meth.sig.returnType = (some (.object "java/lang/String"))) (ht : ∀ x ∈ c.exceptionTable.toList, False) (hll : l.stackTraces = false)  (MC MS : Nat) (post : Option Nat → tG → Prop) (postX : String → tG → Prop) (v0 : Option Nat) (v1 : Int32) : ∀ (G : tG) (H : Heap) (locs : List Loc) (ls : Array Slot), tg_W D A s H G → va_S A s.heap H locs → tl ls 3 [(0, .inr (.inr v0)), (1, .inl v1)] → w_X1_back K MC MS post postX v0 v1 G → W p l e ({ frames := 8, cells := MC, slots := MS, locals := 183 } : Room) s m args below meth c H locs 0 0 (vx_MQ below (tc_Qc D A (retR post)) (tc_XC D A postX) args s MC MS A) (F0 m 0 ls []) := by
  intro G H locs ls hW hS hl hw
  unfold w_X1_back at hw
  refine tr_aload_n (k := 0) (x := v0) C hl 0 rfl dX1_back_0 ?_
  refine tr_iload_n (k := 1) (x := v1) C hl 1 rfl dX1_back_1 ?_
  have hq1 := hw.1
  have hw := hw.2
  refine tx_backR (tx_runV (r := v0) (As := [.int v1]) C hl.1 (c_X1_listAt l hll K _ _ v0 v1) (cwV 1 C.1.2.2.2.2 (gi_V (zm kw_94) (zm kw_95) (zm kw_96) (zm kw_33) (zm kw_93)) rfl rfl rfl (by decide +kernel) ⟨(Nat.le_of_ble_eq_true rfl), (Nat.le_of_ble_eq_true rfl)⟩) rfl rfl dX1_back_2 ⟨hq1.1, hq1.2⟩ [] rfl (Nat.le_of_ble_eq_true rfl) rfl hW hS hw) hS C.2.1 ht hq1.1 hq1.2 (fun x_2 G_2 H locs hw hW hS => ?_)
  refine tr_astore_n (k := 2) (x := x_2) C hl [(2, .inr (.inr x_2)), (0, .inr (.inr v0)), (1, .inl v1)] (by decide) rfl dX1_back_5 (fun ls hl => ?_)
  refine tr_aload_n (k := 2) (x := x_2) C hl 0 rfl dX1_back_6 ?_
  refine tr_aload_n (k := 2) (x := x_2) C hl 0 rfl dX1_back_7 ?_
  refine tr_gfI (C0 := RX0) (T := TX0) (N := 4) (ci := 2) (ref := "Twinrow$RowList") (k := 3) (r := x_2) C (zh hw_X0) rfl (by decide) (zm kw_34) rfl dX1_back_8 hW hw (fun x_8 hw => ?_)
  refine tr_aload_n (k := 2) (x := x_2) C hl 0 rfl dX1_back_11 ?_
  refine tr_gfI (C0 := RX0) (T := TX0) (N := 4) (ci := 2) (ref := "Twinrow$RowList") (k := 3) (r := x_2) C (zh hw_X0) rfl (by decide) (zm kw_34) rfl dX1_back_12 hW hw (fun x_12 hw => ?_)
  refine lv_iconst (v := (1 : Int32)) C.1.1 C.1.2.1 dX1_back_15 (by decide) ?_
  refine lv_iconst (v := (0 : Int32)) C.1.1 C.1.2.1 dX1_back_16 (by decide) ?_
  obtain ⟨mc_17, ms_17, hb17, hd17, hw⟩ := hw
  refine tr_backR (tr_runS (As := [va_rf x_2, .int x_8, .int x_12, .int ((1 : Int32)), .int ((0 : Int32))]) C hl.1 (c_X1_textOf l hll K mc_17 ms_17 _ x_2 x_8 x_12 ((1 : Int32)) ((0 : Int32))) (va_cwS 5 C.1.2.2.2.2 (gi_S (zm kw_526) (zm kw_527) (zm kw_33) (zm kw_525)) rfl rfl rfl (by decide +kernel) ⟨(Nat.le_of_ble_eq_true rfl), (Nat.le_of_ble_eq_true rfl)⟩) rfl dX1_back_17 ⟨hb17, hd17⟩ [] rfl (Nat.le_of_ble_eq_true rfl) rfl hW hS hw) hS (fun x_17 G_17 H locs hw hW hS => ?_)
  exact vx_ret (tr_aret (x := x_17) C hr (Or.inl ⟨_, rfl⟩) dX1_back_20 (show ((0 + 1) + mc_17) ≤ MC by omega) (show ((0 + 6) + ms_17) ≤ MS by omega) hW hS hw)
end Z_X1_back
set_option maxHeartbeats 4000000 in
set_option maxRecDepth 100000 in
theorem c_X1_back (l : Launch) (hll : l.stackTraces = false) (K : tK) (MC MS : Nat) (post : Option Nat → tG → Prop) (postX : String → tG → Prop) (v0 : Option Nat) (v1 : Int32) : Cx l yX1_back wz_X1_back ({ frames := 8, cells := MC, slots := MS, locals := 183 } : Room) MC MS [va_rf v0, .int v1] K (retR post) postX (fun G => w_X1_back K MC MS post postX v0 v1 G) := by
  refine tx_of (cc := cX1_back) (maxL := 3) (ret := (some (.object "java/lang/String"))) (own := RX1) (by decide) rfl rfl hll [.inr (.inr v0), .inl v1] rfl (Nat.le_of_ble_eq_true rfl) ?_
  intro p e s m args below meth c D A G ls C hr hn ht hl hW hS hw
  exact s_X1_back C hr ht hll MC MS post postX v0 v1 _ _ _ _ hW hS hl hw

/-! L_back -/
def wz_L_back : List Cond := Cond.codeWith yL_back cL_back 4 (some .int) [(0, 9, 12, 19)] :: w0
section Z_L_back
variable {p : Program} {l : Launch} {e : Env} {s : State} {m : MethodId} {args : Array Value} {below : List Frame} {meth : Method} {c : Code} {D : va_G} {A : Nat → Prop}
set_option maxHeartbeats 4000000 in
set_option maxRecDepth 100000 in
theorem s_L_back {K : tK} (C : tc_B p l s m args meth c D K A wz_L_back RL cL_back 4) (hr : meth.sig.returnType = (some .int)) (htab : c.exceptionTable.toList = tableOf [(0, 9, 12, 19)]) (hcC : kx_C s) (hll : l.stackTraces = false)  (MC MS : Nat) (post : Int32 → tG → Prop) (v0 : Option Nat) (v1 : Int32) (v2 : Option Nat) : ∀ (G : tG) (H : Heap) (locs : List Loc) (ls : Array Slot), tg_W D A s H G → va_S A s.heap H locs → tl ls 4 [(0, .inr (.inr v0)), (1, .inl v1), (2, .inr (.inr v2))] → w_L_back K MC MS post v0 v1 v2 G → W p l e ({ frames := 9, cells := MC, slots := MS, locals := 205 } : Room) s m args below meth c H locs 0 0 (vx_MQ below (tc_Qc D A (retI post)) (tc_XC D A (fun _ _ => False)) args s MC MS A) (F0 m 0 ls []) := by
  intro G H locs ls hW hS hl hw
  unfold w_L_back at hw
  refine tr_aload_n (k := 2) (x := v2) C hl 2 rfl dL_back_0 ?_
  refine tr_aload_n (k := 0) (x := v0) C hl 0 rfl dL_back_1 ?_
  refine tr_iload_n (k := 1) (x := v1) C hl 1 rfl dL_back_2 ?_
  obtain ⟨mc_3, ms_3, hb3, hd3, hw⟩ := hw
  refine tx_backCR (tx_runV (r := v0) (As := [.int v1]) C hl.1 (c_X1_back l hll K mc_3 ms_3 _ _ v0 v1) (cwV 1 C.1.2.2.2.2 (gi_V (zm kw_615) (zm kw_616) (zm kw_617) (zm kw_33) (zm kw_614)) rfl rfl rfl (by decide +kernel) ⟨(Nat.le_of_ble_eq_true rfl), (Nat.le_of_ble_eq_true rfl)⟩) rfl rfl dL_back_3 ⟨hb3, hd3⟩ [.inr (.inr v2)] rfl (Nat.le_of_ble_eq_true rfl) rfl hW hS hw) hS (fun E ce q9 GX H locs hw hW hS hce hcv hcl => ?_) (fun x_3 G_3 H locs hw hW hS => ?_)
  · by_cases hq0 : E = "java/lang/IndexOutOfBoundsException"
    · replace hw := hw.1 hq0
      subst hq0
      refine vx_catch (name := "java/lang/IndexOutOfBoundsException") C.1.2.2.2.1 [] (⟨0, 9, 12, 19⟩ : ExceptionTableEntry) [] (by rw [htab]; rfl) (fun z hz => nomatch hz) (by decide) (by decide) (C.1.2.2.2.2 _ (zm kw_209)) hcC.2.2.1 hce hcv hcl ?_
      refine tr_astore_n (k := 3) (x := (some q9)) C hl [(3, .inr (.inr (some q9))), (0, .inr (.inr v0)), (1, .inl v1), (2, .inr (.inr v2))] (by decide) rfl dL_back_12 (fun ls hl => ?_)
      refine lv_iconst (v := (1 : Int32)) C.1.1 C.1.2.1 dL_back_13 (by decide) ?_
      exact vx_ret (tr_iret C hr dL_back_14 (show (0 + mc_3) ≤ MC by omega) (show (0 + ms_3) ≤ MS by omega) hW hS hw)
    replace hw := hw.2 hq0
    exact hw.elim
  · refine tr_pfN (C0 := RX2) (T := TX2) (N := 2) (ci := 4) (ref := "TwinrowLaw$Out") (host := "TwinrowLaw") (k := 1) (ty := .object "java/lang/String") (v := va_rf x_3) (r := v2) C (zh hw_X2) tyX2 tyX2_ok nmX2 rfl (by decide) hcC.2.1 rfl rfl (by decide +kernel) (tv_nrO _ _) (tv_frO _ _) dL_back_6 hW hS hw (fun G_6 H locs hw hW hS => ?_)
    refine lv_goto (tgt := 15) C.1.1 C.1.2.1 dL_back_9 (by decide) ?_
    refine lv_iconst (v := (0 : Int32)) C.1.1 C.1.2.1 dL_back_15 (by decide) ?_
    exact vx_ret (tr_iret C hr dL_back_16 (show (0 + mc_3) ≤ MC by omega) (show (0 + ms_3) ≤ MS by omega) hW hS hw)
end Z_L_back
set_option maxHeartbeats 4000000 in
set_option maxRecDepth 100000 in
theorem c_L_back (l : Launch) (hll : l.stackTraces = false) (K : tK) (MC MS : Nat) (post : Int32 → tG → Prop) (v0 : Option Nat) (v1 : Int32) (v2 : Option Nat) : Cx l yL_back wz_L_back ({ frames := 9, cells := MC, slots := MS, locals := 205 } : Room) MC MS [va_rf v0, .int v1, va_rf v2] K (retI post) (fun _ _ => False) (fun G => w_L_back K MC MS post v0 v1 v2 G) := by
  refine tx_ofH (cc := cL_back) (maxL := 4) (ret := (some .int)) (own := RL) (hh := [(0, 9, 12, 19)]) (by decide) rfl rfl hll [.inr (.inr v0), .inl v1, .inr (.inr v2)] rfl (Nat.le_of_ble_eq_true rfl) ?_
  intro p e s m args below meth c D A G ls C hr htab hcC hl hW hS hw
  exact s_L_back C hr htab hcC hll MC MS post v0 v1 v2 _ _ _ _ hW hS hl hw

/-! X3_line -/
def wz_X3_line : List Cond := Cond.code yX3_line cX3_line 8 (some (.object "java/lang/String")) :: w0
section Z_X3_line
variable {p : Program} {l : Launch} {e : Env} {s : State} {m : MethodId} {args : Array Value} {below : List Frame} {meth : Method} {c : Code} {D : va_G} {A : Nat → Prop}
set_option maxHeartbeats 4000000 in
set_option maxRecDepth 100000 in
theorem s_X3_line_124 {K : tK} (C : tc_B p l s m args meth c D K A wz_X3_line RX3 cX3_line 8) (hr : meth.sig.returnType = (some (.object "java/lang/String"))) (hll : l.stackTraces = false)  (MC MS : Nat) (post : Option Nat → tG → Prop) (k34 : Nat → Nat → Int32 → Option Nat → Option Nat → Int32 → Int32 → tG → Prop) (hk34 : ∀ (nc ns : Nat) (v2 : Int32) (v3 : Option Nat) (v4 : Option Nat) (v5 : Int32) (v6 : Int32) (G : tG) (H : Heap) (locs : List Loc) (ls : Array Slot), nc ≤ MC ∧ ns ≤ MS → tg_W D A s H G → va_S A s.heap H locs → tl ls 8 [(2, .inl v2), (3, .inr (.inr v3)), (4, .inr (.inr v4)), (5, .inl v5), (6, .inl v6)] → k34 nc ns v2 v3 v4 v5 v6 G → W p l e ({ frames := 7, cells := MC, slots := MS, locals := 171 } : Room) s m args below meth c H locs nc ns (MQ below (tc_Qc D A (retR post)) args s MC MS A) (F0 m 34 ls [])) : ∀ (nc ns : Nat) (v2 : Int32) (v4 : Option Nat) (v5 : Int32) (v6 : Int32) (u0 : Option Nat) (G : tG) (H : Heap) (locs : List Loc) (ls : Array Slot), nc ≤ MC ∧ ns ≤ MS → tg_W D A s H G → va_S A s.heap H locs → tl ls 8 [(2, .inl v2), (4, .inr (.inr v4)), (5, .inl v5), (6, .inl v6)] → w_X3_line_124 K MC MS post k34 nc ns v2 v4 v5 v6 u0 G → W p l e ({ frames := 7, cells := MC, slots := MS, locals := 171 } : Room) s m args below meth c H locs nc ns (MQ below (tc_Qc D A (retR post)) args s MC MS A) (F0 m 124 ls [va_rf u0]) := by
  intro nc ns v2 v4 v5 v6 u0 G H locs ls hcn hW hS hl hw
  unfold w_X3_line_124 at hw
  refine tr_astore_n (k := 3) (x := u0) C hl [(3, .inr (.inr u0)), (2, .inl v2), (4, .inr (.inr v4)), (5, .inl v5), (6, .inl v6)] (by decide) rfl dX3_line_124 (fun ls hl => ?_)
  refine tr_iinc C hl 4 (v6 + (1 : Int32)) [(6, .inl (v6 + (1 : Int32))), (3, .inr (.inr u0)), (2, .inl v2), (4, .inr (.inr v4)), (5, .inl v5)] rfl rfl (by decide) rfl dX3_line_125 (fun ls hl => ?_)
  refine lv_goto (tgt := 34) C.1.1 C.1.2.1 dX3_line_128 (by decide) ?_
  exact hk34 nc ns v2 u0 v4 v5 ((v6 + (1 : Int32))) _ _ _ _ (show nc ≤ MC ∧ ns ≤ MS by omega) hW hS (tl_sub hl [2, 1, 3, 4, 0] rfl) hw
set_option maxHeartbeats 4000000 in
set_option maxRecDepth 100000 in
theorem s_X3_line_34_b {K : tK} (C : tc_B p l s m args meth c D K A wz_X3_line RX3 cX3_line 8) (hr : meth.sig.returnType = (some (.object "java/lang/String"))) (hll : l.stackTraces = false)  (MC MS : Nat) (post : Option Nat → tG → Prop) (k34 : Nat → Nat → Int32 → Option Nat → Option Nat → Int32 → Int32 → tG → Prop) (hk34 : ∀ (nc ns : Nat) (v2 : Int32) (v3 : Option Nat) (v4 : Option Nat) (v5 : Int32) (v6 : Int32) (G : tG) (H : Heap) (locs : List Loc) (ls : Array Slot), nc ≤ MC ∧ ns ≤ MS → tg_W D A s H G → va_S A s.heap H locs → tl ls 8 [(2, .inl v2), (3, .inr (.inr v3)), (4, .inr (.inr v4)), (5, .inl v5), (6, .inl v6)] → k34 nc ns v2 v3 v4 v5 v6 G → W p l e ({ frames := 7, cells := MC, slots := MS, locals := 171 } : Room) s m args below meth c H locs nc ns (MQ below (tc_Qc D A (retR post)) args s MC MS A) (F0 m 34 ls [])) : ∀ (nc ns : Nat) (v2 : Int32) (v3 : Option Nat) (v4 : Option Nat) (v5 : Int32) (v6 : Int32) (G : tG) (H : Heap) (locs : List Loc) (ls : Array Slot), nc ≤ MC ∧ ns ≤ MS → tg_W D A s H G → va_S A s.heap H locs → tl ls 8 [(2, .inl v2), (3, .inr (.inr v3)), (4, .inr (.inr v4)), (5, .inl v5), (6, .inl v6)] → w_X3_line_34_b K MC MS post k34 nc ns v2 v3 v4 v5 v6 G → W p l e ({ frames := 7, cells := MC, slots := MS, locals := 171 } : Room) s m args below meth c H locs nc ns (MQ below (tc_Qc D A (retR post)) args s MC MS A) (F0 m 34 ls []) := by
  intro nc ns v2 v3 v4 v5 v6 G H locs ls hcn hW hS hl hw
  unfold w_X3_line_34_b at hw
  refine tr_iload (x := v6) C hl 4 rfl dX3_line_34 ?_
  refine tr_iload (x := v5) C hl 3 rfl dX3_line_36 ?_
  refine lv_icmp_ge (tgt := 131) C.1.1 C.1.2.1 dX3_line_38 (by decide) (fun hc => ?_) (fun hc => ?_)
  · have hw := hw.1 hc
    refine tr_aload_n (k := 3) (x := v3) C hl 1 rfl dX3_line_131 ?_
    exact tr_aret (x := v3) C hr (Or.inl ⟨_, rfl⟩) dX3_line_132 (show nc ≤ MC by omega) (show ns ≤ MS by omega) hW hS hw
  · have hw := hw.2 hc
    refine tr_aload (x := v4) C hl 2 rfl dX3_line_41 ?_
    refine tr_iload (x := v6) C hl 4 rfl dX3_line_43 ?_
    refine tr_alI (r := v4) C dX3_line_45 hW hw (fun x_45 hw => ?_)
    refine tr_istore (x := x_45) C hl [(7, .inl x_45), (2, .inl v2), (3, .inr (.inr v3)), (4, .inr (.inr v4)), (5, .inl v5), (6, .inl v6)] (by decide) rfl dX3_line_46 (fun ls hl => ?_)
    refine tr_aload_n (k := 3) (x := v3) C hl 2 rfl dX3_line_48 ?_
    refine tr_backI (tr_runVS (r := v3) (As := []) C hl.1 (c_J0_isEmpty_aae02 l hll K _ v3) (cwV 0 C.1.2.2.2.2 (gi_V (zm kw_572) (zm kw_573) (zm kw_574) (zm kw_456) (zm kw_571)) rfl rfl rfl (by decide +kernel) ⟨(Nat.le_of_ble_eq_true rfl), (Nat.le_of_ble_eq_true rfl)⟩) rfl rfl dX3_line_49 ⟨(show nc + 0 ≤ MC by omega), (show ns + 0 ≤ MS by omega)⟩ [] rfl (Nat.le_of_ble_eq_true rfl) rfl hW hS hw) hS (fun x_49 G_49 H locs hw hW hS => ?_)
    refine lv_if_eq (tgt := 63) C.1.1 C.1.2.1 dX3_line_52 (by decide) (fun hc => ?_) (fun hc => ?_)
    · have hw := hw.1 hc
      refine tr_iload_n (k := 2) (x := v2) C hl 1 rfl dX3_line_63 ?_
      refine lv_if_eq (tgt := 97) C.1.1 C.1.2.1 dX3_line_64 (by decide) (fun hc => ?_) (fun hc => ?_)
      · have hw := hw.1 hc
        have hq1 := hw.1
        have hw := hw.2
        refine tr_new (C0 := RJ4) (T := TJ4) (N := 4) (ci := 1) (fs := [.null, .int 0, .int 0, .int 0]) C (zh hw_J4) tyJ4 tyJ4_ok (zm kw_560) (zm kw_521) (zm kw_447) rfl df_J4 hq1.1 hq1.2 dX3_line_97 hW hS hw (fun r_97 G_97 H hw hW hS => ?_)
        refine lv_dup C.1.1 C.1.2.1 dX3_line_100 (va_rf_cat _) ?_
        obtain ⟨mc_101, ms_101, hb101, hd101, hw⟩ := hw
        refine tr_backV (tr_runI (r := r_97) (As := []) C hl.1 (c_J4_init_da8c8 l hll K mc_101 ms_101 _ r_97) (cwI 0 C.1.2.2.2.2 (gi_I  (zm kw_522)) rfl rfl rfl (C.1.2.2.2.2 _ (zm kw_447)) (C.1.2.2.2.2 _ (zm kw_561)) (C.1.2.2.2.2 _ (zm kw_524)) rfl (by decide +kernel) ⟨(Nat.le_of_ble_eq_true rfl), (Nat.le_of_ble_eq_true rfl)⟩) rfl dX3_line_101 ⟨hb101, hd101⟩ [.inr (.inr r_97)] rfl (Nat.le_of_ble_eq_true rfl) rfl hW hS hw) hS (fun G_101 H locs hw hW hS => ?_)
        refine tr_aload_n (k := 3) (x := v3) C hl 2 rfl dX3_line_104 ?_
        obtain ⟨mc_105, ms_105, hb105, hd105, hw⟩ := hw
        refine tr_backR (tr_runV (r := r_97) (As := [va_rf v3]) C hl.1 (c_J4_append_15ec4 l hll K mc_105 ms_105 _ r_97 v3) (cwV 1 C.1.2.2.2.2 (gi_V (zm kw_563) (zm kw_564) (zm kw_565) (zm kw_447) (zm kw_562)) rfl rfl rfl (by decide +kernel) ⟨(Nat.le_of_ble_eq_true rfl), (Nat.le_of_ble_eq_true rfl)⟩) rfl rfl dX3_line_105 ⟨hb105, hd105⟩ [] rfl (Nat.le_of_ble_eq_true rfl) rfl hW hS hw) hS (fun x_105 G_105 H locs hw hW hS => ?_)
        refine tr_ldcS (cn := 7) (tx := " ") C (by decide) dX3_line_108 ?_
        obtain ⟨mc_110, ms_110, hb110, hd110, hw⟩ := hw
        refine tr_backR (tr_runV (r := x_105) (As := [va_rf ((some (K.2.2 7)))]) C hl.1 (c_J4_append_15ec4 l hll K mc_110 ms_110 _ x_105 ((some (K.2.2 7)))) (cwV 1 C.1.2.2.2.2 (gi_V (zm kw_563) (zm kw_564) (zm kw_565) (zm kw_447) (zm kw_562)) rfl rfl rfl (by decide +kernel) ⟨(Nat.le_of_ble_eq_true rfl), (Nat.le_of_ble_eq_true rfl)⟩) rfl rfl dX3_line_110 ⟨hb110, hd110⟩ [] rfl (Nat.le_of_ble_eq_true rfl) rfl hW hS hw) hS (fun x_110 G_110 H locs hw hW hS => ?_)
        refine tr_iload (x := x_45) C hl 0 rfl dX3_line_113 ?_
        obtain ⟨mc_115, ms_115, hb115, hd115, hw⟩ := hw
        refine tr_backR (tr_runS (As := [.int x_45]) C hl.1 (c_X3_shown l hll K mc_115 ms_115 _ x_45) (va_cwS 1 C.1.2.2.2.2 (gi_S (zm kw_569) (zm kw_570) (zm kw_155) (zm kw_568)) rfl rfl rfl (by decide +kernel) ⟨(Nat.le_of_ble_eq_true rfl), (Nat.le_of_ble_eq_true rfl)⟩) rfl dX3_line_115 ⟨hb115, hd115⟩ [.inr (.inr x_110)] rfl (Nat.le_of_ble_eq_true rfl) rfl hW hS hw) hS (fun x_115 G_115 H locs hw hW hS => ?_)
        obtain ⟨mc_118, ms_118, hb118, hd118, hw⟩ := hw
        refine tr_backR (tr_runV (r := x_110) (As := [va_rf x_115]) C hl.1 (c_J4_append_15ec4 l hll K mc_118 ms_118 _ x_110 x_115) (cwV 1 C.1.2.2.2.2 (gi_V (zm kw_563) (zm kw_564) (zm kw_565) (zm kw_447) (zm kw_562)) rfl rfl rfl (by decide +kernel) ⟨(Nat.le_of_ble_eq_true rfl), (Nat.le_of_ble_eq_true rfl)⟩) rfl rfl dX3_line_118 ⟨hb118, hd118⟩ [] rfl (Nat.le_of_ble_eq_true rfl) rfl hW hS hw) hS (fun x_118 G_118 H locs hw hW hS => ?_)
        obtain ⟨mc_121, ms_121, hb121, hd121, hw⟩ := hw
        refine tr_backR (tr_runV (r := x_118) (As := []) C hl.1 (c_J4_toString_0e30d l hll K mc_121 ms_121 _ x_118) (cwV 0 C.1.2.2.2.2 (gi_V (zm kw_567) (zm kw_518) (zm kw_519) (zm kw_447) (zm kw_516)) rfl rfl rfl (by decide +kernel) ⟨(Nat.le_of_ble_eq_true rfl), (Nat.le_of_ble_eq_true rfl)⟩) rfl rfl dX3_line_121 ⟨hb121, hd121⟩ [] rfl (Nat.le_of_ble_eq_true rfl) rfl hW hS hw) hS (fun x_121 G_121 H locs hw hW hS => ?_)
        exact s_X3_line_124 C hr hll MC MS post k34 hk34 ((((((((nc + 1) + mc_101) + mc_105) + mc_110) + mc_115) + mc_118) + mc_121)) ((((((((ns + 4) + ms_101) + ms_105) + ms_110) + ms_115) + ms_118) + ms_121)) v2 v4 v5 v6 x_121 _ _ _ _ (show (((((((nc + 1) + mc_101) + mc_105) + mc_110) + mc_115) + mc_118) + mc_121) ≤ MC ∧ (((((((ns + 4) + ms_101) + ms_105) + ms_110) + ms_115) + ms_118) + ms_121) ≤ MS by omega) hW hS (tl_sub hl [1, 3, 4, 5] rfl) hw
      · have hw := hw.2 hc
        have hq2 := hw.1
        have hw := hw.2
        refine tr_new (C0 := RJ4) (T := TJ4) (N := 4) (ci := 1) (fs := [.null, .int 0, .int 0, .int 0]) C (zh hw_J4) tyJ4 tyJ4_ok (zm kw_560) (zm kw_521) (zm kw_447) rfl df_J4 hq2.1 hq2.2 dX3_line_67 hW hS hw (fun r_67 G_67 H hw hW hS => ?_)
        refine lv_dup C.1.1 C.1.2.1 dX3_line_70 (va_rf_cat _) ?_
        obtain ⟨mc_71, ms_71, hb71, hd71, hw⟩ := hw
        refine tr_backV (tr_runI (r := r_67) (As := []) C hl.1 (c_J4_init_da8c8 l hll K mc_71 ms_71 _ r_67) (cwI 0 C.1.2.2.2.2 (gi_I  (zm kw_522)) rfl rfl rfl (C.1.2.2.2.2 _ (zm kw_447)) (C.1.2.2.2.2 _ (zm kw_561)) (C.1.2.2.2.2 _ (zm kw_524)) rfl (by decide +kernel) ⟨(Nat.le_of_ble_eq_true rfl), (Nat.le_of_ble_eq_true rfl)⟩) rfl dX3_line_71 ⟨hb71, hd71⟩ [.inr (.inr r_67)] rfl (Nat.le_of_ble_eq_true rfl) rfl hW hS hw) hS (fun G_71 H locs hw hW hS => ?_)
        refine tr_iload (x := x_45) C hl 0 rfl dX3_line_74 ?_
        obtain ⟨mc_76, ms_76, hb76, hd76, hw⟩ := hw
        refine tr_backR (tr_runS (As := [.int x_45]) C hl.1 (c_X3_shown l hll K mc_76 ms_76 _ x_45) (va_cwS 1 C.1.2.2.2.2 (gi_S (zm kw_569) (zm kw_570) (zm kw_155) (zm kw_568)) rfl rfl rfl (by decide +kernel) ⟨(Nat.le_of_ble_eq_true rfl), (Nat.le_of_ble_eq_true rfl)⟩) rfl dX3_line_76 ⟨hb76, hd76⟩ [.inr (.inr r_67)] rfl (Nat.le_of_ble_eq_true rfl) rfl hW hS hw) hS (fun x_76 G_76 H locs hw hW hS => ?_)
        obtain ⟨mc_79, ms_79, hb79, hd79, hw⟩ := hw
        refine tr_backR (tr_runV (r := r_67) (As := [va_rf x_76]) C hl.1 (c_J4_append_15ec4 l hll K mc_79 ms_79 _ r_67 x_76) (cwV 1 C.1.2.2.2.2 (gi_V (zm kw_563) (zm kw_564) (zm kw_565) (zm kw_447) (zm kw_562)) rfl rfl rfl (by decide +kernel) ⟨(Nat.le_of_ble_eq_true rfl), (Nat.le_of_ble_eq_true rfl)⟩) rfl rfl dX3_line_79 ⟨hb79, hd79⟩ [] rfl (Nat.le_of_ble_eq_true rfl) rfl hW hS hw) hS (fun x_79 G_79 H locs hw hW hS => ?_)
        refine tr_ldcS (cn := 7) (tx := " ") C (by decide) dX3_line_82 ?_
        obtain ⟨mc_84, ms_84, hb84, hd84, hw⟩ := hw
        refine tr_backR (tr_runV (r := x_79) (As := [va_rf ((some (K.2.2 7)))]) C hl.1 (c_J4_append_15ec4 l hll K mc_84 ms_84 _ x_79 ((some (K.2.2 7)))) (cwV 1 C.1.2.2.2.2 (gi_V (zm kw_563) (zm kw_564) (zm kw_565) (zm kw_447) (zm kw_562)) rfl rfl rfl (by decide +kernel) ⟨(Nat.le_of_ble_eq_true rfl), (Nat.le_of_ble_eq_true rfl)⟩) rfl rfl dX3_line_84 ⟨hb84, hd84⟩ [] rfl (Nat.le_of_ble_eq_true rfl) rfl hW hS hw) hS (fun x_84 G_84 H locs hw hW hS => ?_)
        refine tr_aload_n (k := 3) (x := v3) C hl 2 rfl dX3_line_87 ?_
        obtain ⟨mc_88, ms_88, hb88, hd88, hw⟩ := hw
        refine tr_backR (tr_runV (r := x_84) (As := [va_rf v3]) C hl.1 (c_J4_append_15ec4 l hll K mc_88 ms_88 _ x_84 v3) (cwV 1 C.1.2.2.2.2 (gi_V (zm kw_563) (zm kw_564) (zm kw_565) (zm kw_447) (zm kw_562)) rfl rfl rfl (by decide +kernel) ⟨(Nat.le_of_ble_eq_true rfl), (Nat.le_of_ble_eq_true rfl)⟩) rfl rfl dX3_line_88 ⟨hb88, hd88⟩ [] rfl (Nat.le_of_ble_eq_true rfl) rfl hW hS hw) hS (fun x_88 G_88 H locs hw hW hS => ?_)
        obtain ⟨mc_91, ms_91, hb91, hd91, hw⟩ := hw
        refine tr_backR (tr_runV (r := x_88) (As := []) C hl.1 (c_J4_toString_0e30d l hll K mc_91 ms_91 _ x_88) (cwV 0 C.1.2.2.2.2 (gi_V (zm kw_567) (zm kw_518) (zm kw_519) (zm kw_447) (zm kw_516)) rfl rfl rfl (by decide +kernel) ⟨(Nat.le_of_ble_eq_true rfl), (Nat.le_of_ble_eq_true rfl)⟩) rfl rfl dX3_line_91 ⟨hb91, hd91⟩ [] rfl (Nat.le_of_ble_eq_true rfl) rfl hW hS hw) hS (fun x_91 G_91 H locs hw hW hS => ?_)
        refine lv_goto (tgt := 124) C.1.1 C.1.2.1 dX3_line_94 (by decide) ?_
        exact s_X3_line_124 C hr hll MC MS post k34 hk34 ((((((((nc + 1) + mc_71) + mc_76) + mc_79) + mc_84) + mc_88) + mc_91)) ((((((((ns + 4) + ms_71) + ms_76) + ms_79) + ms_84) + ms_88) + ms_91)) v2 v4 v5 v6 x_91 _ _ _ _ (show (((((((nc + 1) + mc_71) + mc_76) + mc_79) + mc_84) + mc_88) + mc_91) ≤ MC ∧ (((((((ns + 4) + ms_71) + ms_76) + ms_79) + ms_84) + ms_88) + ms_91) ≤ MS by omega) hW hS (tl_sub hl [1, 3, 4, 5] rfl) hw
    · have hw := hw.2 hc
      refine tr_iload (x := x_45) C hl 0 rfl dX3_line_55 ?_
      obtain ⟨mc_57, ms_57, hb57, hd57, hw⟩ := hw
      refine tr_backR (tr_runS (As := [.int x_45]) C hl.1 (c_X3_shown l hll K mc_57 ms_57 _ x_45) (va_cwS 1 C.1.2.2.2.2 (gi_S (zm kw_569) (zm kw_570) (zm kw_155) (zm kw_568)) rfl rfl rfl (by decide +kernel) ⟨(Nat.le_of_ble_eq_true rfl), (Nat.le_of_ble_eq_true rfl)⟩) rfl dX3_line_57 ⟨hb57, hd57⟩ [] rfl (Nat.le_of_ble_eq_true rfl) rfl hW hS hw) hS (fun x_57 G_57 H locs hw hW hS => ?_)
      refine lv_goto (tgt := 124) C.1.1 C.1.2.1 dX3_line_60 (by decide) ?_
      exact s_X3_line_124 C hr hll MC MS post k34 hk34 ((nc + mc_57)) ((ns + ms_57)) v2 v4 v5 v6 x_57 _ _ _ _ (show (nc + mc_57) ≤ MC ∧ (ns + ms_57) ≤ MS by omega) hW hS (tl_sub hl [1, 3, 4, 5] rfl) hw
set_option maxHeartbeats 4000000 in
set_option maxRecDepth 100000 in
theorem s_X3_line_34 {K : tK} (C : tc_B p l s m args meth c D K A wz_X3_line RX3 cX3_line 8) (hr : meth.sig.returnType = (some (.object "java/lang/String"))) (hll : l.stackTraces = false)  (MC MS : Nat) (post : Option Nat → tG → Prop) : ∀ (n : Nat) (nc ns : Nat) (v2 : Int32) (v3 : Option Nat) (v4 : Option Nat) (v5 : Int32) (v6 : Int32) (G : tG) (H : Heap) (locs : List Loc) (ls : Array Slot), nc ≤ MC ∧ ns ≤ MS → tg_W D A s H G → va_S A s.heap H locs → tl ls 8 [(2, .inl v2), (3, .inr (.inr v3)), (4, .inr (.inr v4)), (5, .inl v5), (6, .inl v6)] → w_X3_line_34 K MC MS post n nc ns v2 v3 v4 v5 v6 G → W p l e ({ frames := 7, cells := MC, slots := MS, locals := 171 } : Room) s m args below meth c H locs nc ns (MQ below (tc_Qc D A (retR post)) args s MC MS A) (F0 m 34 ls []) := by
  intro n
  induction n with
  | zero =>
    intro nc ns v2 v3 v4 v5 v6 G H locs ls hcn hW hS hl hw
    exact hw.elim
  | succ n ih => exact s_X3_line_34_b C hr hll MC MS post _ ih
set_option maxHeartbeats 4000000 in
set_option maxRecDepth 100000 in
theorem s_X3_line {K : tK} (C : tc_B p l s m args meth c D K A wz_X3_line RX3 cX3_line 8) (hr : meth.sig.returnType = (some (.object "java/lang/String"))) (hll : l.stackTraces = false)  (MC MS : Nat) (post : Option Nat → tG → Prop) (v0 : Option Nat) (v1 : Int32) (v2 : Int32) : ∀ (G : tG) (H : Heap) (locs : List Loc) (ls : Array Slot), tg_W D A s H G → va_S A s.heap H locs → tl ls 8 [(0, .inr (.inr v0)), (1, .inl v1), (2, .inl v2)] → w_X3_line K MC MS post v0 v1 v2 G → W p l e ({ frames := 7, cells := MC, slots := MS, locals := 171 } : Room) s m args below meth c H locs 0 0 (MQ below (tc_Qc D A (retR post)) args s MC MS A) (F0 m 0 ls []) := by
  intro G H locs ls hW hS hl hw
  unfold w_X3_line at hw
  refine tr_aload_n (k := 0) (x := v0) C hl 0 rfl dX3_line_0 ?_
  refine tr_aload_n (k := 0) (x := v0) C hl 0 rfl dX3_line_1 ?_
  refine tr_iload_n (k := 1) (x := v1) C hl 1 rfl dX3_line_2 ?_
  refine tr_backI (tr_runV (r := v0) (As := [.int v1]) C hl.1 (c_X3_isNoList l hll K _ v0 v1) (cwV 1 C.1.2.2.2.2 (gi_V (zm kw_211) (zm kw_212) (zm kw_213) (zm kw_155) (zm kw_210)) rfl rfl rfl (by decide +kernel) ⟨(Nat.le_of_ble_eq_true rfl), (Nat.le_of_ble_eq_true rfl)⟩) rfl rfl dX3_line_3 ⟨(show 0 + 0 ≤ MC by omega), (show 0 + 0 ≤ MS by omega)⟩ [.inr (.inr v0)] rfl (Nat.le_of_ble_eq_true rfl) rfl hW hS hw) hS (fun x_3 G_3 H locs hw hW hS => ?_)
  refine lv_iconst (v := (0 : Int32)) C.1.1 C.1.2.1 dX3_line_6 (by decide) ?_
  refine tr_backI (tr_runV (r := v0) (As := [.int x_3, .int ((0 : Int32))]) C hl.1 (c_X3_fails l hll K _ v0 x_3 ((0 : Int32))) (cwV 2 C.1.2.2.2.2 (gi_V (zm kw_190) (zm kw_191) (zm kw_192) (zm kw_155) (zm kw_189)) rfl rfl rfl (by decide +kernel) ⟨(Nat.le_of_ble_eq_true rfl), (Nat.le_of_ble_eq_true rfl)⟩) rfl rfl dX3_line_7 ⟨(show 0 + 0 ≤ MC by omega), (show 0 + 0 ≤ MS by omega)⟩ [] rfl (Nat.le_of_ble_eq_true rfl) rfl hW hS hw) hS (fun x_7 G_7 H locs hw hW hS => ?_)
  refine lv_if_eq (tgt := 16) C.1.1 C.1.2.1 dX3_line_10 (by decide) (fun hc => ?_) (fun hc => ?_)
  · have hw := hw.1 hc
    refine tr_ldcS (cn := 6) (tx := "") C (by decide) dX3_line_16 ?_
    refine tr_astore_n (k := 3) (x := (some (K.2.2 6))) C hl [(3, .inr (.inr (some (K.2.2 6)))), (0, .inr (.inr v0)), (1, .inl v1), (2, .inl v2)] (by decide) rfl dX3_line_18 (fun ls hl => ?_)
    refine tr_aload_n (k := 0) (x := v0) C hl 1 rfl dX3_line_19 ?_
    refine tr_iload_n (k := 1) (x := v1) C hl 2 rfl dX3_line_20 ?_
    have hq3 := hw.1
    have hw := hw.2
    refine tr_backR (tr_runV (r := v0) (As := [.int v1]) C hl.1 (c_X3_all l hll K _ v0 v1) (cwV 1 C.1.2.2.2.2 (gi_V (zm kw_157) (zm kw_158) (zm kw_159) (zm kw_155) (zm kw_156)) rfl rfl rfl (by decide +kernel) ⟨(Nat.le_of_ble_eq_true rfl), (Nat.le_of_ble_eq_true rfl)⟩) rfl rfl dX3_line_21 ⟨hq3.1, hq3.2⟩ [] rfl (Nat.le_of_ble_eq_true rfl) rfl hW hS hw) hS (fun x_21 G_21 H locs hw hW hS => ?_)
    refine tr_astore (x := x_21) C hl [(4, .inr (.inr x_21)), (3, .inr (.inr (some (K.2.2 6)))), (0, .inr (.inr v0)), (1, .inl v1), (2, .inl v2)] (by decide) rfl dX3_line_24 (fun ls hl => ?_)
    refine tr_aload (x := x_21) C hl 0 rfl dX3_line_26 ?_
    refine tr_len (r := x_21) C dX3_line_28 hW hw (fun x_28 hw => ?_)
    refine tr_istore (x := x_28) C hl [(5, .inl x_28), (4, .inr (.inr x_21)), (3, .inr (.inr (some (K.2.2 6)))), (0, .inr (.inr v0)), (1, .inl v1), (2, .inl v2)] (by decide) rfl dX3_line_29 (fun ls hl => ?_)
    refine lv_iconst (v := (0 : Int32)) C.1.1 C.1.2.1 dX3_line_31 (by decide) ?_
    refine tr_istore (x := (0 : Int32)) C hl [(6, .inl (0 : Int32)), (5, .inl x_28), (4, .inr (.inr x_21)), (3, .inr (.inr (some (K.2.2 6)))), (0, .inr (.inr v0)), (1, .inl v1), (2, .inl v2)] (by decide) rfl dX3_line_32 (fun ls hl => ?_)
    obtain ⟨n34, hw⟩ := hw
    exact s_X3_line_34 C hr hll MC MS post n34 ((0 + 1)) ((0 + 12)) v2 ((some (K.2.2 6))) x_21 x_28 ((0 : Int32)) _ _ _ _ (show (0 + 1) ≤ MC ∧ (0 + 12) ≤ MS by omega) hW hS (tl_sub hl [6, 3, 2, 1, 0] rfl) hw
  · have hw := hw.2 hc
    refine tr_ldcS (cn := 6) (tx := "") C (by decide) dX3_line_13 ?_
    exact tr_aret (x := (some (K.2.2 6))) C hr (Or.inl ⟨_, rfl⟩) dX3_line_15 (show 0 ≤ MC by omega) (show 0 ≤ MS by omega) hW hS hw
end Z_X3_line
set_option maxHeartbeats 4000000 in
set_option maxRecDepth 100000 in
theorem c_X3_line (l : Launch) (hll : l.stackTraces = false) (K : tK) (MC MS : Nat) (post : Option Nat → tG → Prop) (v0 : Option Nat) (v1 : Int32) (v2 : Int32) : Ct l yX3_line wz_X3_line ({ frames := 7, cells := MC, slots := MS, locals := 171 } : Room) MC MS [va_rf v0, .int v1, .int v2] K (retR post) (fun G => w_X3_line K MC MS post v0 v1 v2 G) := by
  refine tc_of (cc := cX3_line) (maxL := 8) (ret := (some (.object "java/lang/String"))) (own := RX3) (plainFor_of_name (by decide)) rfl rfl hll [.inr (.inr v0), .inl v1, .inl v2] rfl (Nat.le_of_ble_eq_true rfl) ?_
  intro p e s m args below meth c D A G ls C hr hn ht hl hW hS hw
  exact s_X3_line C hr hll MC MS post v0 v1 v2 _ _ _ _ hW hS hl hw

/-! X3_back -/
def wz_X3_back : List Cond := Cond.code yX3_back cX3_back 2 (some (.object "java/lang/String")) :: w0
section Z_X3_back
variable {p : Program} {l : Launch} {e : Env} {s : State} {m : MethodId} {args : Array Value} {below : List Frame} {meth : Method} {c : Code} {D : va_G} {A : Nat → Prop}
set_option maxHeartbeats 4000000 in
set_option maxRecDepth 100000 in
theorem s_X3_back {K : tK} (C : tc_B p l s m args meth c D K A wz_X3_back RX3 cX3_back 2) (hr : meth.sig.returnType = (some (.object "java/lang/String"))) (hll : l.stackTraces = false)  (MC MS : Nat) (post : Option Nat → tG → Prop) (v0 : Option Nat) (v1 : Int32) : ∀ (G : tG) (H : Heap) (locs : List Loc) (ls : Array Slot), tg_W D A s H G → va_S A s.heap H locs → tl ls 2 [(0, .inr (.inr v0)), (1, .inl v1)] → w_X3_back K MC MS post v0 v1 G → W p l e ({ frames := 8, cells := MC, slots := MS, locals := 198 } : Room) s m args below meth c H locs 0 0 (MQ below (tc_Qc D A (retR post)) args s MC MS A) (F0 m 0 ls []) := by
  intro G H locs ls hW hS hl hw
  unfold w_X3_back at hw
  refine tr_aload_n (k := 0) (x := v0) C hl 0 rfl dX3_back_0 ?_
  refine tr_iload_n (k := 1) (x := v1) C hl 1 rfl dX3_back_1 ?_
  refine lv_iconst (v := (1 : Int32)) C.1.1 C.1.2.1 dX3_back_2 (by decide) ?_
  obtain ⟨mc_3, ms_3, hb3, hd3, hw⟩ := hw
  refine tr_backR (tr_runV (r := v0) (As := [.int v1, .int ((1 : Int32))]) C hl.1 (c_X3_line l hll K mc_3 ms_3 _ v0 v1 ((1 : Int32))) (cwV 2 C.1.2.2.2.2 (gi_V (zm kw_619) (zm kw_620) (zm kw_621) (zm kw_155) (zm kw_618)) rfl rfl rfl (by decide +kernel) ⟨(Nat.le_of_ble_eq_true rfl), (Nat.le_of_ble_eq_true rfl)⟩) rfl rfl dX3_back_3 ⟨hb3, hd3⟩ [] rfl (Nat.le_of_ble_eq_true rfl) rfl hW hS hw) hS (fun x_3 G_3 H locs hw hW hS => ?_)
  exact tr_aret (x := x_3) C hr (Or.inl ⟨_, rfl⟩) dX3_back_6 (show (0 + mc_3) ≤ MC by omega) (show (0 + ms_3) ≤ MS by omega) hW hS hw
end Z_X3_back
set_option maxHeartbeats 4000000 in
set_option maxRecDepth 100000 in
theorem c_X3_back (l : Launch) (hll : l.stackTraces = false) (K : tK) (MC MS : Nat) (post : Option Nat → tG → Prop) (v0 : Option Nat) (v1 : Int32) : Ct l yX3_back wz_X3_back ({ frames := 8, cells := MC, slots := MS, locals := 198 } : Room) MC MS [va_rf v0, .int v1] K (retR post) (fun G => w_X3_back K MC MS post v0 v1 G) := by
  refine tc_of (cc := cX3_back) (maxL := 2) (ret := (some (.object "java/lang/String"))) (own := RX3) (plainFor_of_name (by decide)) rfl rfl hll [.inr (.inr v0), .inl v1] rfl (Nat.le_of_ble_eq_true rfl) ?_
  intro p e s m args below meth c D A G ls C hr hn ht hl hW hS hw
  exact s_X3_back C hr hll MC MS post v0 v1 _ _ _ _ hW hS hl hw

/-! X1_text -/
def wz_X1_text : List Cond := Cond.code yX1_text cX1_text 3 (some (.object "java/lang/String")) :: w0
section Z_X1_text
variable {p : Program} {l : Launch} {e : Env} {s : State} {m : MethodId} {args : Array Value} {below : List Frame} {meth : Method} {c : Code} {D : va_G} {A : Nat → Prop}
set_option maxHeartbeats 4000000 in
set_option maxRecDepth 100000 in
theorem s_X1_text {K : tK} (C : tc_B p l s m args meth c D K A wz_X1_text RX1 cX1_text 3) (hr : meth.sig.returnType = (some (.object "java/lang/String"))) (ht : ∀ x ∈ c.exceptionTable.toList, False) (hll : l.stackTraces = false)  (MC MS : Nat) (post : Option Nat → tG → Prop) (postX : String → tG → Prop) (v0 : Option Nat) (v1 : Int32) : ∀ (G : tG) (H : Heap) (locs : List Loc) (ls : Array Slot), tg_W D A s H G → va_S A s.heap H locs → tl ls 3 [(0, .inr (.inr v0)), (1, .inl v1)] → w_X1_text K MC MS post postX v0 v1 G → W p l e ({ frames := 8, cells := MC, slots := MS, locals := 183 } : Room) s m args below meth c H locs 0 0 (vx_MQ below (tc_Qc D A (retR post)) (tc_XC D A postX) args s MC MS A) (F0 m 0 ls []) := by
  intro G H locs ls hW hS hl hw
  unfold w_X1_text at hw
  refine tr_aload_n (k := 0) (x := v0) C hl 0 rfl dX1_text_0 ?_
  refine tr_iload_n (k := 1) (x := v1) C hl 1 rfl dX1_text_1 ?_
  have hq1 := hw.1
  have hw := hw.2
  refine tx_backR (tx_runV (r := v0) (As := [.int v1]) C hl.1 (c_X1_listAt l hll K _ _ v0 v1) (cwV 1 C.1.2.2.2.2 (gi_V (zm kw_94) (zm kw_95) (zm kw_96) (zm kw_33) (zm kw_93)) rfl rfl rfl (by decide +kernel) ⟨(Nat.le_of_ble_eq_true rfl), (Nat.le_of_ble_eq_true rfl)⟩) rfl rfl dX1_text_2 ⟨hq1.1, hq1.2⟩ [] rfl (Nat.le_of_ble_eq_true rfl) rfl hW hS hw) hS C.2.1 ht hq1.1 hq1.2 (fun x_2 G_2 H locs hw hW hS => ?_)
  refine tr_astore_n (k := 2) (x := x_2) C hl [(2, .inr (.inr x_2)), (0, .inr (.inr v0)), (1, .inl v1)] (by decide) rfl dX1_text_5 (fun ls hl => ?_)
  refine tr_aload_n (k := 2) (x := x_2) C hl 0 rfl dX1_text_6 ?_
  refine lv_iconst (v := (0 : Int32)) C.1.1 C.1.2.1 dX1_text_7 (by decide) ?_
  refine tr_aload_n (k := 2) (x := x_2) C hl 0 rfl dX1_text_8 ?_
  refine tr_gfI (C0 := RX0) (T := TX0) (N := 4) (ci := 2) (ref := "Twinrow$RowList") (k := 3) (r := x_2) C (zh hw_X0) rfl (by decide) (zm kw_34) rfl dX1_text_9 hW hw (fun x_9 hw => ?_)
  refine lv_iconst (v := (0 : Int32)) C.1.1 C.1.2.1 dX1_text_12 (by decide) ?_
  refine lv_iconst (v := (0 : Int32)) C.1.1 C.1.2.1 dX1_text_13 (by decide) ?_
  obtain ⟨mc_14, ms_14, hb14, hd14, hw⟩ := hw
  refine tr_backR (tr_runS (As := [va_rf x_2, .int ((0 : Int32)), .int x_9, .int ((0 : Int32)), .int ((0 : Int32))]) C hl.1 (c_X1_textOf l hll K mc_14 ms_14 _ x_2 ((0 : Int32)) x_9 ((0 : Int32)) ((0 : Int32))) (va_cwS 5 C.1.2.2.2.2 (gi_S (zm kw_526) (zm kw_527) (zm kw_33) (zm kw_525)) rfl rfl rfl (by decide +kernel) ⟨(Nat.le_of_ble_eq_true rfl), (Nat.le_of_ble_eq_true rfl)⟩) rfl dX1_text_14 ⟨hb14, hd14⟩ [] rfl (Nat.le_of_ble_eq_true rfl) rfl hW hS hw) hS (fun x_14 G_14 H locs hw hW hS => ?_)
  exact vx_ret (tr_aret (x := x_14) C hr (Or.inl ⟨_, rfl⟩) dX1_text_17 (show ((0 + 1) + mc_14) ≤ MC by omega) (show ((0 + 6) + ms_14) ≤ MS by omega) hW hS hw)
end Z_X1_text
set_option maxHeartbeats 4000000 in
set_option maxRecDepth 100000 in
theorem c_X1_text (l : Launch) (hll : l.stackTraces = false) (K : tK) (MC MS : Nat) (post : Option Nat → tG → Prop) (postX : String → tG → Prop) (v0 : Option Nat) (v1 : Int32) : Cx l yX1_text wz_X1_text ({ frames := 8, cells := MC, slots := MS, locals := 183 } : Room) MC MS [va_rf v0, .int v1] K (retR post) postX (fun G => w_X1_text K MC MS post postX v0 v1 G) := by
  refine tx_of (cc := cX1_text) (maxL := 3) (ret := (some (.object "java/lang/String"))) (own := RX1) (by decide) rfl rfl hll [.inr (.inr v0), .inl v1] rfl (Nat.le_of_ble_eq_true rfl) ?_
  intro p e s m args below meth c D A G ls C hr hn ht hl hW hS hw
  exact s_X1_text C hr ht hll MC MS post postX v0 v1 _ _ _ _ hW hS hl hw

/-! L_text -/
def wz_L_text : List Cond := Cond.codeWith yL_text cL_text 4 (some .int) [(0, 9, 12, 19)] :: w0
section Z_L_text
variable {p : Program} {l : Launch} {e : Env} {s : State} {m : MethodId} {args : Array Value} {below : List Frame} {meth : Method} {c : Code} {D : va_G} {A : Nat → Prop}
set_option maxHeartbeats 4000000 in
set_option maxRecDepth 100000 in
theorem s_L_text {K : tK} (C : tc_B p l s m args meth c D K A wz_L_text RL cL_text 4) (hr : meth.sig.returnType = (some .int)) (htab : c.exceptionTable.toList = tableOf [(0, 9, 12, 19)]) (hcC : kx_C s) (hll : l.stackTraces = false)  (MC MS : Nat) (post : Int32 → tG → Prop) (v0 : Option Nat) (v1 : Int32) (v2 : Option Nat) : ∀ (G : tG) (H : Heap) (locs : List Loc) (ls : Array Slot), tg_W D A s H G → va_S A s.heap H locs → tl ls 4 [(0, .inr (.inr v0)), (1, .inl v1), (2, .inr (.inr v2))] → w_L_text K MC MS post v0 v1 v2 G → W p l e ({ frames := 9, cells := MC, slots := MS, locals := 205 } : Room) s m args below meth c H locs 0 0 (vx_MQ below (tc_Qc D A (retI post)) (tc_XC D A (fun _ _ => False)) args s MC MS A) (F0 m 0 ls []) := by
  intro G H locs ls hW hS hl hw
  unfold w_L_text at hw
  refine tr_aload_n (k := 2) (x := v2) C hl 2 rfl dL_text_0 ?_
  refine tr_aload_n (k := 0) (x := v0) C hl 0 rfl dL_text_1 ?_
  refine tr_iload_n (k := 1) (x := v1) C hl 1 rfl dL_text_2 ?_
  obtain ⟨mc_3, ms_3, hb3, hd3, hw⟩ := hw
  refine tx_backCR (tx_runV (r := v0) (As := [.int v1]) C hl.1 (c_X1_text l hll K mc_3 ms_3 _ _ v0 v1) (cwV 1 C.1.2.2.2.2 (gi_V (zm kw_623) (zm kw_624) (zm kw_625) (zm kw_33) (zm kw_622)) rfl rfl rfl (by decide +kernel) ⟨(Nat.le_of_ble_eq_true rfl), (Nat.le_of_ble_eq_true rfl)⟩) rfl rfl dL_text_3 ⟨hb3, hd3⟩ [.inr (.inr v2)] rfl (Nat.le_of_ble_eq_true rfl) rfl hW hS hw) hS (fun E ce q9 GX H locs hw hW hS hce hcv hcl => ?_) (fun x_3 G_3 H locs hw hW hS => ?_)
  · by_cases hq0 : E = "java/lang/IndexOutOfBoundsException"
    · replace hw := hw.1 hq0
      subst hq0
      refine vx_catch (name := "java/lang/IndexOutOfBoundsException") C.1.2.2.2.1 [] (⟨0, 9, 12, 19⟩ : ExceptionTableEntry) [] (by rw [htab]; rfl) (fun z hz => nomatch hz) (by decide) (by decide) (C.1.2.2.2.2 _ (zm kw_209)) hcC.2.2.1 hce hcv hcl ?_
      refine tr_astore_n (k := 3) (x := (some q9)) C hl [(3, .inr (.inr (some q9))), (0, .inr (.inr v0)), (1, .inl v1), (2, .inr (.inr v2))] (by decide) rfl dL_text_12 (fun ls hl => ?_)
      refine lv_iconst (v := (1 : Int32)) C.1.1 C.1.2.1 dL_text_13 (by decide) ?_
      exact vx_ret (tr_iret C hr dL_text_14 (show (0 + mc_3) ≤ MC by omega) (show (0 + ms_3) ≤ MS by omega) hW hS hw)
    replace hw := hw.2 hq0
    exact hw.elim
  · refine tr_pfN (C0 := RX2) (T := TX2) (N := 2) (ci := 4) (ref := "TwinrowLaw$Out") (host := "TwinrowLaw") (k := 1) (ty := .object "java/lang/String") (v := va_rf x_3) (r := v2) C (zh hw_X2) tyX2 tyX2_ok nmX2 rfl (by decide) hcC.2.1 rfl rfl (by decide +kernel) (tv_nrO _ _) (tv_frO _ _) dL_text_6 hW hS hw (fun G_6 H locs hw hW hS => ?_)
    refine lv_goto (tgt := 15) C.1.1 C.1.2.1 dL_text_9 (by decide) ?_
    refine lv_iconst (v := (0 : Int32)) C.1.1 C.1.2.1 dL_text_15 (by decide) ?_
    exact vx_ret (tr_iret C hr dL_text_16 (show (0 + mc_3) ≤ MC by omega) (show (0 + ms_3) ≤ MS by omega) hW hS hw)
end Z_L_text
set_option maxHeartbeats 4000000 in
set_option maxRecDepth 100000 in
theorem c_L_text (l : Launch) (hll : l.stackTraces = false) (K : tK) (MC MS : Nat) (post : Int32 → tG → Prop) (v0 : Option Nat) (v1 : Int32) (v2 : Option Nat) : Cx l yL_text wz_L_text ({ frames := 9, cells := MC, slots := MS, locals := 205 } : Room) MC MS [va_rf v0, .int v1, va_rf v2] K (retI post) (fun _ _ => False) (fun G => w_L_text K MC MS post v0 v1 v2 G) := by
  refine tx_ofH (cc := cL_text) (maxL := 4) (ret := (some .int)) (own := RL) (hh := [(0, 9, 12, 19)]) (by decide) rfl rfl hll [.inr (.inr v0), .inl v1, .inr (.inr v2)] rfl (Nat.le_of_ble_eq_true rfl) ?_
  intro p e s m args below meth c D A G ls C hr htab hcC hl hW hS hw
  exact s_L_text C hr htab hcC hll MC MS post v0 v1 v2 _ _ _ _ hW hS hl hw

/-! X3_text -/
def wz_X3_text : List Cond := Cond.code yX3_text cX3_text 2 (some (.object "java/lang/String")) :: w0
section Z_X3_text
variable {p : Program} {l : Launch} {e : Env} {s : State} {m : MethodId} {args : Array Value} {below : List Frame} {meth : Method} {c : Code} {D : va_G} {A : Nat → Prop}
set_option maxHeartbeats 4000000 in
set_option maxRecDepth 100000 in
theorem s_X3_text {K : tK} (C : tc_B p l s m args meth c D K A wz_X3_text RX3 cX3_text 2) (hr : meth.sig.returnType = (some (.object "java/lang/String"))) (hll : l.stackTraces = false)  (MC MS : Nat) (post : Option Nat → tG → Prop) (v0 : Option Nat) (v1 : Int32) : ∀ (G : tG) (H : Heap) (locs : List Loc) (ls : Array Slot), tg_W D A s H G → va_S A s.heap H locs → tl ls 2 [(0, .inr (.inr v0)), (1, .inl v1)] → w_X3_text K MC MS post v0 v1 G → W p l e ({ frames := 8, cells := MC, slots := MS, locals := 198 } : Room) s m args below meth c H locs 0 0 (MQ below (tc_Qc D A (retR post)) args s MC MS A) (F0 m 0 ls []) := by
  intro G H locs ls hW hS hl hw
  unfold w_X3_text at hw
  refine tr_aload_n (k := 0) (x := v0) C hl 0 rfl dX3_text_0 ?_
  refine tr_iload_n (k := 1) (x := v1) C hl 1 rfl dX3_text_1 ?_
  refine lv_iconst (v := (0 : Int32)) C.1.1 C.1.2.1 dX3_text_2 (by decide) ?_
  obtain ⟨mc_3, ms_3, hb3, hd3, hw⟩ := hw
  refine tr_backR (tr_runV (r := v0) (As := [.int v1, .int ((0 : Int32))]) C hl.1 (c_X3_line l hll K mc_3 ms_3 _ v0 v1 ((0 : Int32))) (cwV 2 C.1.2.2.2.2 (gi_V (zm kw_619) (zm kw_620) (zm kw_621) (zm kw_155) (zm kw_618)) rfl rfl rfl (by decide +kernel) ⟨(Nat.le_of_ble_eq_true rfl), (Nat.le_of_ble_eq_true rfl)⟩) rfl rfl dX3_text_3 ⟨hb3, hd3⟩ [] rfl (Nat.le_of_ble_eq_true rfl) rfl hW hS hw) hS (fun x_3 G_3 H locs hw hW hS => ?_)
  exact tr_aret (x := x_3) C hr (Or.inl ⟨_, rfl⟩) dX3_text_6 (show (0 + mc_3) ≤ MC by omega) (show (0 + ms_3) ≤ MS by omega) hW hS hw
end Z_X3_text
set_option maxHeartbeats 4000000 in
set_option maxRecDepth 100000 in
theorem c_X3_text (l : Launch) (hll : l.stackTraces = false) (K : tK) (MC MS : Nat) (post : Option Nat → tG → Prop) (v0 : Option Nat) (v1 : Int32) : Ct l yX3_text wz_X3_text ({ frames := 8, cells := MC, slots := MS, locals := 198 } : Room) MC MS [va_rf v0, .int v1] K (retR post) (fun G => w_X3_text K MC MS post v0 v1 G) := by
  refine tc_of (cc := cX3_text) (maxL := 2) (ret := (some (.object "java/lang/String"))) (own := RX3) (plainFor_of_name (by decide)) rfl rfl hll [.inr (.inr v0), .inl v1] rfl (Nat.le_of_ble_eq_true rfl) ?_
  intro p e s m args below meth c D A G ls C hr hn ht hl hW hS hw
  exact s_X3_text C hr hll MC MS post v0 v1 _ _ _ _ hW hS hl hw

/-! X1_isEmpty -/
def wz_X1_isEmpty : List Cond := Cond.code yX1_isEmpty cX1_isEmpty 2 (some .boolean) :: w0
section Z_X1_isEmpty
variable {p : Program} {l : Launch} {e : Env} {s : State} {m : MethodId} {args : Array Value} {below : List Frame} {meth : Method} {c : Code} {D : va_G} {A : Nat → Prop}
set_option maxHeartbeats 4000000 in
set_option maxRecDepth 100000 in
theorem s_X1_isEmpty_16 {K : tK} (C : tc_B p l s m args meth c D K A wz_X1_isEmpty RX1 cX1_isEmpty 2) (hr : meth.sig.returnType = (some .boolean)) (ht : ∀ x ∈ c.exceptionTable.toList, False) (hll : l.stackTraces = false)  (post : Int32 → tG → Prop) (postX : String → tG → Prop) : ∀ (u0 : Int32) (G : tG) (H : Heap) (locs : List Loc) (ls : Array Slot), tg_W D A s H G → va_S A s.heap H locs → tl ls 2 [] → w_X1_isEmpty_16 K post postX u0 G → W p l e ({ frames := 7, cells := 1, slots := 6, locals := 104 } : Room) s m args below meth c H locs 1 6 (vx_MQ below (tc_Qc D A (retI post)) (tc_XC D A postX) args s 1 6 A) (F0 m 16 ls [.int u0]) := by
  intro u0 G H locs ls hW hS hl hw
  unfold w_X1_isEmpty_16 at hw
  exact vx_ret (tr_zret C hr dX1_isEmpty_16 (Nat.le_of_ble_eq_true rfl) (Nat.le_of_ble_eq_true rfl) hW hS hw)
set_option maxHeartbeats 4000000 in
set_option maxRecDepth 100000 in
theorem s_X1_isEmpty {K : tK} (C : tc_B p l s m args meth c D K A wz_X1_isEmpty RX1 cX1_isEmpty 2) (hr : meth.sig.returnType = (some .boolean)) (ht : ∀ x ∈ c.exceptionTable.toList, False) (hll : l.stackTraces = false)  (post : Int32 → tG → Prop) (postX : String → tG → Prop) (v0 : Option Nat) (v1 : Int32) : ∀ (G : tG) (H : Heap) (locs : List Loc) (ls : Array Slot), tg_W D A s H G → va_S A s.heap H locs → tl ls 2 [(0, .inr (.inr v0)), (1, .inl v1)] → w_X1_isEmpty K post postX v0 v1 G → W p l e ({ frames := 7, cells := 1, slots := 6, locals := 104 } : Room) s m args below meth c H locs 0 0 (vx_MQ below (tc_Qc D A (retI post)) (tc_XC D A postX) args s 1 6 A) (F0 m 0 ls []) := by
  intro G H locs ls hW hS hl hw
  unfold w_X1_isEmpty at hw
  refine tr_aload_n (k := 0) (x := v0) C hl 0 rfl dX1_isEmpty_0 ?_
  refine tr_iload_n (k := 1) (x := v1) C hl 1 rfl dX1_isEmpty_1 ?_
  refine tx_backR (tx_runV (r := v0) (As := [.int v1]) C hl.1 (c_X1_listAt l hll K _ _ v0 v1) (cwV 1 C.1.2.2.2.2 (gi_V (zm kw_94) (zm kw_95) (zm kw_96) (zm kw_33) (zm kw_93)) rfl rfl rfl (by decide +kernel) ⟨(Nat.le_of_ble_eq_true rfl), (Nat.le_of_ble_eq_true rfl)⟩) rfl rfl dX1_isEmpty_2 ⟨(Nat.le_of_ble_eq_true rfl), (Nat.le_of_ble_eq_true rfl)⟩ [] rfl (Nat.le_of_ble_eq_true rfl) rfl hW hS hw) hS C.2.1 ht (Nat.le_of_ble_eq_true rfl) (Nat.le_of_ble_eq_true rfl) (fun x_2 G_2 H locs hw hW hS => ?_)
  refine tr_gfI (C0 := RX0) (T := TX0) (N := 4) (ci := 2) (ref := "Twinrow$RowList") (k := 3) (r := x_2) C (zh hw_X0) rfl (by decide) (zm kw_34) rfl dX1_isEmpty_5 hW hw (fun x_5 hw => ?_)
  refine lv_if_ne (tgt := 15) C.1.1 C.1.2.1 dX1_isEmpty_8 (by decide) (fun hc => ?_) (fun hc => ?_)
  · have hw := hw.1 hc
    refine lv_iconst (v := (0 : Int32)) C.1.1 C.1.2.1 dX1_isEmpty_15 (by decide) ?_
    exact s_X1_isEmpty_16 C hr ht hll post postX ((0 : Int32)) _ _ _ _ hW hS (tl_sub hl [] rfl) hw
  · have hw := hw.2 hc
    refine lv_iconst (v := (1 : Int32)) C.1.1 C.1.2.1 dX1_isEmpty_11 (by decide) ?_
    refine lv_goto (tgt := 16) C.1.1 C.1.2.1 dX1_isEmpty_12 (by decide) ?_
    exact s_X1_isEmpty_16 C hr ht hll post postX ((1 : Int32)) _ _ _ _ hW hS (tl_sub hl [] rfl) hw
end Z_X1_isEmpty
set_option maxHeartbeats 4000000 in
set_option maxRecDepth 100000 in
theorem c_X1_isEmpty (l : Launch) (hll : l.stackTraces = false) (K : tK) (post : Int32 → tG → Prop) (postX : String → tG → Prop) (v0 : Option Nat) (v1 : Int32) : Cx l yX1_isEmpty wz_X1_isEmpty ({ frames := 7, cells := 1, slots := 6, locals := 104 } : Room) 1 6 [va_rf v0, .int v1] K (retI post) postX (fun G => w_X1_isEmpty K post postX v0 v1 G) := by
  refine tx_of (cc := cX1_isEmpty) (maxL := 2) (ret := (some .boolean)) (own := RX1) (by decide) rfl rfl hll [.inr (.inr v0), .inl v1] rfl (Nat.le_of_ble_eq_true rfl) ?_
  intro p e s m args below meth c D A G ls C hr hn ht hl hW hS hw
  exact s_X1_isEmpty C hr ht hll post postX v0 v1 _ _ _ _ hW hS hl hw

/-! L_isEmpty -/
def wz_L_isEmpty : List Cond := Cond.codeWith yL_isEmpty cL_isEmpty 4 (some .int) [(0, 17, 20, 19)] :: w0
section Z_L_isEmpty
variable {p : Program} {l : Launch} {e : Env} {s : State} {m : MethodId} {args : Array Value} {below : List Frame} {meth : Method} {c : Code} {D : va_G} {A : Nat → Prop}
set_option maxHeartbeats 4000000 in
set_option maxRecDepth 100000 in
theorem s_L_isEmpty_14 {K : tK} (C : tc_B p l s m args meth c D K A wz_L_isEmpty RL cL_isEmpty 4) (hr : meth.sig.returnType = (some .int)) (htab : c.exceptionTable.toList = tableOf [(0, 17, 20, 19)]) (hcC : kx_C s) (hll : l.stackTraces = false)  (post : Int32 → tG → Prop) : ∀ (u0 : Option Nat) (u1 : Int64) (G : tG) (H : Heap) (locs : List Loc) (ls : Array Slot), tg_W D A s H G → va_S A s.heap H locs → tl ls 4 [] → w_L_isEmpty_14 K post u0 u1 G → W p l e ({ frames := 8, cells := 1, slots := 6, locals := 125 } : Room) s m args below meth c H locs 1 6 (vx_MQ below (tc_Qc D A (retI post)) (tc_XC D A (fun _ _ => False)) args s 1 6 A) (F0 m 14 ls [.long u1, va_rf u0]) := by
  intro u0 u1 G H locs ls hW hS hl hw
  unfold w_L_isEmpty_14 at hw
  refine tr_pfN (C0 := RX2) (T := TX2) (N := 2) (ci := 4) (ref := "TwinrowLaw$Out") (host := "TwinrowLaw") (k := 0) (ty := .long) (v := .long u1) (r := u0) C (zh hw_X2) tyX2 tyX2_ok nmX2 rfl (by decide) hcC.1 rfl rfl (by decide +kernel) rfl rfl dL_isEmpty_14 hW hS hw (fun G_14 H locs hw hW hS => ?_)
  refine lv_goto (tgt := 23) C.1.1 C.1.2.1 dL_isEmpty_17 (by decide) ?_
  refine lv_iconst (v := (0 : Int32)) C.1.1 C.1.2.1 dL_isEmpty_23 (by decide) ?_
  exact vx_ret (tr_iret C hr dL_isEmpty_24 (Nat.le_of_ble_eq_true rfl) (Nat.le_of_ble_eq_true rfl) hW hS hw)
set_option maxHeartbeats 4000000 in
set_option maxRecDepth 100000 in
theorem s_L_isEmpty {K : tK} (C : tc_B p l s m args meth c D K A wz_L_isEmpty RL cL_isEmpty 4) (hr : meth.sig.returnType = (some .int)) (htab : c.exceptionTable.toList = tableOf [(0, 17, 20, 19)]) (hcC : kx_C s) (hll : l.stackTraces = false)  (post : Int32 → tG → Prop) (v0 : Option Nat) (v1 : Int32) (v2 : Option Nat) : ∀ (G : tG) (H : Heap) (locs : List Loc) (ls : Array Slot), tg_W D A s H G → va_S A s.heap H locs → tl ls 4 [(0, .inr (.inr v0)), (1, .inl v1), (2, .inr (.inr v2))] → w_L_isEmpty K post v0 v1 v2 G → W p l e ({ frames := 8, cells := 1, slots := 6, locals := 125 } : Room) s m args below meth c H locs 0 0 (vx_MQ below (tc_Qc D A (retI post)) (tc_XC D A (fun _ _ => False)) args s 1 6 A) (F0 m 0 ls []) := by
  intro G H locs ls hW hS hl hw
  unfold w_L_isEmpty at hw
  refine tr_aload_n (k := 2) (x := v2) C hl 2 rfl dL_isEmpty_0 ?_
  refine tr_aload_n (k := 0) (x := v0) C hl 0 rfl dL_isEmpty_1 ?_
  refine tr_iload_n (k := 1) (x := v1) C hl 1 rfl dL_isEmpty_2 ?_
  refine tx_backCI (tx_runV (r := v0) (As := [.int v1]) C hl.1 (c_X1_isEmpty l hll K _ _ v0 v1) (cwV 1 C.1.2.2.2.2 (gi_V (zm kw_627) (zm kw_628) (zm kw_629) (zm kw_33) (zm kw_626)) rfl rfl rfl (by decide +kernel) ⟨(Nat.le_of_ble_eq_true rfl), (Nat.le_of_ble_eq_true rfl)⟩) rfl rfl dL_isEmpty_3 ⟨(Nat.le_of_ble_eq_true rfl), (Nat.le_of_ble_eq_true rfl)⟩ [.inr (.inr v2)] rfl (Nat.le_of_ble_eq_true rfl) rfl hW hS hw) hS (fun E ce q9 GX H locs hw hW hS hce hcv hcl => ?_) (fun x_3 G_3 H locs hw hW hS => ?_)
  · by_cases hq0 : E = "java/lang/IndexOutOfBoundsException"
    · replace hw := hw.1 hq0
      subst hq0
      refine vx_catch (name := "java/lang/IndexOutOfBoundsException") C.1.2.2.2.1 [] (⟨0, 17, 20, 19⟩ : ExceptionTableEntry) [] (by rw [htab]; rfl) (fun z hz => nomatch hz) (by decide) (by decide) (C.1.2.2.2.2 _ (zm kw_209)) hcC.2.2.1 hce hcv hcl ?_
      refine tr_astore_n (k := 3) (x := (some q9)) C hl [(3, .inr (.inr (some q9))), (0, .inr (.inr v0)), (1, .inl v1), (2, .inr (.inr v2))] (by decide) rfl dL_isEmpty_20 (fun ls hl => ?_)
      refine lv_iconst (v := (1 : Int32)) C.1.1 C.1.2.1 dL_isEmpty_21 (by decide) ?_
      exact vx_ret (tr_iret C hr dL_isEmpty_22 (Nat.le_of_ble_eq_true rfl) (Nat.le_of_ble_eq_true rfl) hW hS hw)
    replace hw := hw.2 hq0
    exact hw.elim
  · refine lv_if_eq (tgt := 13) C.1.1 C.1.2.1 dL_isEmpty_6 (by decide) (fun hc => ?_) (fun hc => ?_)
    · have hw := hw.1 hc
      refine lv_lconst (v := (0 : Int64)) C.1.1 C.1.2.1 dL_isEmpty_13 (by decide) ?_
      exact s_L_isEmpty_14 C hr htab hcC hll post v2 ((0 : Int64)) _ _ _ _ hW hS (tl_sub hl [] rfl) hw
    · have hw := hw.2 hc
      refine lv_lconst (v := (1 : Int64)) C.1.1 C.1.2.1 dL_isEmpty_9 (by decide) ?_
      refine lv_goto (tgt := 14) C.1.1 C.1.2.1 dL_isEmpty_10 (by decide) ?_
      exact s_L_isEmpty_14 C hr htab hcC hll post v2 ((1 : Int64)) _ _ _ _ hW hS (tl_sub hl [] rfl) hw
end Z_L_isEmpty
set_option maxHeartbeats 4000000 in
set_option maxRecDepth 100000 in
theorem c_L_isEmpty (l : Launch) (hll : l.stackTraces = false) (K : tK) (post : Int32 → tG → Prop) (v0 : Option Nat) (v1 : Int32) (v2 : Option Nat) : Cx l yL_isEmpty wz_L_isEmpty ({ frames := 8, cells := 1, slots := 6, locals := 125 } : Room) 1 6 [va_rf v0, .int v1, va_rf v2] K (retI post) (fun _ _ => False) (fun G => w_L_isEmpty K post v0 v1 v2 G) := by
  refine tx_ofH (cc := cL_isEmpty) (maxL := 4) (ret := (some .int)) (own := RL) (hh := [(0, 17, 20, 19)]) (by decide) rfl rfl hll [.inr (.inr v0), .inl v1, .inr (.inr v2)] rfl (Nat.le_of_ble_eq_true rfl) ?_
  intro p e s m args below meth c D A G ls C hr htab hcC hl hW hS hw
  exact s_L_isEmpty C hr htab hcC hll post v0 v1 v2 _ _ _ _ hW hS hl hw

/-! X3_isEmpty -/
def wz_X3_isEmpty : List Cond := Cond.code yX3_isEmpty cX3_isEmpty 2 (some .boolean) :: w0
section Z_X3_isEmpty
variable {p : Program} {l : Launch} {e : Env} {s : State} {m : MethodId} {args : Array Value} {below : List Frame} {meth : Method} {c : Code} {D : va_G} {A : Nat → Prop}
set_option maxHeartbeats 4000000 in
set_option maxRecDepth 100000 in
theorem s_X3_isEmpty_27 {K : tK} (C : tc_B p l s m args meth c D K A wz_X3_isEmpty RX3 cX3_isEmpty 2) (hr : meth.sig.returnType = (some .boolean)) (hll : l.stackTraces = false)  (post : Int32 → tG → Prop) : ∀ (u0 : Int32) (G : tG) (H : Heap) (locs : List Loc) (ls : Array Slot), tg_W D A s H G → va_S A s.heap H locs → tl ls 2 [] → w_X3_isEmpty_27 K post u0 G → W p l e ({ frames := 2, cells := 0, slots := 0, locals := 43 } : Room) s m args below meth c H locs 0 0 (MQ below (tc_Qc D A (retI post)) args s 0 0 A) (F0 m 27 ls [.int u0]) := by
  intro u0 G H locs ls hW hS hl hw
  unfold w_X3_isEmpty_27 at hw
  exact tr_zret C hr dX3_isEmpty_27 (Nat.le_of_ble_eq_true rfl) (Nat.le_of_ble_eq_true rfl) hW hS hw
set_option maxHeartbeats 4000000 in
set_option maxRecDepth 100000 in
theorem s_X3_isEmpty_26 {K : tK} (C : tc_B p l s m args meth c D K A wz_X3_isEmpty RX3 cX3_isEmpty 2) (hr : meth.sig.returnType = (some .boolean)) (hll : l.stackTraces = false)  (post : Int32 → tG → Prop) : ∀ (G : tG) (H : Heap) (locs : List Loc) (ls : Array Slot), tg_W D A s H G → va_S A s.heap H locs → tl ls 2 [] → w_X3_isEmpty_26 K post G → W p l e ({ frames := 2, cells := 0, slots := 0, locals := 43 } : Room) s m args below meth c H locs 0 0 (MQ below (tc_Qc D A (retI post)) args s 0 0 A) (F0 m 26 ls []) := by
  intro G H locs ls hW hS hl hw
  unfold w_X3_isEmpty_26 at hw
  refine lv_iconst (v := (0 : Int32)) C.1.1 C.1.2.1 dX3_isEmpty_26 (by decide) ?_
  exact s_X3_isEmpty_27 C hr hll post ((0 : Int32)) _ _ _ _ hW hS (tl_sub hl [] rfl) hw
set_option maxHeartbeats 4000000 in
set_option maxRecDepth 100000 in
theorem s_X3_isEmpty {K : tK} (C : tc_B p l s m args meth c D K A wz_X3_isEmpty RX3 cX3_isEmpty 2) (hr : meth.sig.returnType = (some .boolean)) (hll : l.stackTraces = false)  (post : Int32 → tG → Prop) (v0 : Option Nat) (v1 : Int32) : ∀ (G : tG) (H : Heap) (locs : List Loc) (ls : Array Slot), tg_W D A s H G → va_S A s.heap H locs → tl ls 2 [(0, .inr (.inr v0)), (1, .inl v1)] → w_X3_isEmpty K post v0 v1 G → W p l e ({ frames := 2, cells := 0, slots := 0, locals := 43 } : Room) s m args below meth c H locs 0 0 (MQ below (tc_Qc D A (retI post)) args s 0 0 A) (F0 m 0 ls []) := by
  intro G H locs ls hW hS hl hw
  unfold w_X3_isEmpty at hw
  refine tr_aload_n (k := 0) (x := v0) C hl 0 rfl dX3_isEmpty_0 ?_
  refine tr_aload_n (k := 0) (x := v0) C hl 0 rfl dX3_isEmpty_1 ?_
  refine tr_iload_n (k := 1) (x := v1) C hl 1 rfl dX3_isEmpty_2 ?_
  refine tr_backI (tr_runV (r := v0) (As := [.int v1]) C hl.1 (c_X3_isNoList l hll K _ v0 v1) (cwV 1 C.1.2.2.2.2 (gi_V (zm kw_211) (zm kw_212) (zm kw_213) (zm kw_155) (zm kw_210)) rfl rfl rfl (by decide +kernel) ⟨(Nat.le_of_ble_eq_true rfl), (Nat.le_of_ble_eq_true rfl)⟩) rfl rfl dX3_isEmpty_3 ⟨(Nat.le_of_ble_eq_true rfl), (Nat.le_of_ble_eq_true rfl)⟩ [.inr (.inr v0)] rfl (Nat.le_of_ble_eq_true rfl) rfl hW hS hw) hS (fun x_3 G_3 H locs hw hW hS => ?_)
  refine lv_iconst (v := (0 : Int32)) C.1.1 C.1.2.1 dX3_isEmpty_6 (by decide) ?_
  refine tr_backI (tr_runV (r := v0) (As := [.int x_3, .int ((0 : Int32))]) C hl.1 (c_X3_fails l hll K _ v0 x_3 ((0 : Int32))) (cwV 2 C.1.2.2.2.2 (gi_V (zm kw_190) (zm kw_191) (zm kw_192) (zm kw_155) (zm kw_189)) rfl rfl rfl (by decide +kernel) ⟨(Nat.le_of_ble_eq_true rfl), (Nat.le_of_ble_eq_true rfl)⟩) rfl rfl dX3_isEmpty_7 ⟨(Nat.le_of_ble_eq_true rfl), (Nat.le_of_ble_eq_true rfl)⟩ [] rfl (Nat.le_of_ble_eq_true rfl) rfl hW hS hw) hS (fun x_7 G_7 H locs hw hW hS => ?_)
  refine lv_if_ne (tgt := 26) C.1.1 C.1.2.1 dX3_isEmpty_10 (by decide) (fun hc => ?_) (fun hc => ?_)
  · have hw := hw.1 hc
    exact s_X3_isEmpty_26 C hr hll post _ _ _ _ hW hS (tl_sub hl [] rfl) hw
  · have hw := hw.2 hc
    refine tr_aload_n (k := 0) (x := v0) C hl 0 rfl dX3_isEmpty_13 ?_
    refine tr_gfR (C0 := RX3) (T := TX3) (N := 8) (ci := 5) (ref := "TwinrowModel") (k := 3) (r := v0) C (zh hw_X3) rfl (by decide) (zm kw_24) rfl dX3_isEmpty_14 hW hw (fun x_14 hw => ?_)
    refine tr_iload_n (k := 1) (x := v1) C hl 1 rfl dX3_isEmpty_17 ?_
    refine tr_alI (r := x_14) C dX3_isEmpty_18 hW hw (fun x_18 hw => ?_)
    refine lv_if_ne (tgt := 26) C.1.1 C.1.2.1 dX3_isEmpty_19 (by decide) (fun hc => ?_) (fun hc => ?_)
    · have hw := hw.1 hc
      exact s_X3_isEmpty_26 C hr hll post _ _ _ _ hW hS (tl_sub hl [] rfl) hw
    · have hw := hw.2 hc
      refine lv_iconst (v := (1 : Int32)) C.1.1 C.1.2.1 dX3_isEmpty_22 (by decide) ?_
      refine lv_goto (tgt := 27) C.1.1 C.1.2.1 dX3_isEmpty_23 (by decide) ?_
      exact s_X3_isEmpty_27 C hr hll post ((1 : Int32)) _ _ _ _ hW hS (tl_sub hl [] rfl) hw
end Z_X3_isEmpty
set_option maxHeartbeats 4000000 in
set_option maxRecDepth 100000 in
theorem c_X3_isEmpty (l : Launch) (hll : l.stackTraces = false) (K : tK) (post : Int32 → tG → Prop) (v0 : Option Nat) (v1 : Int32) : Ct l yX3_isEmpty wz_X3_isEmpty ({ frames := 2, cells := 0, slots := 0, locals := 43 } : Room) 0 0 [va_rf v0, .int v1] K (retI post) (fun G => w_X3_isEmpty K post v0 v1 G) := by
  refine tc_of (cc := cX3_isEmpty) (maxL := 2) (ret := (some .boolean)) (own := RX3) (plainFor_of_name (by decide)) rfl rfl hll [.inr (.inr v0), .inl v1] rfl (Nat.le_of_ble_eq_true rfl) ?_
  intro p e s m args below meth c D A G ls C hr hn ht hl hW hS hw
  exact s_X3_isEmpty C hr hll post v0 v1 _ _ _ _ hW hS hl hw

/-! L_length -/
def wz_L_length : List Cond := Cond.codeWith yL_length cL_length 4 (some .int) [(0, 10, 13, 19)] :: w0
section Z_L_length
variable {p : Program} {l : Launch} {e : Env} {s : State} {m : MethodId} {args : Array Value} {below : List Frame} {meth : Method} {c : Code} {D : va_G} {A : Nat → Prop}
set_option maxHeartbeats 4000000 in
set_option maxRecDepth 100000 in
theorem s_L_length {K : tK} (C : tc_B p l s m args meth c D K A wz_L_length RL cL_length 4) (hr : meth.sig.returnType = (some .int)) (htab : c.exceptionTable.toList = tableOf [(0, 10, 13, 19)]) (hcC : kx_C s) (hll : l.stackTraces = false)  (post : Int32 → tG → Prop) (v0 : Option Nat) (v1 : Int32) (v2 : Option Nat) : ∀ (G : tG) (H : Heap) (locs : List Loc) (ls : Array Slot), tg_W D A s H G → va_S A s.heap H locs → tl ls 4 [(0, .inr (.inr v0)), (1, .inl v1), (2, .inr (.inr v2))] → w_L_length K post v0 v1 v2 G → W p l e ({ frames := 8, cells := 1, slots := 6, locals := 125 } : Room) s m args below meth c H locs 0 0 (vx_MQ below (tc_Qc D A (retI post)) (tc_XC D A (fun _ _ => False)) args s 1 6 A) (F0 m 0 ls []) := by
  intro G H locs ls hW hS hl hw
  unfold w_L_length at hw
  refine tr_aload_n (k := 2) (x := v2) C hl 2 rfl dL_length_0 ?_
  refine tr_aload_n (k := 0) (x := v0) C hl 0 rfl dL_length_1 ?_
  refine tr_iload_n (k := 1) (x := v1) C hl 1 rfl dL_length_2 ?_
  refine tx_backCI (tx_runV (r := v0) (As := [.int v1]) C hl.1 (c_X1_length l hll K _ _ v0 v1) (cwV 1 C.1.2.2.2.2 (gi_V (zm kw_630) (zm kw_110) (zm kw_111) (zm kw_33) (zm kw_108)) rfl rfl rfl (by decide +kernel) ⟨(Nat.le_of_ble_eq_true rfl), (Nat.le_of_ble_eq_true rfl)⟩) rfl rfl dL_length_3 ⟨(Nat.le_of_ble_eq_true rfl), (Nat.le_of_ble_eq_true rfl)⟩ [.inr (.inr v2)] rfl (Nat.le_of_ble_eq_true rfl) rfl hW hS hw) hS (fun E ce q9 GX H locs hw hW hS hce hcv hcl => ?_) (fun x_3 G_3 H locs hw hW hS => ?_)
  · by_cases hq0 : E = "java/lang/IndexOutOfBoundsException"
    · replace hw := hw.1 hq0
      subst hq0
      refine vx_catch (name := "java/lang/IndexOutOfBoundsException") C.1.2.2.2.1 [] (⟨0, 10, 13, 19⟩ : ExceptionTableEntry) [] (by rw [htab]; rfl) (fun z hz => nomatch hz) (by decide) (by decide) (C.1.2.2.2.2 _ (zm kw_209)) hcC.2.2.1 hce hcv hcl ?_
      refine tr_astore_n (k := 3) (x := (some q9)) C hl [(3, .inr (.inr (some q9))), (0, .inr (.inr v0)), (1, .inl v1), (2, .inr (.inr v2))] (by decide) rfl dL_length_13 (fun ls hl => ?_)
      refine lv_iconst (v := (1 : Int32)) C.1.1 C.1.2.1 dL_length_14 (by decide) ?_
      exact vx_ret (tr_iret C hr dL_length_15 (Nat.le_of_ble_eq_true rfl) (Nat.le_of_ble_eq_true rfl) hW hS hw)
    replace hw := hw.2 hq0
    exact hw.elim
  · refine lv_i2l (v := ((x_3).toInt64)) C.1.1 C.1.2.1 dL_length_6 rfl ?_
    refine tr_pfN (C0 := RX2) (T := TX2) (N := 2) (ci := 4) (ref := "TwinrowLaw$Out") (host := "TwinrowLaw") (k := 0) (ty := .long) (v := .long (((x_3).toInt64))) (r := v2) C (zh hw_X2) tyX2 tyX2_ok nmX2 rfl (by decide) hcC.1 rfl rfl (by decide +kernel) rfl rfl dL_length_7 hW hS hw (fun G_7 H locs hw hW hS => ?_)
    refine lv_goto (tgt := 16) C.1.1 C.1.2.1 dL_length_10 (by decide) ?_
    refine lv_iconst (v := (0 : Int32)) C.1.1 C.1.2.1 dL_length_16 (by decide) ?_
    exact vx_ret (tr_iret C hr dL_length_17 (Nat.le_of_ble_eq_true rfl) (Nat.le_of_ble_eq_true rfl) hW hS hw)
end Z_L_length
set_option maxHeartbeats 4000000 in
set_option maxRecDepth 100000 in
theorem c_L_length (l : Launch) (hll : l.stackTraces = false) (K : tK) (post : Int32 → tG → Prop) (v0 : Option Nat) (v1 : Int32) (v2 : Option Nat) : Cx l yL_length wz_L_length ({ frames := 8, cells := 1, slots := 6, locals := 125 } : Room) 1 6 [va_rf v0, .int v1, va_rf v2] K (retI post) (fun _ _ => False) (fun G => w_L_length K post v0 v1 v2 G) := by
  refine tx_ofH (cc := cL_length) (maxL := 4) (ret := (some .int)) (own := RL) (hh := [(0, 10, 13, 19)]) (by decide) rfl rfl hll [.inr (.inr v0), .inl v1, .inr (.inr v2)] rfl (Nat.le_of_ble_eq_true rfl) ?_
  intro p e s m args below meth c D A G ls C hr htab hcC hl hW hS hw
  exact s_L_length C hr htab hcC hll post v0 v1 v2 _ _ _ _ hW hS hl hw

/-! X3_length -/
def wz_X3_length : List Cond := Cond.code yX3_length cX3_length 2 (some .int) :: w0
section Z_X3_length
variable {p : Program} {l : Launch} {e : Env} {s : State} {m : MethodId} {args : Array Value} {below : List Frame} {meth : Method} {c : Code} {D : va_G} {A : Nat → Prop}
set_option maxHeartbeats 4000000 in
set_option maxRecDepth 100000 in
theorem s_X3_length_23 {K : tK} (C : tc_B p l s m args meth c D K A wz_X3_length RX3 cX3_length 2) (hr : meth.sig.returnType = (some .int)) (hll : l.stackTraces = false)  (post : Int32 → tG → Prop) : ∀ (u0 : Int32) (G : tG) (H : Heap) (locs : List Loc) (ls : Array Slot), tg_W D A s H G → va_S A s.heap H locs → tl ls 2 [] → w_X3_length_23 K post u0 G → W p l e ({ frames := 2, cells := 0, slots := 0, locals := 43 } : Room) s m args below meth c H locs 0 0 (MQ below (tc_Qc D A (retI post)) args s 0 0 A) (F0 m 23 ls [.int u0]) := by
  intro u0 G H locs ls hW hS hl hw
  unfold w_X3_length_23 at hw
  exact tr_iret C hr dX3_length_23 (Nat.le_of_ble_eq_true rfl) (Nat.le_of_ble_eq_true rfl) hW hS hw
set_option maxHeartbeats 4000000 in
set_option maxRecDepth 100000 in
theorem s_X3_length {K : tK} (C : tc_B p l s m args meth c D K A wz_X3_length RX3 cX3_length 2) (hr : meth.sig.returnType = (some .int)) (hll : l.stackTraces = false)  (post : Int32 → tG → Prop) (v0 : Option Nat) (v1 : Int32) : ∀ (G : tG) (H : Heap) (locs : List Loc) (ls : Array Slot), tg_W D A s H G → va_S A s.heap H locs → tl ls 2 [(0, .inr (.inr v0)), (1, .inl v1)] → w_X3_length K post v0 v1 G → W p l e ({ frames := 2, cells := 0, slots := 0, locals := 43 } : Room) s m args below meth c H locs 0 0 (MQ below (tc_Qc D A (retI post)) args s 0 0 A) (F0 m 0 ls []) := by
  intro G H locs ls hW hS hl hw
  unfold w_X3_length at hw
  refine tr_aload_n (k := 0) (x := v0) C hl 0 rfl dX3_length_0 ?_
  refine tr_aload_n (k := 0) (x := v0) C hl 0 rfl dX3_length_1 ?_
  refine tr_iload_n (k := 1) (x := v1) C hl 1 rfl dX3_length_2 ?_
  refine tr_backI (tr_runV (r := v0) (As := [.int v1]) C hl.1 (c_X3_isNoList l hll K _ v0 v1) (cwV 1 C.1.2.2.2.2 (gi_V (zm kw_211) (zm kw_212) (zm kw_213) (zm kw_155) (zm kw_210)) rfl rfl rfl (by decide +kernel) ⟨(Nat.le_of_ble_eq_true rfl), (Nat.le_of_ble_eq_true rfl)⟩) rfl rfl dX3_length_3 ⟨(Nat.le_of_ble_eq_true rfl), (Nat.le_of_ble_eq_true rfl)⟩ [.inr (.inr v0)] rfl (Nat.le_of_ble_eq_true rfl) rfl hW hS hw) hS (fun x_3 G_3 H locs hw hW hS => ?_)
  refine lv_iconst (v := (0 : Int32)) C.1.1 C.1.2.1 dX3_length_6 (by decide) ?_
  refine tr_backI (tr_runV (r := v0) (As := [.int x_3, .int ((0 : Int32))]) C hl.1 (c_X3_fails l hll K _ v0 x_3 ((0 : Int32))) (cwV 2 C.1.2.2.2.2 (gi_V (zm kw_190) (zm kw_191) (zm kw_192) (zm kw_155) (zm kw_189)) rfl rfl rfl (by decide +kernel) ⟨(Nat.le_of_ble_eq_true rfl), (Nat.le_of_ble_eq_true rfl)⟩) rfl rfl dX3_length_7 ⟨(Nat.le_of_ble_eq_true rfl), (Nat.le_of_ble_eq_true rfl)⟩ [] rfl (Nat.le_of_ble_eq_true rfl) rfl hW hS hw) hS (fun x_7 G_7 H locs hw hW hS => ?_)
  refine lv_if_eq (tgt := 17) C.1.1 C.1.2.1 dX3_length_10 (by decide) (fun hc => ?_) (fun hc => ?_)
  · have hw := hw.1 hc
    refine tr_aload_n (k := 0) (x := v0) C hl 0 rfl dX3_length_17 ?_
    refine tr_gfR (C0 := RX3) (T := TX3) (N := 8) (ci := 5) (ref := "TwinrowModel") (k := 3) (r := v0) C (zh hw_X3) rfl (by decide) (zm kw_24) rfl dX3_length_18 hW hw (fun x_18 hw => ?_)
    refine tr_iload_n (k := 1) (x := v1) C hl 1 rfl dX3_length_21 ?_
    refine tr_alI (r := x_18) C dX3_length_22 hW hw (fun x_22 hw => ?_)
    exact s_X3_length_23 C hr hll post x_22 _ _ _ _ hW hS (tl_sub hl [] rfl) hw
  · have hw := hw.2 hc
    refine lv_iconst (v := (0 : Int32)) C.1.1 C.1.2.1 dX3_length_13 (by decide) ?_
    refine lv_goto (tgt := 23) C.1.1 C.1.2.1 dX3_length_14 (by decide) ?_
    exact s_X3_length_23 C hr hll post ((0 : Int32)) _ _ _ _ hW hS (tl_sub hl [] rfl) hw
end Z_X3_length
set_option maxHeartbeats 4000000 in
set_option maxRecDepth 100000 in
theorem c_X3_length (l : Launch) (hll : l.stackTraces = false) (K : tK) (post : Int32 → tG → Prop) (v0 : Option Nat) (v1 : Int32) : Ct l yX3_length wz_X3_length ({ frames := 2, cells := 0, slots := 0, locals := 43 } : Room) 0 0 [va_rf v0, .int v1] K (retI post) (fun G => w_X3_length K post v0 v1 G) := by
  refine tc_of (cc := cX3_length) (maxL := 2) (ret := (some .int)) (own := RX3) (plainFor_of_name (by decide)) rfl rfl hll [.inr (.inr v0), .inl v1] rfl (Nat.le_of_ble_eq_true rfl) ?_
  intro p e s m args below meth c D A G ls C hr hn ht hl hW hS hw
  exact s_X3_length C hr hll post v0 v1 _ _ _ _ hW hS hl hw

/-! X1_get -/
def wz_X1_get : List Cond := Cond.code yX1_get cX1_get 4 (some .int) :: w0
section Z_X1_get
variable {p : Program} {l : Launch} {e : Env} {s : State} {m : MethodId} {args : Array Value} {below : List Frame} {meth : Method} {c : Code} {D : va_G} {A : Nat → Prop}
set_option maxHeartbeats 4000000 in
set_option maxRecDepth 100000 in
theorem s_X1_get {K : tK} (C : tc_B p l s m args meth c D K A wz_X1_get RX1 cX1_get 4) (hr : meth.sig.returnType = (some .int)) (ht : ∀ x ∈ c.exceptionTable.toList, False) (hll : l.stackTraces = false)  (post : Int32 → tG → Prop) (postX : String → tG → Prop) (v0 : Option Nat) (v1 : Int32) (v2 : Int32) : ∀ (G : tG) (H : Heap) (locs : List Loc) (ls : Array Slot), tg_W D A s H G → va_S A s.heap H locs → tl ls 4 [(0, .inr (.inr v0)), (1, .inl v1), (2, .inl v2)] → w_X1_get K post postX v0 v1 v2 G → W p l e ({ frames := 7, cells := 2, slots := 12, locals := 104 } : Room) s m args below meth c H locs 0 0 (vx_MQ below (tc_Qc D A (retI post)) (tc_XC D A postX) args s 2 12 A) (F0 m 0 ls []) := by
  intro G H locs ls hW hS hl hw
  unfold w_X1_get at hw
  refine tr_aload_n (k := 0) (x := v0) C hl 0 rfl dX1_get_0 ?_
  refine tr_iload_n (k := 1) (x := v1) C hl 1 rfl dX1_get_1 ?_
  refine tx_backR (tx_runV (r := v0) (As := [.int v1]) C hl.1 (c_X1_listAt l hll K _ _ v0 v1) (cwV 1 C.1.2.2.2.2 (gi_V (zm kw_94) (zm kw_95) (zm kw_96) (zm kw_33) (zm kw_93)) rfl rfl rfl (by decide +kernel) ⟨(Nat.le_of_ble_eq_true rfl), (Nat.le_of_ble_eq_true rfl)⟩) rfl rfl dX1_get_2 ⟨(Nat.le_of_ble_eq_true rfl), (Nat.le_of_ble_eq_true rfl)⟩ [] rfl (Nat.le_of_ble_eq_true rfl) rfl hW hS hw) hS C.2.1 ht (Nat.le_of_ble_eq_true rfl) (Nat.le_of_ble_eq_true rfl) (fun x_2 G_2 H locs hw hW hS => ?_)
  refine tr_astore_n (k := 3) (x := x_2) C hl [(3, .inr (.inr x_2)), (0, .inr (.inr v0)), (1, .inl v1), (2, .inl v2)] (by decide) rfl dX1_get_5 (fun ls hl => ?_)
  refine tr_aload_n (k := 3) (x := x_2) C hl 0 rfl dX1_get_6 ?_
  refine tr_iload_n (k := 2) (x := v2) C hl 3 rfl dX1_get_7 ?_
  refine tx_backV (tx_runS (As := [va_rf x_2, .int v2]) C hl.1 (c_X1_checkPlace l hll K _ _ x_2 v2) (va_cwS 2 C.1.2.2.2.2 (gi_S (zm kw_199) (zm kw_200) (zm kw_33) (zm kw_198)) rfl rfl rfl (by decide +kernel) ⟨(Nat.le_of_ble_eq_true rfl), (Nat.le_of_ble_eq_true rfl)⟩) rfl dX1_get_8 ⟨(Nat.le_of_ble_eq_true rfl), (Nat.le_of_ble_eq_true rfl)⟩ [] rfl (Nat.le_of_ble_eq_true rfl) rfl hW hS hw) hS C.2.1 ht (Nat.le_of_ble_eq_true rfl) (Nat.le_of_ble_eq_true rfl) (fun G_8 H locs hw hW hS => ?_)
  refine tr_aload_n (k := 3) (x := x_2) C hl 0 rfl dX1_get_11 ?_
  refine tr_iload_n (k := 2) (x := v2) C hl 3 rfl dX1_get_12 ?_
  refine tr_backI (tr_runV (r := x_2) (As := [.int v2]) C hl.1 (c_X0_read l hll K _ x_2 v2) (cwV 1 C.1.2.2.2.2 (gi_V (zm kw_27) (zm kw_28) (zm kw_29) (zm kw_10) (zm kw_26)) rfl rfl rfl (by decide +kernel) ⟨(Nat.le_of_ble_eq_true rfl), (Nat.le_of_ble_eq_true rfl)⟩) rfl rfl dX1_get_13 ⟨(Nat.le_of_ble_eq_true rfl), (Nat.le_of_ble_eq_true rfl)⟩ [] rfl (Nat.le_of_ble_eq_true rfl) rfl hW hS hw) hS (fun x_13 G_13 H locs hw hW hS => ?_)
  exact vx_ret (tr_iret C hr dX1_get_16 (Nat.le_of_ble_eq_true rfl) (Nat.le_of_ble_eq_true rfl) hW hS hw)
end Z_X1_get
set_option maxHeartbeats 4000000 in
set_option maxRecDepth 100000 in
theorem c_X1_get (l : Launch) (hll : l.stackTraces = false) (K : tK) (post : Int32 → tG → Prop) (postX : String → tG → Prop) (v0 : Option Nat) (v1 : Int32) (v2 : Int32) : Cx l yX1_get wz_X1_get ({ frames := 7, cells := 2, slots := 12, locals := 104 } : Room) 2 12 [va_rf v0, .int v1, .int v2] K (retI post) postX (fun G => w_X1_get K post postX v0 v1 v2 G) := by
  refine tx_of (cc := cX1_get) (maxL := 4) (ret := (some .int)) (own := RX1) (by decide) rfl rfl hll [.inr (.inr v0), .inl v1, .inl v2] rfl (Nat.le_of_ble_eq_true rfl) ?_
  intro p e s m args below meth c D A G ls C hr hn ht hl hW hS hw
  exact s_X1_get C hr ht hll post postX v0 v1 v2 _ _ _ _ hW hS hl hw

/-! L_get -/
def wz_L_get : List Cond := Cond.codeWith yL_get cL_get 5 (some .int) [(0, 11, 14, 19)] :: w0
section Z_L_get
variable {p : Program} {l : Launch} {e : Env} {s : State} {m : MethodId} {args : Array Value} {below : List Frame} {meth : Method} {c : Code} {D : va_G} {A : Nat → Prop}
set_option maxHeartbeats 4000000 in
set_option maxRecDepth 100000 in
theorem s_L_get {K : tK} (C : tc_B p l s m args meth c D K A wz_L_get RL cL_get 5) (hr : meth.sig.returnType = (some .int)) (htab : c.exceptionTable.toList = tableOf [(0, 11, 14, 19)]) (hcC : kx_C s) (hll : l.stackTraces = false)  (post : Int32 → tG → Prop) (v0 : Option Nat) (v1 : Int32) (v2 : Int32) (v3 : Option Nat) : ∀ (G : tG) (H : Heap) (locs : List Loc) (ls : Array Slot), tg_W D A s H G → va_S A s.heap H locs → tl ls 5 [(0, .inr (.inr v0)), (1, .inl v1), (2, .inl v2), (3, .inr (.inr v3))] → w_L_get K post v0 v1 v2 v3 G → W p l e ({ frames := 8, cells := 2, slots := 12, locals := 127 } : Room) s m args below meth c H locs 0 0 (vx_MQ below (tc_Qc D A (retI post)) (tc_XC D A (fun _ _ => False)) args s 2 12 A) (F0 m 0 ls []) := by
  intro G H locs ls hW hS hl hw
  unfold w_L_get at hw
  refine tr_aload_n (k := 3) (x := v3) C hl 3 rfl dL_get_0 ?_
  refine tr_aload_n (k := 0) (x := v0) C hl 0 rfl dL_get_1 ?_
  refine tr_iload_n (k := 1) (x := v1) C hl 1 rfl dL_get_2 ?_
  refine tr_iload_n (k := 2) (x := v2) C hl 2 rfl dL_get_3 ?_
  refine tx_backCI (tx_runV (r := v0) (As := [.int v1, .int v2]) C hl.1 (c_X1_get l hll K _ _ v0 v1 v2) (cwV 2 C.1.2.2.2.2 (gi_V (zm kw_632) (zm kw_633) (zm kw_634) (zm kw_33) (zm kw_631)) rfl rfl rfl (by decide +kernel) ⟨(Nat.le_of_ble_eq_true rfl), (Nat.le_of_ble_eq_true rfl)⟩) rfl rfl dL_get_4 ⟨(Nat.le_of_ble_eq_true rfl), (Nat.le_of_ble_eq_true rfl)⟩ [.inr (.inr v3)] rfl (Nat.le_of_ble_eq_true rfl) rfl hW hS hw) hS (fun E ce q9 GX H locs hw hW hS hce hcv hcl => ?_) (fun x_4 G_4 H locs hw hW hS => ?_)
  · by_cases hq0 : E = "java/lang/IndexOutOfBoundsException"
    · replace hw := hw.1 hq0
      subst hq0
      refine vx_catch (name := "java/lang/IndexOutOfBoundsException") C.1.2.2.2.1 [] (⟨0, 11, 14, 19⟩ : ExceptionTableEntry) [] (by rw [htab]; rfl) (fun z hz => nomatch hz) (by decide) (by decide) (C.1.2.2.2.2 _ (zm kw_209)) hcC.2.2.1 hce hcv hcl ?_
      refine tr_astore (x := (some q9)) C hl [(4, .inr (.inr (some q9))), (0, .inr (.inr v0)), (1, .inl v1), (2, .inl v2), (3, .inr (.inr v3))] (by decide) rfl dL_get_14 (fun ls hl => ?_)
      refine lv_iconst (v := (1 : Int32)) C.1.1 C.1.2.1 dL_get_16 (by decide) ?_
      exact vx_ret (tr_iret C hr dL_get_17 (Nat.le_of_ble_eq_true rfl) (Nat.le_of_ble_eq_true rfl) hW hS hw)
    replace hw := hw.2 hq0
    exact hw.elim
  · refine lv_i2l (v := ((x_4).toInt64)) C.1.1 C.1.2.1 dL_get_7 rfl ?_
    refine tr_pfN (C0 := RX2) (T := TX2) (N := 2) (ci := 4) (ref := "TwinrowLaw$Out") (host := "TwinrowLaw") (k := 0) (ty := .long) (v := .long (((x_4).toInt64))) (r := v3) C (zh hw_X2) tyX2 tyX2_ok nmX2 rfl (by decide) hcC.1 rfl rfl (by decide +kernel) rfl rfl dL_get_8 hW hS hw (fun G_8 H locs hw hW hS => ?_)
    refine lv_goto (tgt := 18) C.1.1 C.1.2.1 dL_get_11 (by decide) ?_
    refine lv_iconst (v := (0 : Int32)) C.1.1 C.1.2.1 dL_get_18 (by decide) ?_
    exact vx_ret (tr_iret C hr dL_get_19 (Nat.le_of_ble_eq_true rfl) (Nat.le_of_ble_eq_true rfl) hW hS hw)
end Z_L_get
set_option maxHeartbeats 4000000 in
set_option maxRecDepth 100000 in
theorem c_L_get (l : Launch) (hll : l.stackTraces = false) (K : tK) (post : Int32 → tG → Prop) (v0 : Option Nat) (v1 : Int32) (v2 : Int32) (v3 : Option Nat) : Cx l yL_get wz_L_get ({ frames := 8, cells := 2, slots := 12, locals := 127 } : Room) 2 12 [va_rf v0, .int v1, .int v2, va_rf v3] K (retI post) (fun _ _ => False) (fun G => w_L_get K post v0 v1 v2 v3 G) := by
  refine tx_ofH (cc := cL_get) (maxL := 5) (ret := (some .int)) (own := RL) (hh := [(0, 11, 14, 19)]) (by decide) rfl rfl hll [.inr (.inr v0), .inl v1, .inl v2, .inr (.inr v3)] rfl (Nat.le_of_ble_eq_true rfl) ?_
  intro p e s m args below meth c D A G ls C hr htab hcC hl hW hS hw
  exact s_L_get C hr htab hcC hll post v0 v1 v2 v3 _ _ _ _ hW hS hl hw

/-! X3_get -/
def wz_X3_get : List Cond := Cond.code yX3_get cX3_get 3 (some .int) :: w0
section Z_X3_get
variable {p : Program} {l : Launch} {e : Env} {s : State} {m : MethodId} {args : Array Value} {below : List Frame} {meth : Method} {c : Code} {D : va_G} {A : Nat → Prop}
set_option maxHeartbeats 4000000 in
set_option maxRecDepth 100000 in
theorem s_X3_get_24 {K : tK} (C : tc_B p l s m args meth c D K A wz_X3_get RX3 cX3_get 3) (hr : meth.sig.returnType = (some .int)) (hll : l.stackTraces = false)  (post : Int32 → tG → Prop) : ∀ (u0 : Int32) (G : tG) (H : Heap) (locs : List Loc) (ls : Array Slot), tg_W D A s H G → va_S A s.heap H locs → tl ls 3 [] → w_X3_get_24 K post u0 G → W p l e ({ frames := 3, cells := 0, slots := 0, locals := 65 } : Room) s m args below meth c H locs 0 0 (MQ below (tc_Qc D A (retI post)) args s 0 0 A) (F0 m 24 ls [.int u0]) := by
  intro u0 G H locs ls hW hS hl hw
  unfold w_X3_get_24 at hw
  exact tr_iret C hr dX3_get_24 (Nat.le_of_ble_eq_true rfl) (Nat.le_of_ble_eq_true rfl) hW hS hw
set_option maxHeartbeats 4000000 in
set_option maxRecDepth 100000 in
theorem s_X3_get {K : tK} (C : tc_B p l s m args meth c D K A wz_X3_get RX3 cX3_get 3) (hr : meth.sig.returnType = (some .int)) (hll : l.stackTraces = false)  (post : Int32 → tG → Prop) (v0 : Option Nat) (v1 : Int32) (v2 : Int32) : ∀ (G : tG) (H : Heap) (locs : List Loc) (ls : Array Slot), tg_W D A s H G → va_S A s.heap H locs → tl ls 3 [(0, .inr (.inr v0)), (1, .inl v1), (2, .inl v2)] → w_X3_get K post v0 v1 v2 G → W p l e ({ frames := 3, cells := 0, slots := 0, locals := 65 } : Room) s m args below meth c H locs 0 0 (MQ below (tc_Qc D A (retI post)) args s 0 0 A) (F0 m 0 ls []) := by
  intro G H locs ls hW hS hl hw
  unfold w_X3_get at hw
  refine tr_aload_n (k := 0) (x := v0) C hl 0 rfl dX3_get_0 ?_
  refine tr_aload_n (k := 0) (x := v0) C hl 0 rfl dX3_get_1 ?_
  refine tr_iload_n (k := 1) (x := v1) C hl 1 rfl dX3_get_2 ?_
  refine tr_iload_n (k := 2) (x := v2) C hl 2 rfl dX3_get_3 ?_
  refine tr_backI (tr_runV (r := v0) (As := [.int v1, .int v2]) C hl.1 (c_X3_isNoPlace l hll K _ v0 v1 v2) (cwV 2 C.1.2.2.2.2 (gi_V (zm kw_219) (zm kw_220) (zm kw_221) (zm kw_155) (zm kw_218)) rfl rfl rfl (by decide +kernel) ⟨(Nat.le_of_ble_eq_true rfl), (Nat.le_of_ble_eq_true rfl)⟩) rfl rfl dX3_get_4 ⟨(Nat.le_of_ble_eq_true rfl), (Nat.le_of_ble_eq_true rfl)⟩ [.inr (.inr v0)] rfl (Nat.le_of_ble_eq_true rfl) rfl hW hS hw) hS (fun x_4 G_4 H locs hw hW hS => ?_)
  refine lv_iconst (v := (0 : Int32)) C.1.1 C.1.2.1 dX3_get_7 (by decide) ?_
  refine tr_backI (tr_runV (r := v0) (As := [.int x_4, .int ((0 : Int32))]) C hl.1 (c_X3_fails l hll K _ v0 x_4 ((0 : Int32))) (cwV 2 C.1.2.2.2.2 (gi_V (zm kw_190) (zm kw_191) (zm kw_192) (zm kw_155) (zm kw_189)) rfl rfl rfl (by decide +kernel) ⟨(Nat.le_of_ble_eq_true rfl), (Nat.le_of_ble_eq_true rfl)⟩) rfl rfl dX3_get_8 ⟨(Nat.le_of_ble_eq_true rfl), (Nat.le_of_ble_eq_true rfl)⟩ [] rfl (Nat.le_of_ble_eq_true rfl) rfl hW hS hw) hS (fun x_8 G_8 H locs hw hW hS => ?_)
  refine lv_if_eq (tgt := 18) C.1.1 C.1.2.1 dX3_get_11 (by decide) (fun hc => ?_) (fun hc => ?_)
  · have hw := hw.1 hc
    refine tr_aload_n (k := 0) (x := v0) C hl 0 rfl dX3_get_18 ?_
    refine tr_iload_n (k := 1) (x := v1) C hl 1 rfl dX3_get_19 ?_
    refine tr_iload_n (k := 2) (x := v2) C hl 2 rfl dX3_get_20 ?_
    refine tr_backI (tr_runV (r := v0) (As := [.int v1, .int v2]) C hl.1 (c_X3_value l hll K _ v0 v1 v2) (cwV 2 C.1.2.2.2.2 (gi_V (zm kw_152) (zm kw_153) (zm kw_154) (zm kw_155) (zm kw_151)) rfl rfl rfl (by decide +kernel) ⟨(Nat.le_of_ble_eq_true rfl), (Nat.le_of_ble_eq_true rfl)⟩) rfl rfl dX3_get_21 ⟨(Nat.le_of_ble_eq_true rfl), (Nat.le_of_ble_eq_true rfl)⟩ [] rfl (Nat.le_of_ble_eq_true rfl) rfl hW hS hw) hS (fun x_21 G_21 H locs hw hW hS => ?_)
    exact s_X3_get_24 C hr hll post x_21 _ _ _ _ hW hS (tl_sub hl [] rfl) hw
  · have hw := hw.2 hc
    refine lv_iconst (v := (0 : Int32)) C.1.1 C.1.2.1 dX3_get_14 (by decide) ?_
    refine lv_goto (tgt := 24) C.1.1 C.1.2.1 dX3_get_15 (by decide) ?_
    exact s_X3_get_24 C hr hll post ((0 : Int32)) _ _ _ _ hW hS (tl_sub hl [] rfl) hw
end Z_X3_get
set_option maxHeartbeats 4000000 in
set_option maxRecDepth 100000 in
theorem c_X3_get (l : Launch) (hll : l.stackTraces = false) (K : tK) (post : Int32 → tG → Prop) (v0 : Option Nat) (v1 : Int32) (v2 : Int32) : Ct l yX3_get wz_X3_get ({ frames := 3, cells := 0, slots := 0, locals := 65 } : Room) 0 0 [va_rf v0, .int v1, .int v2] K (retI post) (fun G => w_X3_get K post v0 v1 v2 G) := by
  refine tc_of (cc := cX3_get) (maxL := 3) (ret := (some .int)) (own := RX3) (plainFor_of_name (by decide)) rfl rfl hll [.inr (.inr v0), .inl v1, .inl v2] rfl (Nat.le_of_ble_eq_true rfl) ?_
  intro p e s m args below meth c D A G ls C hr hn ht hl hW hS hw
  exact s_X3_get C hr hll post v0 v1 v2 _ _ _ _ hW hS hl hw

/-! X1_set -/
def wz_X1_set : List Cond := Cond.code yX1_set cX1_set 5 (some .int) :: w0
section Z_X1_set
variable {p : Program} {l : Launch} {e : Env} {s : State} {m : MethodId} {args : Array Value} {below : List Frame} {meth : Method} {c : Code} {D : va_G} {A : Nat → Prop}
set_option maxHeartbeats 4000000 in
set_option maxRecDepth 100000 in
theorem s_X1_set {K : tK} (C : tc_B p l s m args meth c D K A wz_X1_set RX1 cX1_set 5) (hr : meth.sig.returnType = (some .int)) (ht : ∀ x ∈ c.exceptionTable.toList, False) (hll : l.stackTraces = false)  (post : Int32 → tG → Prop) (postX : String → tG → Prop) (v0 : Option Nat) (v1 : Int32) (v2 : Int32) (v3 : Int32) : ∀ (G : tG) (H : Heap) (locs : List Loc) (ls : Array Slot), tg_W D A s H G → va_S A s.heap H locs → tl ls 5 [(0, .inr (.inr v0)), (1, .inl v1), (2, .inl v2), (3, .inl v3)] → w_X1_set K post postX v0 v1 v2 v3 G → W p l e ({ frames := 8, cells := 3, slots := 18, locals := 124 } : Room) s m args below meth c H locs 0 0 (vx_MQ below (tc_Qc D A (retI post)) (tc_XC D A postX) args s 3 18 A) (F0 m 0 ls []) := by
  intro G H locs ls hW hS hl hw
  unfold w_X1_set at hw
  refine tr_aload_n (k := 0) (x := v0) C hl 0 rfl dX1_set_0 ?_
  refine tr_iload_n (k := 1) (x := v1) C hl 1 rfl dX1_set_1 ?_
  refine tx_backR (tx_runV (r := v0) (As := [.int v1]) C hl.1 (c_X1_listAt l hll K _ _ v0 v1) (cwV 1 C.1.2.2.2.2 (gi_V (zm kw_94) (zm kw_95) (zm kw_96) (zm kw_33) (zm kw_93)) rfl rfl rfl (by decide +kernel) ⟨(Nat.le_of_ble_eq_true rfl), (Nat.le_of_ble_eq_true rfl)⟩) rfl rfl dX1_set_2 ⟨(Nat.le_of_ble_eq_true rfl), (Nat.le_of_ble_eq_true rfl)⟩ [] rfl (Nat.le_of_ble_eq_true rfl) rfl hW hS hw) hS C.2.1 ht (Nat.le_of_ble_eq_true rfl) (Nat.le_of_ble_eq_true rfl) (fun x_2 G_2 H locs hw hW hS => ?_)
  refine tr_astore (x := x_2) C hl [(4, .inr (.inr x_2)), (0, .inr (.inr v0)), (1, .inl v1), (2, .inl v2), (3, .inl v3)] (by decide) rfl dX1_set_5 (fun ls hl => ?_)
  refine tr_aload (x := x_2) C hl 0 rfl dX1_set_7 ?_
  refine tr_iload_n (k := 2) (x := v2) C hl 3 rfl dX1_set_9 ?_
  refine tx_backV (tx_runS (As := [va_rf x_2, .int v2]) C hl.1 (c_X1_checkPlace l hll K _ _ x_2 v2) (va_cwS 2 C.1.2.2.2.2 (gi_S (zm kw_199) (zm kw_200) (zm kw_33) (zm kw_198)) rfl rfl rfl (by decide +kernel) ⟨(Nat.le_of_ble_eq_true rfl), (Nat.le_of_ble_eq_true rfl)⟩) rfl dX1_set_10 ⟨(Nat.le_of_ble_eq_true rfl), (Nat.le_of_ble_eq_true rfl)⟩ [] rfl (Nat.le_of_ble_eq_true rfl) rfl hW hS hw) hS C.2.1 ht (Nat.le_of_ble_eq_true rfl) (Nat.le_of_ble_eq_true rfl) (fun G_10 H locs hw hW hS => ?_)
  refine tr_iload_n (k := 3) (x := v3) C hl 4 rfl dX1_set_13 ?_
  refine tx_backV (tx_runS (As := [.int v3]) C hl.1 (c_X1_checkValue l hll K _ _ v3) (va_cwS 1 C.1.2.2.2.2 (gi_S (zm kw_269) (zm kw_270) (zm kw_33) (zm kw_268)) rfl rfl rfl (by decide +kernel) ⟨(Nat.le_of_ble_eq_true rfl), (Nat.le_of_ble_eq_true rfl)⟩) rfl dX1_set_14 ⟨(Nat.le_of_ble_eq_true rfl), (Nat.le_of_ble_eq_true rfl)⟩ [] rfl (Nat.le_of_ble_eq_true rfl) rfl hW hS hw) hS C.2.1 ht (Nat.le_of_ble_eq_true rfl) (Nat.le_of_ble_eq_true rfl) (fun G_14 H locs hw hW hS => ?_)
  refine tr_aload (x := x_2) C hl 0 rfl dX1_set_17 ?_
  refine tr_iload_n (k := 2) (x := v2) C hl 3 rfl dX1_set_19 ?_
  refine tr_iload_n (k := 3) (x := v3) C hl 4 rfl dX1_set_20 ?_
  refine tr_backI (tr_runV (r := x_2) (As := [.int v2, .int v3]) C hl.1 (c_X0_write l hll K _ x_2 v2 v3) (cwV 2 C.1.2.2.2.2 (gi_V (zm kw_47) (zm kw_48) (zm kw_49) (zm kw_10) (zm kw_46)) rfl rfl rfl (by decide +kernel) ⟨(Nat.le_of_ble_eq_true rfl), (Nat.le_of_ble_eq_true rfl)⟩) rfl rfl dX1_set_21 ⟨(Nat.le_of_ble_eq_true rfl), (Nat.le_of_ble_eq_true rfl)⟩ [] rfl (Nat.le_of_ble_eq_true rfl) rfl hW hS hw) hS (fun x_21 G_21 H locs hw hW hS => ?_)
  exact vx_ret (tr_iret C hr dX1_set_24 (Nat.le_of_ble_eq_true rfl) (Nat.le_of_ble_eq_true rfl) hW hS hw)
end Z_X1_set
set_option maxHeartbeats 4000000 in
set_option maxRecDepth 100000 in
theorem c_X1_set (l : Launch) (hll : l.stackTraces = false) (K : tK) (post : Int32 → tG → Prop) (postX : String → tG → Prop) (v0 : Option Nat) (v1 : Int32) (v2 : Int32) (v3 : Int32) : Cx l yX1_set wz_X1_set ({ frames := 8, cells := 3, slots := 18, locals := 124 } : Room) 3 18 [va_rf v0, .int v1, .int v2, .int v3] K (retI post) postX (fun G => w_X1_set K post postX v0 v1 v2 v3 G) := by
  refine tx_of (cc := cX1_set) (maxL := 5) (ret := (some .int)) (own := RX1) (by decide) rfl rfl hll [.inr (.inr v0), .inl v1, .inl v2, .inl v3] rfl (Nat.le_of_ble_eq_true rfl) ?_
  intro p e s m args below meth c D A G ls C hr hn ht hl hW hS hw
  exact s_X1_set C hr ht hll post postX v0 v1 v2 v3 _ _ _ _ hW hS hl hw

/-! L_set -/
def wz_L_set : List Cond := Cond.codeWith yL_set cL_set 6 (some .int) [(0, 13, 16, 19), (0, 13, 20, 21)] :: w0
section Z_L_set
variable {p : Program} {l : Launch} {e : Env} {s : State} {m : MethodId} {args : Array Value} {below : List Frame} {meth : Method} {c : Code} {D : va_G} {A : Nat → Prop}
set_option maxHeartbeats 4000000 in
set_option maxRecDepth 100000 in
theorem s_L_set {K : tK} (C : tc_B p l s m args meth c D K A wz_L_set RL cL_set 6) (hr : meth.sig.returnType = (some .int)) (htab : c.exceptionTable.toList = tableOf [(0, 13, 16, 19), (0, 13, 20, 21)]) (hcC : kx_C s) (hll : l.stackTraces = false)  (post : Int32 → tG → Prop) (v0 : Option Nat) (v1 : Int32) (v2 : Int32) (v3 : Int32) (v4 : Option Nat) : ∀ (G : tG) (H : Heap) (locs : List Loc) (ls : Array Slot), tg_W D A s H G → va_S A s.heap H locs → tl ls 6 [(0, .inr (.inr v0)), (1, .inl v1), (2, .inl v2), (3, .inl v3), (4, .inr (.inr v4))] → w_L_set K post v0 v1 v2 v3 v4 G → W p l e ({ frames := 9, cells := 3, slots := 18, locals := 148 } : Room) s m args below meth c H locs 0 0 (vx_MQ below (tc_Qc D A (retI post)) (tc_XC D A (fun _ _ => False)) args s 3 18 A) (F0 m 0 ls []) := by
  intro G H locs ls hW hS hl hw
  unfold w_L_set at hw
  refine tr_aload (x := v4) C hl 4 rfl dL_set_0 ?_
  refine tr_aload_n (k := 0) (x := v0) C hl 0 rfl dL_set_2 ?_
  refine tr_iload_n (k := 1) (x := v1) C hl 1 rfl dL_set_3 ?_
  refine tr_iload_n (k := 2) (x := v2) C hl 2 rfl dL_set_4 ?_
  refine tr_iload_n (k := 3) (x := v3) C hl 3 rfl dL_set_5 ?_
  refine tx_backCI (tx_runV (r := v0) (As := [.int v1, .int v2, .int v3]) C hl.1 (c_X1_set l hll K _ _ v0 v1 v2 v3) (cwV 3 C.1.2.2.2.2 (gi_V (zm kw_636) (zm kw_637) (zm kw_638) (zm kw_33) (zm kw_635)) rfl rfl rfl (by decide +kernel) ⟨(Nat.le_of_ble_eq_true rfl), (Nat.le_of_ble_eq_true rfl)⟩) rfl rfl dL_set_6 ⟨(Nat.le_of_ble_eq_true rfl), (Nat.le_of_ble_eq_true rfl)⟩ [.inr (.inr v4)] rfl (Nat.le_of_ble_eq_true rfl) rfl hW hS hw) hS (fun E ce q9 GX H locs hw hW hS hce hcv hcl => ?_) (fun x_6 G_6 H locs hw hW hS => ?_)
  · by_cases hq0 : E = "java/lang/IndexOutOfBoundsException"
    · replace hw := hw.1 hq0
      subst hq0
      refine vx_catch (name := "java/lang/IndexOutOfBoundsException") C.1.2.2.2.1 [] (⟨0, 13, 16, 19⟩ : ExceptionTableEntry) [(⟨0, 13, 20, 21⟩ : ExceptionTableEntry)] (by rw [htab]; rfl) (fun z hz => nomatch hz) (by decide) (by decide) (C.1.2.2.2.2 _ (zm kw_209)) hcC.2.2.1 hce hcv hcl ?_
      refine tr_astore (x := (some q9)) C hl [(5, .inr (.inr (some q9))), (0, .inr (.inr v0)), (1, .inl v1), (2, .inl v2), (3, .inl v3), (4, .inr (.inr v4))] (by decide) rfl dL_set_16 (fun ls hl => ?_)
      refine lv_iconst (v := (1 : Int32)) C.1.1 C.1.2.1 dL_set_18 (by decide) ?_
      exact vx_ret (tr_iret C hr dL_set_19 (Nat.le_of_ble_eq_true rfl) (Nat.le_of_ble_eq_true rfl) hW hS hw)
    replace hw := hw.2 hq0
    by_cases hq1 : E = "java/lang/IllegalArgumentException"
    · replace hw := hw.1 hq1
      subst hq1
      refine vx_catch (name := "java/lang/IllegalArgumentException") C.1.2.2.2.1 [(⟨0, 13, 16, 19⟩ : ExceptionTableEntry)] (⟨0, 13, 20, 21⟩ : ExceptionTableEntry) [] (by rw [htab]; rfl) (kx_pass1 C hcC rfl (by decide) (zm kw_209)) (by decide) (by decide) (C.1.2.2.2.2 _ (zm kw_188)) hcC.2.2.2.1 hce hcv hcl ?_
      refine tr_astore (x := (some q9)) C hl [(5, .inr (.inr (some q9))), (0, .inr (.inr v0)), (1, .inl v1), (2, .inl v2), (3, .inl v3), (4, .inr (.inr v4))] (by decide) rfl dL_set_20 (fun ls hl => ?_)
      refine lv_iconst (v := (2 : Int32)) C.1.1 C.1.2.1 dL_set_22 (by decide) ?_
      exact vx_ret (tr_iret C hr dL_set_23 (Nat.le_of_ble_eq_true rfl) (Nat.le_of_ble_eq_true rfl) hW hS hw)
    replace hw := hw.2 hq1
    exact hw.elim
  · refine lv_i2l (v := ((x_6).toInt64)) C.1.1 C.1.2.1 dL_set_9 rfl ?_
    refine tr_pfN (C0 := RX2) (T := TX2) (N := 2) (ci := 4) (ref := "TwinrowLaw$Out") (host := "TwinrowLaw") (k := 0) (ty := .long) (v := .long (((x_6).toInt64))) (r := v4) C (zh hw_X2) tyX2 tyX2_ok nmX2 rfl (by decide) hcC.1 rfl rfl (by decide +kernel) rfl rfl dL_set_10 hW hS hw (fun G_10 H locs hw hW hS => ?_)
    refine lv_goto (tgt := 24) C.1.1 C.1.2.1 dL_set_13 (by decide) ?_
    refine lv_iconst (v := (0 : Int32)) C.1.1 C.1.2.1 dL_set_24 (by decide) ?_
    exact vx_ret (tr_iret C hr dL_set_25 (Nat.le_of_ble_eq_true rfl) (Nat.le_of_ble_eq_true rfl) hW hS hw)
end Z_L_set
set_option maxHeartbeats 4000000 in
set_option maxRecDepth 100000 in
theorem c_L_set (l : Launch) (hll : l.stackTraces = false) (K : tK) (post : Int32 → tG → Prop) (v0 : Option Nat) (v1 : Int32) (v2 : Int32) (v3 : Int32) (v4 : Option Nat) : Cx l yL_set wz_L_set ({ frames := 9, cells := 3, slots := 18, locals := 148 } : Room) 3 18 [va_rf v0, .int v1, .int v2, .int v3, va_rf v4] K (retI post) (fun _ _ => False) (fun G => w_L_set K post v0 v1 v2 v3 v4 G) := by
  refine tx_ofH (cc := cL_set) (maxL := 6) (ret := (some .int)) (own := RL) (hh := [(0, 13, 16, 19), (0, 13, 20, 21)]) (by decide) rfl rfl hll [.inr (.inr v0), .inl v1, .inl v2, .inl v3, .inr (.inr v4)] rfl (Nat.le_of_ble_eq_true rfl) ?_
  intro p e s m args below meth c D A G ls C hr htab hcC hl hW hS hw
  exact s_L_set C hr htab hcC hll post v0 v1 v2 v3 v4 _ _ _ _ hW hS hl hw

/-! X3_set -/
def wz_X3_set : List Cond := Cond.code yX3_set cX3_set 5 (some .int) :: w0
section Z_X3_set
variable {p : Program} {l : Launch} {e : Env} {s : State} {m : MethodId} {args : Array Value} {below : List Frame} {meth : Method} {c : Code} {D : va_G} {A : Nat → Prop}
set_option maxHeartbeats 4000000 in
set_option maxRecDepth 100000 in
theorem s_X3_set {K : tK} (C : tc_B p l s m args meth c D K A wz_X3_set RX3 cX3_set 5) (hr : meth.sig.returnType = (some .int)) (hll : l.stackTraces = false)  (post : Int32 → tG → Prop) (v0 : Option Nat) (v1 : Int32) (v2 : Int32) (v3 : Int32) : ∀ (G : tG) (H : Heap) (locs : List Loc) (ls : Array Slot), tg_W D A s H G → va_S A s.heap H locs → tl ls 5 [(0, .inr (.inr v0)), (1, .inl v1), (2, .inl v2), (3, .inl v3)] → w_X3_set K post v0 v1 v2 v3 G → W p l e ({ frames := 3, cells := 0, slots := 0, locals := 65 } : Room) s m args below meth c H locs 0 0 (MQ below (tc_Qc D A (retI post)) args s 0 0 A) (F0 m 0 ls []) := by
  intro G H locs ls hW hS hl hw
  unfold w_X3_set at hw
  refine tr_aload_n (k := 0) (x := v0) C hl 0 rfl dX3_set_0 ?_
  refine tr_aload_n (k := 0) (x := v0) C hl 0 rfl dX3_set_1 ?_
  refine tr_iload_n (k := 1) (x := v1) C hl 1 rfl dX3_set_2 ?_
  refine tr_iload_n (k := 2) (x := v2) C hl 2 rfl dX3_set_3 ?_
  refine tr_backI (tr_runV (r := v0) (As := [.int v1, .int v2]) C hl.1 (c_X3_isNoPlace l hll K _ v0 v1 v2) (cwV 2 C.1.2.2.2.2 (gi_V (zm kw_219) (zm kw_220) (zm kw_221) (zm kw_155) (zm kw_218)) rfl rfl rfl (by decide +kernel) ⟨(Nat.le_of_ble_eq_true rfl), (Nat.le_of_ble_eq_true rfl)⟩) rfl rfl dX3_set_4 ⟨(Nat.le_of_ble_eq_true rfl), (Nat.le_of_ble_eq_true rfl)⟩ [.inr (.inr v0)] rfl (Nat.le_of_ble_eq_true rfl) rfl hW hS hw) hS (fun x_4 G_4 H locs hw hW hS => ?_)
  refine tr_iload_n (k := 3) (x := v3) C hl 3 rfl dX3_set_7 ?_
  refine tr_backI (tr_runS (As := [.int v3]) C hl.1 (c_X3_isNoValue l hll K _ v3) (va_cwS 1 C.1.2.2.2.2 (gi_S (zm kw_276) (zm kw_277) (zm kw_155) (zm kw_275)) rfl rfl rfl (by decide +kernel) ⟨(Nat.le_of_ble_eq_true rfl), (Nat.le_of_ble_eq_true rfl)⟩) rfl dX3_set_8 ⟨(Nat.le_of_ble_eq_true rfl), (Nat.le_of_ble_eq_true rfl)⟩ [.inl x_4, .inr (.inr v0)] rfl (Nat.le_of_ble_eq_true rfl) rfl hW hS hw) hS (fun x_8 G_8 H locs hw hW hS => ?_)
  refine tr_backI (tr_runV (r := v0) (As := [.int x_4, .int x_8]) C hl.1 (c_X3_fails l hll K _ v0 x_4 x_8) (cwV 2 C.1.2.2.2.2 (gi_V (zm kw_190) (zm kw_191) (zm kw_192) (zm kw_155) (zm kw_189)) rfl rfl rfl (by decide +kernel) ⟨(Nat.le_of_ble_eq_true rfl), (Nat.le_of_ble_eq_true rfl)⟩) rfl rfl dX3_set_11 ⟨(Nat.le_of_ble_eq_true rfl), (Nat.le_of_ble_eq_true rfl)⟩ [] rfl (Nat.le_of_ble_eq_true rfl) rfl hW hS hw) hS (fun x_11 G_11 H locs hw hW hS => ?_)
  refine lv_if_eq (tgt := 19) C.1.1 C.1.2.1 dX3_set_14 (by decide) (fun hc => ?_) (fun hc => ?_)
  · have hw := hw.1 hc
    refine tr_aload_n (k := 0) (x := v0) C hl 0 rfl dX3_set_19 ?_
    refine tr_iload_n (k := 1) (x := v1) C hl 1 rfl dX3_set_20 ?_
    refine tr_iload_n (k := 2) (x := v2) C hl 2 rfl dX3_set_21 ?_
    refine tr_backI (tr_runV (r := v0) (As := [.int v1, .int v2]) C hl.1 (c_X3_value l hll K _ v0 v1 v2) (cwV 2 C.1.2.2.2.2 (gi_V (zm kw_152) (zm kw_153) (zm kw_154) (zm kw_155) (zm kw_151)) rfl rfl rfl (by decide +kernel) ⟨(Nat.le_of_ble_eq_true rfl), (Nat.le_of_ble_eq_true rfl)⟩) rfl rfl dX3_set_22 ⟨(Nat.le_of_ble_eq_true rfl), (Nat.le_of_ble_eq_true rfl)⟩ [] rfl (Nat.le_of_ble_eq_true rfl) rfl hW hS hw) hS (fun x_22 G_22 H locs hw hW hS => ?_)
    refine tr_istore (x := x_22) C hl [(4, .inl x_22), (0, .inr (.inr v0)), (1, .inl v1), (2, .inl v2), (3, .inl v3)] (by decide) rfl dX3_set_25 (fun ls hl => ?_)
    refine tr_aload_n (k := 0) (x := v0) C hl 1 rfl dX3_set_27 ?_
    refine tr_iload_n (k := 1) (x := v1) C hl 2 rfl dX3_set_28 ?_
    refine tr_iload_n (k := 2) (x := v2) C hl 3 rfl dX3_set_29 ?_
    refine tr_iload_n (k := 3) (x := v3) C hl 4 rfl dX3_set_30 ?_
    refine tr_backV (tr_runV (r := v0) (As := [.int v1, .int v2, .int v3]) C hl.1 (c_X3_write l hll K _ v0 v1 v2 v3) (cwV 3 C.1.2.2.2.2 (gi_V (zm kw_308) (zm kw_309) (zm kw_310) (zm kw_155) (zm kw_307)) rfl rfl rfl (by decide +kernel) ⟨(Nat.le_of_ble_eq_true rfl), (Nat.le_of_ble_eq_true rfl)⟩) rfl rfl dX3_set_31 ⟨(Nat.le_of_ble_eq_true rfl), (Nat.le_of_ble_eq_true rfl)⟩ [] rfl (Nat.le_of_ble_eq_true rfl) rfl hW hS hw) hS (fun G_31 H locs hw hW hS => ?_)
    refine tr_iload (x := x_22) C hl 0 rfl dX3_set_34 ?_
    exact tr_iret C hr dX3_set_36 (Nat.le_of_ble_eq_true rfl) (Nat.le_of_ble_eq_true rfl) hW hS hw
  · have hw := hw.2 hc
    refine lv_iconst (v := (0 : Int32)) C.1.1 C.1.2.1 dX3_set_17 (by decide) ?_
    exact tr_iret C hr dX3_set_18 (Nat.le_of_ble_eq_true rfl) (Nat.le_of_ble_eq_true rfl) hW hS hw
end Z_X3_set
set_option maxHeartbeats 4000000 in
set_option maxRecDepth 100000 in
theorem c_X3_set (l : Launch) (hll : l.stackTraces = false) (K : tK) (post : Int32 → tG → Prop) (v0 : Option Nat) (v1 : Int32) (v2 : Int32) (v3 : Int32) : Ct l yX3_set wz_X3_set ({ frames := 3, cells := 0, slots := 0, locals := 65 } : Room) 0 0 [va_rf v0, .int v1, .int v2, .int v3] K (retI post) (fun G => w_X3_set K post v0 v1 v2 v3 G) := by
  refine tc_of (cc := cX3_set) (maxL := 5) (ret := (some .int)) (own := RX3) (plainFor_of_name (by decide)) rfl rfl hll [.inr (.inr v0), .inl v1, .inl v2, .inl v3] rfl (Nat.le_of_ble_eq_true rfl) ?_
  intro p e s m args below meth c D A G ls C hr hn ht hl hW hS hw
  exact s_X3_set C hr hll post v0 v1 v2 v3 _ _ _ _ hW hS hl hw

/-! X1_checkPart -/
def wz_X1_checkPart : List Cond := Cond.code yX1_checkPart cX1_checkPart 1 none :: w0
section Z_X1_checkPart
variable {p : Program} {l : Launch} {e : Env} {s : State} {m : MethodId} {args : Array Value} {below : List Frame} {meth : Method} {c : Code} {D : va_G} {A : Nat → Prop}
set_option maxHeartbeats 4000000 in
set_option maxRecDepth 100000 in
theorem s_X1_checkPart_11 {K : tK} (C : tc_B p l s m args meth c D K A wz_X1_checkPart RX1 cX1_checkPart 1) (hr : meth.sig.returnType = none) (ht : ∀ x ∈ c.exceptionTable.toList, False) (hll : l.stackTraces = false)  (post : tG → Prop) (postX : String → tG → Prop) : ∀ (G : tG) (H : Heap) (locs : List Loc) (ls : Array Slot), tg_W D A s H G → va_S A s.heap H locs → tl ls 1 [] → w_X1_checkPart_11 K post postX G → W p l e ({ frames := 6, cells := 1, slots := 6, locals := 82 } : Room) s m args below meth c H locs 0 0 (vx_MQ below (tc_Qc D A (retV post)) (tc_XC D A postX) args s 1 6 A) (F0 m 11 ls []) := by
  intro G H locs ls hW hS hl hw
  unfold w_X1_checkPart_11 at hw
  exact tx_throw (cls := "java/lang/IndexOutOfBoundsException") (text := "there is no such part") (names := ["java/lang/RuntimeException", "java/lang/Exception"]) (cn := 2) C hl.1 ht (by decide +kernel) (by decide +kernel) (zm kw_91) (zm kw_92) (by decide) (zh at_RX1_192) (by decide +kernel) (tc_kx C).2.2.1 (by decide +kernel) dX1_checkPart_11 dX1_checkPart_14 dX1_checkPart_15 dX1_checkPart_17 dX1_checkPart_20 (Nat.le_of_ble_eq_true rfl) (Nat.le_of_ble_eq_true rfl) (Nat.le_of_ble_eq_true rfl) (Nat.le_of_ble_eq_true rfl) (Nat.le_of_ble_eq_true rfl) (Nat.le_of_ble_eq_true rfl) hW hS hw
set_option maxHeartbeats 4000000 in
set_option maxRecDepth 100000 in
theorem s_X1_checkPart {K : tK} (C : tc_B p l s m args meth c D K A wz_X1_checkPart RX1 cX1_checkPart 1) (hr : meth.sig.returnType = none) (ht : ∀ x ∈ c.exceptionTable.toList, False) (hll : l.stackTraces = false)  (post : tG → Prop) (postX : String → tG → Prop) (v0 : Int32) : ∀ (G : tG) (H : Heap) (locs : List Loc) (ls : Array Slot), tg_W D A s H G → va_S A s.heap H locs → tl ls 1 [(0, .inl v0)] → w_X1_checkPart K post postX v0 G → W p l e ({ frames := 6, cells := 1, slots := 6, locals := 82 } : Room) s m args below meth c H locs 0 0 (vx_MQ below (tc_Qc D A (retV post)) (tc_XC D A postX) args s 1 6 A) (F0 m 0 ls []) := by
  intro G H locs ls hW hS hl hw
  unfold w_X1_checkPart at hw
  refine tr_iload_n (k := 0) (x := v0) C hl 0 rfl dX1_checkPart_0 ?_
  refine lv_iconst (v := (3 : Int32)) C.1.1 C.1.2.1 dX1_checkPart_1 (by decide) ?_
  refine lv_icmp_lt (tgt := 11) C.1.1 C.1.2.1 dX1_checkPart_2 (by decide) (fun hc => ?_) (fun hc => ?_)
  · have hw := hw.1 hc
    exact s_X1_checkPart_11 C hr ht hll post postX _ _ _ _ hW hS (tl_sub hl [] rfl) hw
  · have hw := hw.2 hc
    refine tr_iload_n (k := 0) (x := v0) C hl 0 rfl dX1_checkPart_5 ?_
    refine lv_bipush (v := (7 : Int32)) C.1.1 C.1.2.1 dX1_checkPart_6 (by decide) ?_
    refine lv_icmp_lt (tgt := 21) C.1.1 C.1.2.1 dX1_checkPart_8 (by decide) (fun hc => ?_) (fun hc => ?_)
    · have hw := hw.1 hc
      exact vx_ret (tr_vret C hr dX1_checkPart_21 (Nat.le_of_ble_eq_true rfl) (Nat.le_of_ble_eq_true rfl) hW hS hw)
    · have hw := hw.2 hc
      exact s_X1_checkPart_11 C hr ht hll post postX _ _ _ _ hW hS (tl_sub hl [] rfl) hw
end Z_X1_checkPart
set_option maxHeartbeats 4000000 in
set_option maxRecDepth 100000 in
theorem c_X1_checkPart (l : Launch) (hll : l.stackTraces = false) (K : tK) (post : tG → Prop) (postX : String → tG → Prop) (v0 : Int32) : Cx l yX1_checkPart wz_X1_checkPart ({ frames := 6, cells := 1, slots := 6, locals := 82 } : Room) 1 6 [.int v0] K (retV post) postX (fun G => w_X1_checkPart K post postX v0 G) := by
  refine tx_of (cc := cX1_checkPart) (maxL := 1) (ret := none) (own := RX1) (by decide) rfl rfl hll [.inl v0] rfl (Nat.le_of_ble_eq_true rfl) ?_
  intro p e s m args below meth c D A G ls C hr hn ht hl hW hS hw
  exact s_X1_checkPart C hr ht hll post postX v0 _ _ _ _ hW hS hl hw

/-! X0_pieceOf -/
def wz_X0_pieceOf : List Cond := Cond.code yX0_pieceOf cX0_pieceOf 3 (some (.object "Twinrow$RowList")) :: w0
section Z_X0_pieceOf
variable {p : Program} {l : Launch} {e : Env} {s : State} {m : MethodId} {args : Array Value} {below : List Frame} {meth : Method} {c : Code} {D : va_G} {A : Nat → Prop}
set_option maxHeartbeats 4000000 in
set_option maxRecDepth 100000 in
theorem s_X0_pieceOf {K : tK} (C : tc_B p l s m args meth c D K A wz_X0_pieceOf RX0 cX0_pieceOf 3) (hr : meth.sig.returnType = (some (.object "Twinrow$RowList"))) (hll : l.stackTraces = false)  (post : Option Nat → tG → Prop) (v0 : Option Nat) (v1 : Int32) (v2 : Int32) : ∀ (G : tG) (H : Heap) (locs : List Loc) (ls : Array Slot), tg_W D A s H G → va_S A s.heap H locs → tl ls 3 [(0, .inr (.inr v0)), (1, .inl v1), (2, .inl v2)] → w_X0_pieceOf K post v0 v1 v2 G → W p l e ({ frames := 2, cells := 1, slots := 4, locals := 36 } : Room) s m args below meth c H locs 0 0 (MQ below (tc_Qc D A (retR post)) args s 1 4 A) (F0 m 0 ls []) := by
  intro G H locs ls hW hS hl hw
  unfold w_X0_pieceOf at hw
  refine tr_new (C0 := RX0) (T := TX0) (N := 4) (ci := 2) (fs := [.int 0, .null, .int 0, .int 0]) C (zh hw_X0) tyX0 tyX0_ok (zm kw_639) (zm kw_9) (zm kw_10) rfl df_X0 (Nat.le_of_ble_eq_true rfl) (Nat.le_of_ble_eq_true rfl) dX0_pieceOf_0 hW hS hw (fun r_0 G_0 H hw hW hS => ?_)
  refine lv_dup C.1.1 C.1.2.1 dX0_pieceOf_3 (va_rf_cat _) ?_
  refine tr_aload_n (k := 0) (x := v0) C hl 0 rfl dX0_pieceOf_4 ?_
  refine tr_gfI (C0 := RX0) (T := TX0) (N := 4) (ci := 2) (ref := "Twinrow$RowList") (k := 0) (r := v0) C (zh hw_X0) rfl (by decide) (zm kw_3) rfl dX0_pieceOf_5 hW hw (fun x_5 hw => ?_)
  refine tr_aload_n (k := 0) (x := v0) C hl 0 rfl dX0_pieceOf_8 ?_
  refine tr_gfR (C0 := RX0) (T := TX0) (N := 4) (ci := 2) (ref := "Twinrow$RowList") (k := 1) (r := v0) C (zh hw_X0) rfl (by decide) (zm kw_4) rfl dX0_pieceOf_9 hW hw (fun x_9 hw => ?_)
  refine tr_aload_n (k := 0) (x := v0) C hl 0 rfl dX0_pieceOf_12 ?_
  refine tr_gfI (C0 := RX0) (T := TX0) (N := 4) (ci := 2) (ref := "Twinrow$RowList") (k := 2) (r := v0) C (zh hw_X0) rfl (by decide) (zm kw_5) rfl dX0_pieceOf_13 hW hw (fun x_13 hw => ?_)
  refine tr_iload_n (k := 1) (x := v1) C hl 1 rfl dX0_pieceOf_16 ?_
  refine lv_iadd C.1.1 C.1.2.1 dX0_pieceOf_17 ?_
  refine tr_iload_n (k := 2) (x := v2) C hl 2 rfl dX0_pieceOf_18 ?_
  refine tr_iload_n (k := 1) (x := v1) C hl 1 rfl dX0_pieceOf_19 ?_
  refine lv_isub C.1.1 C.1.2.1 dX0_pieceOf_20 ?_
  refine tr_backV (tr_runI (r := r_0) (As := [.int x_5, va_rf x_9, .int ((x_13 + v1)), .int ((v2 - v1))]) C hl.1 (c_X0_init l hll K _ r_0 x_5 x_9 ((x_13 + v1)) ((v2 - v1))) (cwI 4 C.1.2.2.2.2 (gi_I  (zm kw_12)) rfl rfl rfl (C.1.2.2.2.2 _ (zm kw_10)) (C.1.2.2.2.2 _ (zm kw_640)) (C.1.2.2.2.2 _ (zm kw_14)) rfl (by decide +kernel) ⟨(Nat.le_of_ble_eq_true rfl), (Nat.le_of_ble_eq_true rfl)⟩) rfl dX0_pieceOf_21 ⟨(Nat.le_of_ble_eq_true rfl), (Nat.le_of_ble_eq_true rfl)⟩ [.inr (.inr r_0)] rfl (Nat.le_of_ble_eq_true rfl) rfl hW hS hw) hS (fun G_21 H locs hw hW hS => ?_)
  exact tr_aret (x := r_0) C hr (Or.inl ⟨_, rfl⟩) dX0_pieceOf_24 (Nat.le_of_ble_eq_true rfl) (Nat.le_of_ble_eq_true rfl) hW hS hw
end Z_X0_pieceOf
set_option maxHeartbeats 4000000 in
set_option maxRecDepth 100000 in
theorem c_X0_pieceOf (l : Launch) (hll : l.stackTraces = false) (K : tK) (post : Option Nat → tG → Prop) (v0 : Option Nat) (v1 : Int32) (v2 : Int32) : Ct l yX0_pieceOf wz_X0_pieceOf ({ frames := 2, cells := 1, slots := 4, locals := 36 } : Room) 1 4 [va_rf v0, .int v1, .int v2] K (retR post) (fun G => w_X0_pieceOf K post v0 v1 v2 G) := by
  refine tc_of (cc := cX0_pieceOf) (maxL := 3) (ret := (some (.object "Twinrow$RowList"))) (own := RX0) (plainFor_of_name (by decide)) rfl rfl hll [.inr (.inr v0), .inl v1, .inl v2] rfl (Nat.le_of_ble_eq_true rfl) ?_
  intro p e s m args below meth c D A G ls C hr hn ht hl hW hS hw
  exact s_X0_pieceOf C hr hll post v0 v1 v2 _ _ _ _ hW hS hl hw

/-! X1_part -/
def wz_X1_part : List Cond := Cond.code yX1_part cX1_part 7 (some .int) :: w0
section Z_X1_part
variable {p : Program} {l : Launch} {e : Env} {s : State} {m : MethodId} {args : Array Value} {below : List Frame} {meth : Method} {c : Code} {D : va_G} {A : Nat → Prop}
set_option maxHeartbeats 4000000 in
set_option maxRecDepth 100000 in
theorem s_X1_part {K : tK} (C : tc_B p l s m args meth c D K A wz_X1_part RX1 cX1_part 7) (hr : meth.sig.returnType = (some .int)) (ht : ∀ x ∈ c.exceptionTable.toList, False) (hll : l.stackTraces = false)  (post : Int32 → tG → Prop) (postX : String → tG → Prop) (v0 : Option Nat) (v1 : Int32) (v2 : Int32) (v3 : Int32) (v4 : Int32) : ∀ (G : tG) (H : Heap) (locs : List Loc) (ls : Array Slot), tg_W D A s H G → va_S A s.heap H locs → tl ls 7 [(0, .inr (.inr v0)), (1, .inl v1), (2, .inl v2), (3, .inl v3), (4, .inl v4)] → w_X1_part K post postX v0 v1 v2 v3 v4 G → W p l e ({ frames := 7, cells := 5, slots := 28, locals := 104 } : Room) s m args below meth c H locs 0 0 (vx_MQ below (tc_Qc D A (retI post)) (tc_XC D A postX) args s 5 28 A) (F0 m 0 ls []) := by
  intro G H locs ls hW hS hl hw
  unfold w_X1_part at hw
  refine tr_iload_n (k := 1) (x := v1) C hl 1 rfl dX1_part_0 ?_
  refine tx_backV (tx_runS (As := [.int v1]) C hl.1 (c_X1_checkPart l hll K _ _ v1) (va_cwS 1 C.1.2.2.2.2 (gi_S (zm kw_642) (zm kw_643) (zm kw_33) (zm kw_641)) rfl rfl rfl (by decide +kernel) ⟨(Nat.le_of_ble_eq_true rfl), (Nat.le_of_ble_eq_true rfl)⟩) rfl dX1_part_1 ⟨(Nat.le_of_ble_eq_true rfl), (Nat.le_of_ble_eq_true rfl)⟩ [] rfl (Nat.le_of_ble_eq_true rfl) rfl hW hS hw) hS C.2.1 ht (Nat.le_of_ble_eq_true rfl) (Nat.le_of_ble_eq_true rfl) (fun G_1 H locs hw hW hS => ?_)
  refine tr_aload_n (k := 0) (x := v0) C hl 0 rfl dX1_part_4 ?_
  refine tr_iload_n (k := 2) (x := v2) C hl 2 rfl dX1_part_5 ?_
  refine tx_backR (tx_runV (r := v0) (As := [.int v2]) C hl.1 (c_X1_listAt l hll K _ _ v0 v2) (cwV 1 C.1.2.2.2.2 (gi_V (zm kw_94) (zm kw_95) (zm kw_96) (zm kw_33) (zm kw_93)) rfl rfl rfl (by decide +kernel) ⟨(Nat.le_of_ble_eq_true rfl), (Nat.le_of_ble_eq_true rfl)⟩) rfl rfl dX1_part_6 ⟨(Nat.le_of_ble_eq_true rfl), (Nat.le_of_ble_eq_true rfl)⟩ [] rfl (Nat.le_of_ble_eq_true rfl) rfl hW hS hw) hS C.2.1 ht (Nat.le_of_ble_eq_true rfl) (Nat.le_of_ble_eq_true rfl) (fun x_6 G_6 H locs hw hW hS => ?_)
  refine tr_astore (x := x_6) C hl [(5, .inr (.inr x_6)), (0, .inr (.inr v0)), (1, .inl v1), (2, .inl v2), (3, .inl v3), (4, .inl v4)] (by decide) rfl dX1_part_9 (fun ls hl => ?_)
  refine tr_iload (x := v4) C hl 5 rfl dX1_part_11 ?_
  refine lv_iconst (v := (0 : Int32)) C.1.1 C.1.2.1 dX1_part_13 (by decide) ?_
  refine tr_aload (x := x_6) C hl 0 rfl dX1_part_14 ?_
  refine tr_gfI (C0 := RX0) (T := TX0) (N := 4) (ci := 2) (ref := "Twinrow$RowList") (k := 3) (r := x_6) C (zh hw_X0) rfl (by decide) (zm kw_34) rfl dX1_part_16 hW hw (fun x_16 hw => ?_)
  refine tx_backV (tx_runS (As := [.int v4, .int ((0 : Int32)), .int x_16]) C hl.1 (c_X1_checkNumber l hll K _ _ v4 ((0 : Int32)) x_16) (va_cwS 3 C.1.2.2.2.2 (gi_S (zm kw_89) (zm kw_90) (zm kw_33) (zm kw_88)) rfl rfl rfl (by decide +kernel) ⟨(Nat.le_of_ble_eq_true rfl), (Nat.le_of_ble_eq_true rfl)⟩) rfl dX1_part_19 ⟨(Nat.le_of_ble_eq_true rfl), (Nat.le_of_ble_eq_true rfl)⟩ [] rfl (Nat.le_of_ble_eq_true rfl) rfl hW hS hw) hS C.2.1 ht (Nat.le_of_ble_eq_true rfl) (Nat.le_of_ble_eq_true rfl) (fun G_19 H locs hw hW hS => ?_)
  refine tr_iload_n (k := 3) (x := v3) C hl 4 rfl dX1_part_22 ?_
  refine lv_iconst (v := (0 : Int32)) C.1.1 C.1.2.1 dX1_part_23 (by decide) ?_
  refine tr_iload (x := v4) C hl 5 rfl dX1_part_24 ?_
  refine tx_backV (tx_runS (As := [.int v3, .int ((0 : Int32)), .int v4]) C hl.1 (c_X1_checkNumber l hll K _ _ v3 ((0 : Int32)) v4) (va_cwS 3 C.1.2.2.2.2 (gi_S (zm kw_89) (zm kw_90) (zm kw_33) (zm kw_88)) rfl rfl rfl (by decide +kernel) ⟨(Nat.le_of_ble_eq_true rfl), (Nat.le_of_ble_eq_true rfl)⟩) rfl dX1_part_26 ⟨(Nat.le_of_ble_eq_true rfl), (Nat.le_of_ble_eq_true rfl)⟩ [] rfl (Nat.le_of_ble_eq_true rfl) rfl hW hS hw) hS C.2.1 ht (Nat.le_of_ble_eq_true rfl) (Nat.le_of_ble_eq_true rfl) (fun G_26 H locs hw hW hS => ?_)
  refine tr_aload (x := x_6) C hl 0 rfl dX1_part_29 ?_
  refine tr_iload_n (k := 3) (x := v3) C hl 4 rfl dX1_part_31 ?_
  refine tr_iload (x := v4) C hl 5 rfl dX1_part_32 ?_
  refine tr_backR (tr_runV (r := x_6) (As := [.int v3, .int v4]) C hl.1 (c_X0_pieceOf l hll K _ x_6 v3 v4) (cwV 2 C.1.2.2.2.2 (gi_V (zm kw_645) (zm kw_646) (zm kw_647) (zm kw_10) (zm kw_644)) rfl rfl rfl (by decide +kernel) ⟨(Nat.le_of_ble_eq_true rfl), (Nat.le_of_ble_eq_true rfl)⟩) rfl rfl dX1_part_34 ⟨(Nat.le_of_ble_eq_true rfl), (Nat.le_of_ble_eq_true rfl)⟩ [] rfl (Nat.le_of_ble_eq_true rfl) rfl hW hS hw) hS (fun x_34 G_34 H locs hw hW hS => ?_)
  refine tr_astore (x := x_34) C hl [(6, .inr (.inr x_34)), (5, .inr (.inr x_6)), (0, .inr (.inr v0)), (1, .inl v1), (2, .inl v2), (3, .inl v3), (4, .inl v4)] (by decide) rfl dX1_part_37 (fun ls hl => ?_)
  refine tr_aload_n (k := 0) (x := v0) C hl 2 rfl dX1_part_39 ?_
  refine tr_gfR (C0 := RX1) (T := TX1) (N := 4) (ci := 3) (ref := "Twinrow") (k := 0) (r := v0) C (zh hw_X1) rfl (by decide) (zm kw_7) rfl dX1_part_40 hW hw (fun x_40 hw => ?_)
  refine tr_iload_n (k := 1) (x := v1) C hl 3 rfl dX1_part_43 ?_
  refine tr_aload (x := x_34) C hl 0 rfl dX1_part_44 ?_
  refine tr_asR (C0 := "Twinrow$RowList") (r := x_40) (v := x_34) C dX1_part_46 hW hS rfl hw (fun G_46 H locs hw hW hS => ?_)
  refine tr_aload (x := x_34) C hl 0 rfl dX1_part_47 ?_
  refine tr_gfI (C0 := RX0) (T := TX0) (N := 4) (ci := 2) (ref := "Twinrow$RowList") (k := 3) (r := x_34) C (zh hw_X0) rfl (by decide) (zm kw_34) rfl dX1_part_49 hW hw (fun x_49 hw => ?_)
  exact vx_ret (tr_iret C hr dX1_part_52 (Nat.le_of_ble_eq_true rfl) (Nat.le_of_ble_eq_true rfl) hW hS hw)
end Z_X1_part
set_option maxHeartbeats 4000000 in
set_option maxRecDepth 100000 in
theorem c_X1_part (l : Launch) (hll : l.stackTraces = false) (K : tK) (post : Int32 → tG → Prop) (postX : String → tG → Prop) (v0 : Option Nat) (v1 : Int32) (v2 : Int32) (v3 : Int32) (v4 : Int32) : Cx l yX1_part wz_X1_part ({ frames := 7, cells := 5, slots := 28, locals := 104 } : Room) 5 28 [va_rf v0, .int v1, .int v2, .int v3, .int v4] K (retI post) postX (fun G => w_X1_part K post postX v0 v1 v2 v3 v4 G) := by
  refine tx_of (cc := cX1_part) (maxL := 7) (ret := (some .int)) (own := RX1) (by decide) rfl rfl hll [.inr (.inr v0), .inl v1, .inl v2, .inl v3, .inl v4] rfl (Nat.le_of_ble_eq_true rfl) ?_
  intro p e s m args below meth c D A G ls C hr hn ht hl hW hS hw
  exact s_X1_part C hr ht hll post postX v0 v1 v2 v3 v4 _ _ _ _ hW hS hl hw

/-! L_part -/
def wz_L_part : List Cond := Cond.codeWith yL_part cL_part 7 (some .int) [(0, 15, 18, 19), (0, 15, 22, 21)] :: w0
section Z_L_part
variable {p : Program} {l : Launch} {e : Env} {s : State} {m : MethodId} {args : Array Value} {below : List Frame} {meth : Method} {c : Code} {D : va_G} {A : Nat → Prop}
set_option maxHeartbeats 4000000 in
set_option maxRecDepth 100000 in
theorem s_L_part {K : tK} (C : tc_B p l s m args meth c D K A wz_L_part RL cL_part 7) (hr : meth.sig.returnType = (some .int)) (htab : c.exceptionTable.toList = tableOf [(0, 15, 18, 19), (0, 15, 22, 21)]) (hcC : kx_C s) (hll : l.stackTraces = false)  (post : Int32 → tG → Prop) (v0 : Option Nat) (v1 : Int32) (v2 : Int32) (v3 : Int32) (v4 : Int32) (v5 : Option Nat) : ∀ (G : tG) (H : Heap) (locs : List Loc) (ls : Array Slot), tg_W D A s H G → va_S A s.heap H locs → tl ls 7 [(0, .inr (.inr v0)), (1, .inl v1), (2, .inl v2), (3, .inl v3), (4, .inl v4), (5, .inr (.inr v5))] → w_L_part K post v0 v1 v2 v3 v4 v5 G → W p l e ({ frames := 8, cells := 5, slots := 28, locals := 130 } : Room) s m args below meth c H locs 0 0 (vx_MQ below (tc_Qc D A (retI post)) (tc_XC D A (fun _ _ => False)) args s 5 28 A) (F0 m 0 ls []) := by
  intro G H locs ls hW hS hl hw
  unfold w_L_part at hw
  refine tr_aload (x := v5) C hl 5 rfl dL_part_0 ?_
  refine tr_aload_n (k := 0) (x := v0) C hl 0 rfl dL_part_2 ?_
  refine tr_iload_n (k := 1) (x := v1) C hl 1 rfl dL_part_3 ?_
  refine tr_iload_n (k := 2) (x := v2) C hl 2 rfl dL_part_4 ?_
  refine tr_iload_n (k := 3) (x := v3) C hl 3 rfl dL_part_5 ?_
  refine tr_iload (x := v4) C hl 4 rfl dL_part_6 ?_
  refine tx_backCI (tx_runV (r := v0) (As := [.int v1, .int v2, .int v3, .int v4]) C hl.1 (c_X1_part l hll K _ _ v0 v1 v2 v3 v4) (cwV 4 C.1.2.2.2.2 (gi_V (zm kw_649) (zm kw_650) (zm kw_651) (zm kw_33) (zm kw_648)) rfl rfl rfl (by decide +kernel) ⟨(Nat.le_of_ble_eq_true rfl), (Nat.le_of_ble_eq_true rfl)⟩) rfl rfl dL_part_8 ⟨(Nat.le_of_ble_eq_true rfl), (Nat.le_of_ble_eq_true rfl)⟩ [.inr (.inr v5)] rfl (Nat.le_of_ble_eq_true rfl) rfl hW hS hw) hS (fun E ce q9 GX H locs hw hW hS hce hcv hcl => ?_) (fun x_8 G_8 H locs hw hW hS => ?_)
  · by_cases hq0 : E = "java/lang/IndexOutOfBoundsException"
    · replace hw := hw.1 hq0
      subst hq0
      refine vx_catch (name := "java/lang/IndexOutOfBoundsException") C.1.2.2.2.1 [] (⟨0, 15, 18, 19⟩ : ExceptionTableEntry) [(⟨0, 15, 22, 21⟩ : ExceptionTableEntry)] (by rw [htab]; rfl) (fun z hz => nomatch hz) (by decide) (by decide) (C.1.2.2.2.2 _ (zm kw_209)) hcC.2.2.1 hce hcv hcl ?_
      refine tr_astore (x := (some q9)) C hl [(6, .inr (.inr (some q9))), (0, .inr (.inr v0)), (1, .inl v1), (2, .inl v2), (3, .inl v3), (4, .inl v4), (5, .inr (.inr v5))] (by decide) rfl dL_part_18 (fun ls hl => ?_)
      refine lv_iconst (v := (1 : Int32)) C.1.1 C.1.2.1 dL_part_20 (by decide) ?_
      exact vx_ret (tr_iret C hr dL_part_21 (Nat.le_of_ble_eq_true rfl) (Nat.le_of_ble_eq_true rfl) hW hS hw)
    replace hw := hw.2 hq0
    by_cases hq1 : E = "java/lang/IllegalArgumentException"
    · replace hw := hw.1 hq1
      subst hq1
      refine vx_catch (name := "java/lang/IllegalArgumentException") C.1.2.2.2.1 [(⟨0, 15, 18, 19⟩ : ExceptionTableEntry)] (⟨0, 15, 22, 21⟩ : ExceptionTableEntry) [] (by rw [htab]; rfl) (kx_pass1 C hcC rfl (by decide) (zm kw_209)) (by decide) (by decide) (C.1.2.2.2.2 _ (zm kw_188)) hcC.2.2.2.1 hce hcv hcl ?_
      refine tr_astore (x := (some q9)) C hl [(6, .inr (.inr (some q9))), (0, .inr (.inr v0)), (1, .inl v1), (2, .inl v2), (3, .inl v3), (4, .inl v4), (5, .inr (.inr v5))] (by decide) rfl dL_part_22 (fun ls hl => ?_)
      refine lv_iconst (v := (2 : Int32)) C.1.1 C.1.2.1 dL_part_24 (by decide) ?_
      exact vx_ret (tr_iret C hr dL_part_25 (Nat.le_of_ble_eq_true rfl) (Nat.le_of_ble_eq_true rfl) hW hS hw)
    replace hw := hw.2 hq1
    exact hw.elim
  · refine lv_i2l (v := ((x_8).toInt64)) C.1.1 C.1.2.1 dL_part_11 rfl ?_
    refine tr_pfN (C0 := RX2) (T := TX2) (N := 2) (ci := 4) (ref := "TwinrowLaw$Out") (host := "TwinrowLaw") (k := 0) (ty := .long) (v := .long (((x_8).toInt64))) (r := v5) C (zh hw_X2) tyX2 tyX2_ok nmX2 rfl (by decide) hcC.1 rfl rfl (by decide +kernel) rfl rfl dL_part_12 hW hS hw (fun G_12 H locs hw hW hS => ?_)
    refine lv_goto (tgt := 26) C.1.1 C.1.2.1 dL_part_15 (by decide) ?_
    refine lv_iconst (v := (0 : Int32)) C.1.1 C.1.2.1 dL_part_26 (by decide) ?_
    exact vx_ret (tr_iret C hr dL_part_27 (Nat.le_of_ble_eq_true rfl) (Nat.le_of_ble_eq_true rfl) hW hS hw)
end Z_L_part
set_option maxHeartbeats 4000000 in
set_option maxRecDepth 100000 in
theorem c_L_part (l : Launch) (hll : l.stackTraces = false) (K : tK) (post : Int32 → tG → Prop) (v0 : Option Nat) (v1 : Int32) (v2 : Int32) (v3 : Int32) (v4 : Int32) (v5 : Option Nat) : Cx l yL_part wz_L_part ({ frames := 8, cells := 5, slots := 28, locals := 130 } : Room) 5 28 [va_rf v0, .int v1, .int v2, .int v3, .int v4, va_rf v5] K (retI post) (fun _ _ => False) (fun G => w_L_part K post v0 v1 v2 v3 v4 v5 G) := by
  refine tx_ofH (cc := cL_part) (maxL := 7) (ret := (some .int)) (own := RL) (hh := [(0, 15, 18, 19), (0, 15, 22, 21)]) (by decide) rfl rfl hll [.inr (.inr v0), .inl v1, .inl v2, .inl v3, .inl v4, .inr (.inr v5)] rfl (Nat.le_of_ble_eq_true rfl) ?_
  intro p e s m args below meth c D A G ls C hr htab hcC hl hW hS hw
  exact s_L_part C hr htab hcC hll post v0 v1 v2 v3 v4 v5 _ _ _ _ hW hS hl hw

/-! X3_part -/
def wz_X3_part : List Cond := Cond.code yX3_part cX3_part 8 (some .int) :: w0
section Z_X3_part
variable {p : Program} {l : Launch} {e : Env} {s : State} {m : MethodId} {args : Array Value} {below : List Frame} {meth : Method} {c : Code} {D : va_G} {A : Nat → Prop}
set_option maxHeartbeats 4000000 in
set_option maxRecDepth 100000 in
theorem s_X3_part_67 {K : tK} (C : tc_B p l s m args meth c D K A wz_X3_part RX3 cX3_part 8) (hr : meth.sig.returnType = (some .int)) (hll : l.stackTraces = false)  (post : Int32 → tG → Prop) : ∀ (v0 : Option Nat) (v1 : Int32) (v2 : Int32) (v3 : Int32) (v4 : Int32) (u0 : Option Nat) (u1 : Int32) (u2 : Int32) (G : tG) (H : Heap) (locs : List Loc) (ls : Array Slot), tg_W D A s H G → va_S A s.heap H locs → tl ls 8 [(0, .inr (.inr v0)), (1, .inl v1), (2, .inl v2), (3, .inl v3), (4, .inl v4)] → w_X3_part_67 K post v0 v1 v2 v3 v4 u0 u1 u2 G → W p l e ({ frames := 2, cells := 0, slots := 0, locals := 43 } : Room) s m args below meth c H locs 0 0 (MQ below (tc_Qc D A (retI post)) args s 0 0 A) (F0 m 67 ls [.int u2, .int u1, va_rf u0]) := by
  intro v0 v1 v2 v3 v4 u0 u1 u2 G H locs ls hW hS hl hw
  unfold w_X3_part_67 at hw
  refine tr_backI (tr_runV (r := u0) (As := [.int u1, .int u2]) C hl.1 (c_X3_fails l hll K _ u0 u1 u2) (cwV 2 C.1.2.2.2.2 (gi_V (zm kw_190) (zm kw_191) (zm kw_192) (zm kw_155) (zm kw_189)) rfl rfl rfl (by decide +kernel) ⟨(Nat.le_of_ble_eq_true rfl), (Nat.le_of_ble_eq_true rfl)⟩) rfl rfl dX3_part_67 ⟨(Nat.le_of_ble_eq_true rfl), (Nat.le_of_ble_eq_true rfl)⟩ [] rfl (Nat.le_of_ble_eq_true rfl) rfl hW hS hw) hS (fun x_67 G_67 H locs hw hW hS => ?_)
  refine lv_if_eq (tgt := 75) C.1.1 C.1.2.1 dX3_part_70 (by decide) (fun hc => ?_) (fun hc => ?_)
  · have hw := hw.1 hc
    refine tr_aload_n (k := 0) (x := v0) C hl 0 rfl dX3_part_75 ?_
    refine tr_gfR (C0 := RX3) (T := TX3) (N := 8) (ci := 5) (ref := "TwinrowModel") (k := 1) (r := v0) C (zh hw_X3) rfl (by decide) (zm kw_22) rfl dX3_part_76 hW hw (fun x_76 hw => ?_)
    refine tr_iload_n (k := 2) (x := v2) C hl 2 rfl dX3_part_79 ?_
    refine tr_alI (r := x_76) C dX3_part_80 hW hw (fun x_80 hw => ?_)
    refine tr_istore (x := x_80) C hl [(6, .inl x_80), (0, .inr (.inr v0)), (1, .inl v1), (2, .inl v2), (3, .inl v3), (4, .inl v4)] (by decide) rfl dX3_part_81 (fun ls hl => ?_)
    refine tr_aload_n (k := 0) (x := v0) C hl 1 rfl dX3_part_83 ?_
    refine tr_gfR (C0 := RX3) (T := TX3) (N := 8) (ci := 5) (ref := "TwinrowModel") (k := 2) (r := v0) C (zh hw_X3) rfl (by decide) (zm kw_23) rfl dX3_part_84 hW hw (fun x_84 hw => ?_)
    refine tr_iload_n (k := 2) (x := v2) C hl 3 rfl dX3_part_87 ?_
    refine tr_alI (r := x_84) C dX3_part_88 hW hw (fun x_88 hw => ?_)
    refine tr_iload_n (k := 3) (x := v3) C hl 4 rfl dX3_part_89 ?_
    refine lv_iadd C.1.1 C.1.2.1 dX3_part_90 ?_
    refine tr_istore (x := (x_88 + v3)) C hl [(7, .inl (x_88 + v3)), (6, .inl x_80), (0, .inr (.inr v0)), (1, .inl v1), (2, .inl v2), (3, .inl v3), (4, .inl v4)] (by decide) rfl dX3_part_91 (fun ls hl => ?_)
    refine tr_aload_n (k := 0) (x := v0) C hl 2 rfl dX3_part_93 ?_
    refine tr_gfR (C0 := RX3) (T := TX3) (N := 8) (ci := 5) (ref := "TwinrowModel") (k := 1) (r := v0) C (zh hw_X3) rfl (by decide) (zm kw_22) rfl dX3_part_94 hW hw (fun x_94 hw => ?_)
    refine tr_iload_n (k := 1) (x := v1) C hl 3 rfl dX3_part_97 ?_
    refine tr_iload (x := x_80) C hl 1 rfl dX3_part_98 ?_
    refine tr_asI (r := x_94) C dX3_part_100 hW hS hw (fun G_100 H locs hw hW hS => ?_)
    refine tr_aload_n (k := 0) (x := v0) C hl 2 rfl dX3_part_101 ?_
    refine tr_gfR (C0 := RX3) (T := TX3) (N := 8) (ci := 5) (ref := "TwinrowModel") (k := 2) (r := v0) C (zh hw_X3) rfl (by decide) (zm kw_23) rfl dX3_part_102 hW hw (fun x_102 hw => ?_)
    refine tr_iload_n (k := 1) (x := v1) C hl 3 rfl dX3_part_105 ?_
    refine tr_iload (x := (x_88 + v3)) C hl 0 rfl dX3_part_106 ?_
    refine tr_asI (r := x_102) C dX3_part_108 hW hS hw (fun G_108 H locs hw hW hS => ?_)
    refine tr_aload_n (k := 0) (x := v0) C hl 2 rfl dX3_part_109 ?_
    refine tr_gfR (C0 := RX3) (T := TX3) (N := 8) (ci := 5) (ref := "TwinrowModel") (k := 3) (r := v0) C (zh hw_X3) rfl (by decide) (zm kw_24) rfl dX3_part_110 hW hw (fun x_110 hw => ?_)
    refine tr_iload_n (k := 1) (x := v1) C hl 3 rfl dX3_part_113 ?_
    refine tr_iload (x := v4) C hl 6 rfl dX3_part_114 ?_
    refine tr_iload_n (k := 3) (x := v3) C hl 5 rfl dX3_part_116 ?_
    refine lv_isub C.1.1 C.1.2.1 dX3_part_117 ?_
    refine tr_asI (r := x_110) C dX3_part_118 hW hS hw (fun G_118 H locs hw hW hS => ?_)
    refine tr_iload (x := v4) C hl 6 rfl dX3_part_119 ?_
    refine tr_iload_n (k := 3) (x := v3) C hl 5 rfl dX3_part_121 ?_
    refine lv_isub C.1.1 C.1.2.1 dX3_part_122 ?_
    exact tr_iret C hr dX3_part_123 (Nat.le_of_ble_eq_true rfl) (Nat.le_of_ble_eq_true rfl) hW hS hw
  · have hw := hw.2 hc
    refine lv_iconst (v := (0 : Int32)) C.1.1 C.1.2.1 dX3_part_73 (by decide) ?_
    exact tr_iret C hr dX3_part_74 (Nat.le_of_ble_eq_true rfl) (Nat.le_of_ble_eq_true rfl) hW hS hw
set_option maxHeartbeats 4000000 in
set_option maxRecDepth 100000 in
theorem s_X3_part_62 {K : tK} (C : tc_B p l s m args meth c D K A wz_X3_part RX3 cX3_part 8) (hr : meth.sig.returnType = (some .int)) (hll : l.stackTraces = false)  (post : Int32 → tG → Prop) : ∀ (v0 : Option Nat) (v1 : Int32) (v2 : Int32) (v3 : Int32) (v4 : Int32) (u0 : Option Nat) (u1 : Int32) (G : tG) (H : Heap) (locs : List Loc) (ls : Array Slot), tg_W D A s H G → va_S A s.heap H locs → tl ls 8 [(0, .inr (.inr v0)), (1, .inl v1), (2, .inl v2), (3, .inl v3), (4, .inl v4)] → w_X3_part_62 K post v0 v1 v2 v3 v4 u0 u1 G → W p l e ({ frames := 2, cells := 0, slots := 0, locals := 43 } : Room) s m args below meth c H locs 0 0 (MQ below (tc_Qc D A (retI post)) args s 0 0 A) (F0 m 62 ls [.int u1, va_rf u0]) := by
  intro v0 v1 v2 v3 v4 u0 u1 G H locs ls hW hS hl hw
  unfold w_X3_part_62 at hw
  refine lv_iconst (v := (1 : Int32)) C.1.1 C.1.2.1 dX3_part_62 (by decide) ?_
  refine lv_goto (tgt := 67) C.1.1 C.1.2.1 dX3_part_63 (by decide) ?_
  exact s_X3_part_67 C hr hll post v0 v1 v2 v3 v4 u0 u1 ((1 : Int32)) _ _ _ _ hW hS (tl_sub hl [0, 1, 2, 3, 4] rfl) hw
set_option maxHeartbeats 4000000 in
set_option maxRecDepth 100000 in
theorem s_X3_part_66 {K : tK} (C : tc_B p l s m args meth c D K A wz_X3_part RX3 cX3_part 8) (hr : meth.sig.returnType = (some .int)) (hll : l.stackTraces = false)  (post : Int32 → tG → Prop) : ∀ (v0 : Option Nat) (v1 : Int32) (v2 : Int32) (v3 : Int32) (v4 : Int32) (u0 : Option Nat) (u1 : Int32) (G : tG) (H : Heap) (locs : List Loc) (ls : Array Slot), tg_W D A s H G → va_S A s.heap H locs → tl ls 8 [(0, .inr (.inr v0)), (1, .inl v1), (2, .inl v2), (3, .inl v3), (4, .inl v4)] → w_X3_part_66 K post v0 v1 v2 v3 v4 u0 u1 G → W p l e ({ frames := 2, cells := 0, slots := 0, locals := 43 } : Room) s m args below meth c H locs 0 0 (MQ below (tc_Qc D A (retI post)) args s 0 0 A) (F0 m 66 ls [.int u1, va_rf u0]) := by
  intro v0 v1 v2 v3 v4 u0 u1 G H locs ls hW hS hl hw
  unfold w_X3_part_66 at hw
  refine lv_iconst (v := (0 : Int32)) C.1.1 C.1.2.1 dX3_part_66 (by decide) ?_
  exact s_X3_part_67 C hr hll post v0 v1 v2 v3 v4 u0 u1 ((0 : Int32)) _ _ _ _ hW hS (tl_sub hl [0, 1, 2, 3, 4] rfl) hw
set_option maxHeartbeats 4000000 in
set_option maxRecDepth 100000 in
theorem s_X3_part_23 {K : tK} (C : tc_B p l s m args meth c D K A wz_X3_part RX3 cX3_part 8) (hr : meth.sig.returnType = (some .int)) (hll : l.stackTraces = false)  (post : Int32 → tG → Prop) : ∀ (v0 : Option Nat) (v1 : Int32) (v2 : Int32) (v3 : Int32) (v4 : Int32) (u0 : Int32) (G : tG) (H : Heap) (locs : List Loc) (ls : Array Slot), tg_W D A s H G → va_S A s.heap H locs → tl ls 8 [(0, .inr (.inr v0)), (1, .inl v1), (2, .inl v2), (3, .inl v3), (4, .inl v4)] → w_X3_part_23 K post v0 v1 v2 v3 v4 u0 G → W p l e ({ frames := 2, cells := 0, slots := 0, locals := 43 } : Room) s m args below meth c H locs 0 0 (MQ below (tc_Qc D A (retI post)) args s 0 0 A) (F0 m 23 ls [.int u0]) := by
  intro v0 v1 v2 v3 v4 u0 G H locs ls hW hS hl hw
  unfold w_X3_part_23 at hw
  refine tr_istore (x := u0) C hl [(5, .inl u0), (0, .inr (.inr v0)), (1, .inl v1), (2, .inl v2), (3, .inl v3), (4, .inl v4)] (by decide) rfl dX3_part_23 (fun ls hl => ?_)
  refine tr_aload_n (k := 0) (x := v0) C hl 1 rfl dX3_part_25 ?_
  refine tr_iload (x := u0) C hl 0 rfl dX3_part_26 ?_
  refine tr_iload (x := u0) C hl 0 rfl dX3_part_28 ?_
  refine lv_if_ne (tgt := 66) C.1.1 C.1.2.1 dX3_part_30 (by decide) (fun hc => ?_) (fun hc => ?_)
  · have hw := hw.1 hc
    exact s_X3_part_66 C hr hll post v0 v1 v2 v3 v4 v0 u0 _ _ _ _ hW hS (tl_sub hl [1, 2, 3, 4, 5] rfl) hw
  · have hw := hw.2 hc
    refine tr_iload_n (k := 3) (x := v3) C hl 4 rfl dX3_part_33 ?_
    refine lv_iconst (v := (0 : Int32)) C.1.1 C.1.2.1 dX3_part_34 (by decide) ?_
    refine tr_aload_n (k := 0) (x := v0) C hl 1 rfl dX3_part_35 ?_
    refine tr_gfR (C0 := RX3) (T := TX3) (N := 8) (ci := 5) (ref := "TwinrowModel") (k := 3) (r := v0) C (zh hw_X3) rfl (by decide) (zm kw_24) rfl dX3_part_36 hW hw (fun x_36 hw => ?_)
    refine tr_iload_n (k := 2) (x := v2) C hl 3 rfl dX3_part_39 ?_
    refine tr_alI (r := x_36) C dX3_part_40 hW hw (fun x_40 hw => ?_)
    refine tr_backI (tr_runS (As := [.int v3, .int ((0 : Int32)), .int x_40]) C hl.1 (c_X3_isIn l hll K _ v3 ((0 : Int32)) x_40) (va_cwS 3 C.1.2.2.2.2 (gi_S (zm kw_194) (zm kw_195) (zm kw_155) (zm kw_193)) rfl rfl rfl (by decide +kernel) ⟨(Nat.le_of_ble_eq_true rfl), (Nat.le_of_ble_eq_true rfl)⟩) rfl dX3_part_41 ⟨(Nat.le_of_ble_eq_true rfl), (Nat.le_of_ble_eq_true rfl)⟩ [.inl u0, .inr (.inr v0)] rfl (Nat.le_of_ble_eq_true rfl) rfl hW hS hw) hS (fun x_41 G_41 H locs hw hW hS => ?_)
    refine lv_if_eq (tgt := 62) C.1.1 C.1.2.1 dX3_part_44 (by decide) (fun hc => ?_) (fun hc => ?_)
    · have hw := hw.1 hc
      exact s_X3_part_62 C hr hll post v0 v1 v2 v3 v4 v0 u0 _ _ _ _ hW hS (tl_sub hl [1, 2, 3, 4, 5] rfl) hw
    · have hw := hw.2 hc
      refine tr_iload (x := v4) C hl 5 rfl dX3_part_47 ?_
      refine tr_iload_n (k := 3) (x := v3) C hl 4 rfl dX3_part_49 ?_
      refine tr_aload_n (k := 0) (x := v0) C hl 1 rfl dX3_part_50 ?_
      refine tr_gfR (C0 := RX3) (T := TX3) (N := 8) (ci := 5) (ref := "TwinrowModel") (k := 3) (r := v0) C (zh hw_X3) rfl (by decide) (zm kw_24) rfl dX3_part_51 hW hw (fun x_51 hw => ?_)
      refine tr_iload_n (k := 2) (x := v2) C hl 3 rfl dX3_part_54 ?_
      refine tr_alI (r := x_51) C dX3_part_55 hW hw (fun x_55 hw => ?_)
      refine tr_backI (tr_runS (As := [.int v4, .int v3, .int x_55]) C hl.1 (c_X3_isIn l hll K _ v4 v3 x_55) (va_cwS 3 C.1.2.2.2.2 (gi_S (zm kw_194) (zm kw_195) (zm kw_155) (zm kw_193)) rfl rfl rfl (by decide +kernel) ⟨(Nat.le_of_ble_eq_true rfl), (Nat.le_of_ble_eq_true rfl)⟩) rfl dX3_part_56 ⟨(Nat.le_of_ble_eq_true rfl), (Nat.le_of_ble_eq_true rfl)⟩ [.inl u0, .inr (.inr v0)] rfl (Nat.le_of_ble_eq_true rfl) rfl hW hS hw) hS (fun x_56 G_56 H locs hw hW hS => ?_)
      refine lv_if_ne (tgt := 66) C.1.1 C.1.2.1 dX3_part_59 (by decide) (fun hc => ?_) (fun hc => ?_)
      · have hw := hw.1 hc
        exact s_X3_part_66 C hr hll post v0 v1 v2 v3 v4 v0 u0 _ _ _ _ hW hS (tl_sub hl [1, 2, 3, 4, 5] rfl) hw
      · have hw := hw.2 hc
        exact s_X3_part_62 C hr hll post v0 v1 v2 v3 v4 v0 u0 _ _ _ _ hW hS (tl_sub hl [1, 2, 3, 4, 5] rfl) hw
set_option maxHeartbeats 4000000 in
set_option maxRecDepth 100000 in
theorem s_X3_part_18 {K : tK} (C : tc_B p l s m args meth c D K A wz_X3_part RX3 cX3_part 8) (hr : meth.sig.returnType = (some .int)) (hll : l.stackTraces = false)  (post : Int32 → tG → Prop) : ∀ (v0 : Option Nat) (v1 : Int32) (v2 : Int32) (v3 : Int32) (v4 : Int32) (G : tG) (H : Heap) (locs : List Loc) (ls : Array Slot), tg_W D A s H G → va_S A s.heap H locs → tl ls 8 [(0, .inr (.inr v0)), (1, .inl v1), (2, .inl v2), (3, .inl v3), (4, .inl v4)] → w_X3_part_18 K post v0 v1 v2 v3 v4 G → W p l e ({ frames := 2, cells := 0, slots := 0, locals := 43 } : Room) s m args below meth c H locs 0 0 (MQ below (tc_Qc D A (retI post)) args s 0 0 A) (F0 m 18 ls []) := by
  intro v0 v1 v2 v3 v4 G H locs ls hW hS hl hw
  unfold w_X3_part_18 at hw
  refine lv_iconst (v := (1 : Int32)) C.1.1 C.1.2.1 dX3_part_18 (by decide) ?_
  refine lv_goto (tgt := 23) C.1.1 C.1.2.1 dX3_part_19 (by decide) ?_
  exact s_X3_part_23 C hr hll post v0 v1 v2 v3 v4 ((1 : Int32)) _ _ _ _ hW hS (tl_sub hl [0, 1, 2, 3, 4] rfl) hw
set_option maxHeartbeats 4000000 in
set_option maxRecDepth 100000 in
theorem s_X3_part {K : tK} (C : tc_B p l s m args meth c D K A wz_X3_part RX3 cX3_part 8) (hr : meth.sig.returnType = (some .int)) (hll : l.stackTraces = false)  (post : Int32 → tG → Prop) (v0 : Option Nat) (v1 : Int32) (v2 : Int32) (v3 : Int32) (v4 : Int32) : ∀ (G : tG) (H : Heap) (locs : List Loc) (ls : Array Slot), tg_W D A s H G → va_S A s.heap H locs → tl ls 8 [(0, .inr (.inr v0)), (1, .inl v1), (2, .inl v2), (3, .inl v3), (4, .inl v4)] → w_X3_part K post v0 v1 v2 v3 v4 G → W p l e ({ frames := 2, cells := 0, slots := 0, locals := 43 } : Room) s m args below meth c H locs 0 0 (MQ below (tc_Qc D A (retI post)) args s 0 0 A) (F0 m 0 ls []) := by
  intro G H locs ls hW hS hl hw
  unfold w_X3_part at hw
  refine tr_iload_n (k := 1) (x := v1) C hl 1 rfl dX3_part_0 ?_
  refine lv_iconst (v := (3 : Int32)) C.1.1 C.1.2.1 dX3_part_1 (by decide) ?_
  refine lv_bipush (v := (6 : Int32)) C.1.1 C.1.2.1 dX3_part_2 (by decide) ?_
  refine tr_backI (tr_runS (As := [.int v1, .int ((3 : Int32)), .int ((6 : Int32))]) C hl.1 (c_X3_isIn l hll K _ v1 ((3 : Int32)) ((6 : Int32))) (va_cwS 3 C.1.2.2.2.2 (gi_S (zm kw_194) (zm kw_195) (zm kw_155) (zm kw_193)) rfl rfl rfl (by decide +kernel) ⟨(Nat.le_of_ble_eq_true rfl), (Nat.le_of_ble_eq_true rfl)⟩) rfl dX3_part_4 ⟨(Nat.le_of_ble_eq_true rfl), (Nat.le_of_ble_eq_true rfl)⟩ [] rfl (Nat.le_of_ble_eq_true rfl) rfl hW hS hw) hS (fun x_4 G_4 H locs hw hW hS => ?_)
  refine lv_if_eq (tgt := 18) C.1.1 C.1.2.1 dX3_part_7 (by decide) (fun hc => ?_) (fun hc => ?_)
  · have hw := hw.1 hc
    exact s_X3_part_18 C hr hll post v0 v1 v2 v3 v4 _ _ _ _ hW hS (tl_sub hl [0, 1, 2, 3, 4] rfl) hw
  · have hw := hw.2 hc
    refine tr_aload_n (k := 0) (x := v0) C hl 0 rfl dX3_part_10 ?_
    refine tr_iload_n (k := 2) (x := v2) C hl 2 rfl dX3_part_11 ?_
    refine tr_backI (tr_runV (r := v0) (As := [.int v2]) C hl.1 (c_X3_isNoList l hll K _ v0 v2) (cwV 1 C.1.2.2.2.2 (gi_V (zm kw_211) (zm kw_212) (zm kw_213) (zm kw_155) (zm kw_210)) rfl rfl rfl (by decide +kernel) ⟨(Nat.le_of_ble_eq_true rfl), (Nat.le_of_ble_eq_true rfl)⟩) rfl rfl dX3_part_12 ⟨(Nat.le_of_ble_eq_true rfl), (Nat.le_of_ble_eq_true rfl)⟩ [] rfl (Nat.le_of_ble_eq_true rfl) rfl hW hS hw) hS (fun x_12 G_12 H locs hw hW hS => ?_)
    refine lv_if_eq (tgt := 22) C.1.1 C.1.2.1 dX3_part_15 (by decide) (fun hc => ?_) (fun hc => ?_)
    · have hw := hw.1 hc
      refine lv_iconst (v := (0 : Int32)) C.1.1 C.1.2.1 dX3_part_22 (by decide) ?_
      exact s_X3_part_23 C hr hll post v0 v1 v2 v3 v4 ((0 : Int32)) _ _ _ _ hW hS (tl_sub hl [0, 1, 2, 3, 4] rfl) hw
    · have hw := hw.2 hc
      exact s_X3_part_18 C hr hll post v0 v1 v2 v3 v4 _ _ _ _ hW hS (tl_sub hl [0, 1, 2, 3, 4] rfl) hw
end Z_X3_part
set_option maxHeartbeats 4000000 in
set_option maxRecDepth 100000 in
theorem c_X3_part (l : Launch) (hll : l.stackTraces = false) (K : tK) (post : Int32 → tG → Prop) (v0 : Option Nat) (v1 : Int32) (v2 : Int32) (v3 : Int32) (v4 : Int32) : Ct l yX3_part wz_X3_part ({ frames := 2, cells := 0, slots := 0, locals := 43 } : Room) 0 0 [va_rf v0, .int v1, .int v2, .int v3, .int v4] K (retI post) (fun G => w_X3_part K post v0 v1 v2 v3 v4 G) := by
  refine tc_of (cc := cX3_part) (maxL := 8) (ret := (some .int)) (own := RX3) (plainFor_of_name (by decide)) rfl rfl hll [.inr (.inr v0), .inl v1, .inl v2, .inl v3, .inl v4] rfl (Nat.le_of_ble_eq_true rfl) ?_
  intro p e s m args below meth c D A G ls C hr hn ht hl hW hS hw
  exact s_X3_part C hr hll post v0 v1 v2 v3 v4 _ _ _ _ hW hS hl hw

/-! X1_at -/
def wz_X1_at : List Cond := Cond.code yX1_at cX1_at 4 (some .int) :: w0
section Z_X1_at
variable {p : Program} {l : Launch} {e : Env} {s : State} {m : MethodId} {args : Array Value} {below : List Frame} {meth : Method} {c : Code} {D : va_G} {A : Nat → Prop}
set_option maxHeartbeats 4000000 in
set_option maxRecDepth 100000 in
theorem s_X1_at {K : tK} (C : tc_B p l s m args meth c D K A wz_X1_at RX1 cX1_at 4) (hr : meth.sig.returnType = (some .int)) (ht : ∀ x ∈ c.exceptionTable.toList, False) (hll : l.stackTraces = false)  (post : Int32 → tG → Prop) (postX : String → tG → Prop) (v0 : Option Nat) (v1 : Int32) (v2 : Int32) : ∀ (G : tG) (H : Heap) (locs : List Loc) (ls : Array Slot), tg_W D A s H G → va_S A s.heap H locs → tl ls 4 [(0, .inr (.inr v0)), (1, .inl v1), (2, .inl v2)] → w_X1_at K post postX v0 v1 v2 G → W p l e ({ frames := 7, cells := 2, slots := 12, locals := 104 } : Room) s m args below meth c H locs 0 0 (vx_MQ below (tc_Qc D A (retI post)) (tc_XC D A postX) args s 2 12 A) (F0 m 0 ls []) := by
  intro G H locs ls hW hS hl hw
  unfold w_X1_at at hw
  refine tr_aload_n (k := 0) (x := v0) C hl 0 rfl dX1_at_0 ?_
  refine tr_iload_n (k := 1) (x := v1) C hl 1 rfl dX1_at_1 ?_
  refine tx_backR (tx_runV (r := v0) (As := [.int v1]) C hl.1 (c_X1_twinAt l hll K _ _ v0 v1) (cwV 1 C.1.2.2.2.2 (gi_V (zm kw_121) (zm kw_122) (zm kw_123) (zm kw_33) (zm kw_120)) rfl rfl rfl (by decide +kernel) ⟨(Nat.le_of_ble_eq_true rfl), (Nat.le_of_ble_eq_true rfl)⟩) rfl rfl dX1_at_2 ⟨(Nat.le_of_ble_eq_true rfl), (Nat.le_of_ble_eq_true rfl)⟩ [] rfl (Nat.le_of_ble_eq_true rfl) rfl hW hS hw) hS C.2.1 ht (Nat.le_of_ble_eq_true rfl) (Nat.le_of_ble_eq_true rfl) (fun x_2 G_2 H locs hw hW hS => ?_)
  refine tr_astore_n (k := 3) (x := x_2) C hl [(3, .inr (.inr x_2)), (0, .inr (.inr v0)), (1, .inl v1), (2, .inl v2)] (by decide) rfl dX1_at_5 (fun ls hl => ?_)
  refine tr_aload_n (k := 3) (x := x_2) C hl 0 rfl dX1_at_6 ?_
  refine tr_iload_n (k := 2) (x := v2) C hl 3 rfl dX1_at_7 ?_
  refine tx_backV (tx_runS (As := [va_rf x_2, .int v2]) C hl.1 (c_X1_checkPlace l hll K _ _ x_2 v2) (va_cwS 2 C.1.2.2.2.2 (gi_S (zm kw_199) (zm kw_200) (zm kw_33) (zm kw_198)) rfl rfl rfl (by decide +kernel) ⟨(Nat.le_of_ble_eq_true rfl), (Nat.le_of_ble_eq_true rfl)⟩) rfl dX1_at_8 ⟨(Nat.le_of_ble_eq_true rfl), (Nat.le_of_ble_eq_true rfl)⟩ [] rfl (Nat.le_of_ble_eq_true rfl) rfl hW hS hw) hS C.2.1 ht (Nat.le_of_ble_eq_true rfl) (Nat.le_of_ble_eq_true rfl) (fun G_8 H locs hw hW hS => ?_)
  refine tr_aload_n (k := 3) (x := x_2) C hl 0 rfl dX1_at_11 ?_
  refine tr_iload_n (k := 2) (x := v2) C hl 3 rfl dX1_at_12 ?_
  refine tr_backI (tr_runV (r := x_2) (As := [.int v2]) C hl.1 (c_X0_read l hll K _ x_2 v2) (cwV 1 C.1.2.2.2.2 (gi_V (zm kw_27) (zm kw_28) (zm kw_29) (zm kw_10) (zm kw_26)) rfl rfl rfl (by decide +kernel) ⟨(Nat.le_of_ble_eq_true rfl), (Nat.le_of_ble_eq_true rfl)⟩) rfl rfl dX1_at_13 ⟨(Nat.le_of_ble_eq_true rfl), (Nat.le_of_ble_eq_true rfl)⟩ [] rfl (Nat.le_of_ble_eq_true rfl) rfl hW hS hw) hS (fun x_13 G_13 H locs hw hW hS => ?_)
  exact vx_ret (tr_iret C hr dX1_at_16 (Nat.le_of_ble_eq_true rfl) (Nat.le_of_ble_eq_true rfl) hW hS hw)
end Z_X1_at
set_option maxHeartbeats 4000000 in
set_option maxRecDepth 100000 in
theorem c_X1_at (l : Launch) (hll : l.stackTraces = false) (K : tK) (post : Int32 → tG → Prop) (postX : String → tG → Prop) (v0 : Option Nat) (v1 : Int32) (v2 : Int32) : Cx l yX1_at wz_X1_at ({ frames := 7, cells := 2, slots := 12, locals := 104 } : Room) 2 12 [va_rf v0, .int v1, .int v2] K (retI post) postX (fun G => w_X1_at K post postX v0 v1 v2 G) := by
  refine tx_of (cc := cX1_at) (maxL := 4) (ret := (some .int)) (own := RX1) (by decide) rfl rfl hll [.inr (.inr v0), .inl v1, .inl v2] rfl (Nat.le_of_ble_eq_true rfl) ?_
  intro p e s m args below meth c D A G ls C hr hn ht hl hW hS hw
  exact s_X1_at C hr ht hll post postX v0 v1 v2 _ _ _ _ hW hS hl hw

/-! L_at -/
def wz_L_at : List Cond := Cond.codeWith yL_at cL_at 5 (some .int) [(0, 11, 14, 19)] :: w0
section Z_L_at
variable {p : Program} {l : Launch} {e : Env} {s : State} {m : MethodId} {args : Array Value} {below : List Frame} {meth : Method} {c : Code} {D : va_G} {A : Nat → Prop}
set_option maxHeartbeats 4000000 in
set_option maxRecDepth 100000 in
theorem s_L_at {K : tK} (C : tc_B p l s m args meth c D K A wz_L_at RL cL_at 5) (hr : meth.sig.returnType = (some .int)) (htab : c.exceptionTable.toList = tableOf [(0, 11, 14, 19)]) (hcC : kx_C s) (hll : l.stackTraces = false)  (post : Int32 → tG → Prop) (v0 : Option Nat) (v1 : Int32) (v2 : Int32) (v3 : Option Nat) : ∀ (G : tG) (H : Heap) (locs : List Loc) (ls : Array Slot), tg_W D A s H G → va_S A s.heap H locs → tl ls 5 [(0, .inr (.inr v0)), (1, .inl v1), (2, .inl v2), (3, .inr (.inr v3))] → w_L_at K post v0 v1 v2 v3 G → W p l e ({ frames := 8, cells := 2, slots := 12, locals := 127 } : Room) s m args below meth c H locs 0 0 (vx_MQ below (tc_Qc D A (retI post)) (tc_XC D A (fun _ _ => False)) args s 2 12 A) (F0 m 0 ls []) := by
  intro G H locs ls hW hS hl hw
  unfold w_L_at at hw
  refine tr_aload_n (k := 3) (x := v3) C hl 3 rfl dL_at_0 ?_
  refine tr_aload_n (k := 0) (x := v0) C hl 0 rfl dL_at_1 ?_
  refine tr_iload_n (k := 1) (x := v1) C hl 1 rfl dL_at_2 ?_
  refine tr_iload_n (k := 2) (x := v2) C hl 2 rfl dL_at_3 ?_
  refine tx_backCI (tx_runV (r := v0) (As := [.int v1, .int v2]) C hl.1 (c_X1_at l hll K _ _ v0 v1 v2) (cwV 2 C.1.2.2.2.2 (gi_V (zm kw_653) (zm kw_654) (zm kw_655) (zm kw_33) (zm kw_652)) rfl rfl rfl (by decide +kernel) ⟨(Nat.le_of_ble_eq_true rfl), (Nat.le_of_ble_eq_true rfl)⟩) rfl rfl dL_at_4 ⟨(Nat.le_of_ble_eq_true rfl), (Nat.le_of_ble_eq_true rfl)⟩ [.inr (.inr v3)] rfl (Nat.le_of_ble_eq_true rfl) rfl hW hS hw) hS (fun E ce q9 GX H locs hw hW hS hce hcv hcl => ?_) (fun x_4 G_4 H locs hw hW hS => ?_)
  · by_cases hq0 : E = "java/lang/IndexOutOfBoundsException"
    · replace hw := hw.1 hq0
      subst hq0
      refine vx_catch (name := "java/lang/IndexOutOfBoundsException") C.1.2.2.2.1 [] (⟨0, 11, 14, 19⟩ : ExceptionTableEntry) [] (by rw [htab]; rfl) (fun z hz => nomatch hz) (by decide) (by decide) (C.1.2.2.2.2 _ (zm kw_209)) hcC.2.2.1 hce hcv hcl ?_
      refine tr_astore (x := (some q9)) C hl [(4, .inr (.inr (some q9))), (0, .inr (.inr v0)), (1, .inl v1), (2, .inl v2), (3, .inr (.inr v3))] (by decide) rfl dL_at_14 (fun ls hl => ?_)
      refine lv_iconst (v := (1 : Int32)) C.1.1 C.1.2.1 dL_at_16 (by decide) ?_
      exact vx_ret (tr_iret C hr dL_at_17 (Nat.le_of_ble_eq_true rfl) (Nat.le_of_ble_eq_true rfl) hW hS hw)
    replace hw := hw.2 hq0
    exact hw.elim
  · refine lv_i2l (v := ((x_4).toInt64)) C.1.1 C.1.2.1 dL_at_7 rfl ?_
    refine tr_pfN (C0 := RX2) (T := TX2) (N := 2) (ci := 4) (ref := "TwinrowLaw$Out") (host := "TwinrowLaw") (k := 0) (ty := .long) (v := .long (((x_4).toInt64))) (r := v3) C (zh hw_X2) tyX2 tyX2_ok nmX2 rfl (by decide) hcC.1 rfl rfl (by decide +kernel) rfl rfl dL_at_8 hW hS hw (fun G_8 H locs hw hW hS => ?_)
    refine lv_goto (tgt := 18) C.1.1 C.1.2.1 dL_at_11 (by decide) ?_
    refine lv_iconst (v := (0 : Int32)) C.1.1 C.1.2.1 dL_at_18 (by decide) ?_
    exact vx_ret (tr_iret C hr dL_at_19 (Nat.le_of_ble_eq_true rfl) (Nat.le_of_ble_eq_true rfl) hW hS hw)
end Z_L_at
set_option maxHeartbeats 4000000 in
set_option maxRecDepth 100000 in
theorem c_L_at (l : Launch) (hll : l.stackTraces = false) (K : tK) (post : Int32 → tG → Prop) (v0 : Option Nat) (v1 : Int32) (v2 : Int32) (v3 : Option Nat) : Cx l yL_at wz_L_at ({ frames := 8, cells := 2, slots := 12, locals := 127 } : Room) 2 12 [va_rf v0, .int v1, .int v2, va_rf v3] K (retI post) (fun _ _ => False) (fun G => w_L_at K post v0 v1 v2 v3 G) := by
  refine tx_ofH (cc := cL_at) (maxL := 5) (ret := (some .int)) (own := RL) (hh := [(0, 11, 14, 19)]) (by decide) rfl rfl hll [.inr (.inr v0), .inl v1, .inl v2, .inr (.inr v3)] rfl (Nat.le_of_ble_eq_true rfl) ?_
  intro p e s m args below meth c D A G ls C hr htab hcC hl hW hS hw
  exact s_L_at C hr htab hcC hll post v0 v1 v2 v3 _ _ _ _ hW hS hl hw

/-! X3_isNoRowPlace -/
def wz_X3_isNoRowPlace : List Cond := Cond.code yX3_isNoRowPlace cX3_isNoRowPlace 3 (some .boolean) :: w0
section Z_X3_isNoRowPlace
variable {p : Program} {l : Launch} {e : Env} {s : State} {m : MethodId} {args : Array Value} {below : List Frame} {meth : Method} {c : Code} {D : va_G} {A : Nat → Prop}
set_option maxHeartbeats 4000000 in
set_option maxRecDepth 100000 in
theorem s_X3_isNoRowPlace_31 {K : tK} (C : tc_B p l s m args meth c D K A wz_X3_isNoRowPlace RX3 cX3_isNoRowPlace 3) (hr : meth.sig.returnType = (some .boolean)) (hll : l.stackTraces = false)  (post : Int32 → tG → Prop) : ∀ (u0 : Int32) (G : tG) (H : Heap) (locs : List Loc) (ls : Array Slot), tg_W D A s H G → va_S A s.heap H locs → tl ls 3 [] → w_X3_isNoRowPlace_31 K post u0 G → W p l e ({ frames := 1, cells := 0, slots := 0, locals := 22 } : Room) s m args below meth c H locs 0 0 (MQ below (tc_Qc D A (retI post)) args s 0 0 A) (F0 m 31 ls [.int u0]) := by
  intro u0 G H locs ls hW hS hl hw
  unfold w_X3_isNoRowPlace_31 at hw
  exact tr_zret C hr dX3_isNoRowPlace_31 (Nat.le_of_ble_eq_true rfl) (Nat.le_of_ble_eq_true rfl) hW hS hw
set_option maxHeartbeats 4000000 in
set_option maxRecDepth 100000 in
theorem s_X3_isNoRowPlace_26 {K : tK} (C : tc_B p l s m args meth c D K A wz_X3_isNoRowPlace RX3 cX3_isNoRowPlace 3) (hr : meth.sig.returnType = (some .boolean)) (hll : l.stackTraces = false)  (post : Int32 → tG → Prop) : ∀ (G : tG) (H : Heap) (locs : List Loc) (ls : Array Slot), tg_W D A s H G → va_S A s.heap H locs → tl ls 3 [] → w_X3_isNoRowPlace_26 K post G → W p l e ({ frames := 1, cells := 0, slots := 0, locals := 22 } : Room) s m args below meth c H locs 0 0 (MQ below (tc_Qc D A (retI post)) args s 0 0 A) (F0 m 26 ls []) := by
  intro G H locs ls hW hS hl hw
  unfold w_X3_isNoRowPlace_26 at hw
  refine lv_iconst (v := (1 : Int32)) C.1.1 C.1.2.1 dX3_isNoRowPlace_26 (by decide) ?_
  refine lv_goto (tgt := 31) C.1.1 C.1.2.1 dX3_isNoRowPlace_27 (by decide) ?_
  exact s_X3_isNoRowPlace_31 C hr hll post ((1 : Int32)) _ _ _ _ hW hS (tl_sub hl [] rfl) hw
set_option maxHeartbeats 4000000 in
set_option maxRecDepth 100000 in
theorem s_X3_isNoRowPlace {K : tK} (C : tc_B p l s m args meth c D K A wz_X3_isNoRowPlace RX3 cX3_isNoRowPlace 3) (hr : meth.sig.returnType = (some .boolean)) (hll : l.stackTraces = false)  (post : Int32 → tG → Prop) (v0 : Option Nat) (v1 : Int32) (v2 : Int32) : ∀ (G : tG) (H : Heap) (locs : List Loc) (ls : Array Slot), tg_W D A s H G → va_S A s.heap H locs → tl ls 3 [(0, .inr (.inr v0)), (1, .inl v1), (2, .inl v2)] → w_X3_isNoRowPlace K post v0 v1 v2 G → W p l e ({ frames := 1, cells := 0, slots := 0, locals := 22 } : Room) s m args below meth c H locs 0 0 (MQ below (tc_Qc D A (retI post)) args s 0 0 A) (F0 m 0 ls []) := by
  intro G H locs ls hW hS hl hw
  unfold w_X3_isNoRowPlace at hw
  refine tr_iload_n (k := 1) (x := v1) C hl 1 rfl dX3_isNoRowPlace_0 ?_
  refine lv_iconst (v := (0 : Int32)) C.1.1 C.1.2.1 dX3_isNoRowPlace_1 (by decide) ?_
  refine lv_iconst (v := (2 : Int32)) C.1.1 C.1.2.1 dX3_isNoRowPlace_2 (by decide) ?_
  refine tr_backI (tr_runS (As := [.int v1, .int ((0 : Int32)), .int ((2 : Int32))]) C hl.1 (c_X3_isIn l hll K _ v1 ((0 : Int32)) ((2 : Int32))) (va_cwS 3 C.1.2.2.2.2 (gi_S (zm kw_194) (zm kw_195) (zm kw_155) (zm kw_193)) rfl rfl rfl (by decide +kernel) ⟨(Nat.le_of_ble_eq_true rfl), (Nat.le_of_ble_eq_true rfl)⟩) rfl dX3_isNoRowPlace_3 ⟨(Nat.le_of_ble_eq_true rfl), (Nat.le_of_ble_eq_true rfl)⟩ [] rfl (Nat.le_of_ble_eq_true rfl) rfl hW hS hw) hS (fun x_3 G_3 H locs hw hW hS => ?_)
  refine lv_if_eq (tgt := 26) C.1.1 C.1.2.1 dX3_isNoRowPlace_6 (by decide) (fun hc => ?_) (fun hc => ?_)
  · have hw := hw.1 hc
    exact s_X3_isNoRowPlace_26 C hr hll post _ _ _ _ hW hS (tl_sub hl [] rfl) hw
  · have hw := hw.2 hc
    refine tr_iload_n (k := 2) (x := v2) C hl 2 rfl dX3_isNoRowPlace_9 ?_
    refine lv_iconst (v := (0 : Int32)) C.1.1 C.1.2.1 dX3_isNoRowPlace_10 (by decide) ?_
    refine tr_aload_n (k := 0) (x := v0) C hl 0 rfl dX3_isNoRowPlace_11 ?_
    refine tr_gfR (C0 := RX3) (T := TX3) (N := 8) (ci := 5) (ref := "TwinrowModel") (k := 0) (r := v0) C (zh hw_X3) rfl (by decide) (zm kw_21) rfl dX3_isNoRowPlace_12 hW hw (fun x_12 hw => ?_)
    refine tr_iload_n (k := 1) (x := v1) C hl 1 rfl dX3_isNoRowPlace_15 ?_
    refine tr_alR (ty := .array .int) C dX3_isNoRowPlace_16 hW rfl hw (fun x_16 hw => ?_)
    refine tr_len (r := x_16) C dX3_isNoRowPlace_17 hW hw (fun x_17 hw => ?_)
    refine lv_iconst (v := (1 : Int32)) C.1.1 C.1.2.1 dX3_isNoRowPlace_18 (by decide) ?_
    refine lv_isub C.1.1 C.1.2.1 dX3_isNoRowPlace_19 ?_
    refine tr_backI (tr_runS (As := [.int v2, .int ((0 : Int32)), .int ((x_17 - (1 : Int32)))]) C hl.1 (c_X3_isIn l hll K _ v2 ((0 : Int32)) ((x_17 - (1 : Int32)))) (va_cwS 3 C.1.2.2.2.2 (gi_S (zm kw_194) (zm kw_195) (zm kw_155) (zm kw_193)) rfl rfl rfl (by decide +kernel) ⟨(Nat.le_of_ble_eq_true rfl), (Nat.le_of_ble_eq_true rfl)⟩) rfl dX3_isNoRowPlace_20 ⟨(Nat.le_of_ble_eq_true rfl), (Nat.le_of_ble_eq_true rfl)⟩ [] rfl (Nat.le_of_ble_eq_true rfl) rfl hW hS hw) hS (fun x_20 G_20 H locs hw hW hS => ?_)
    refine lv_if_ne (tgt := 30) C.1.1 C.1.2.1 dX3_isNoRowPlace_23 (by decide) (fun hc => ?_) (fun hc => ?_)
    · have hw := hw.1 hc
      refine lv_iconst (v := (0 : Int32)) C.1.1 C.1.2.1 dX3_isNoRowPlace_30 (by decide) ?_
      exact s_X3_isNoRowPlace_31 C hr hll post ((0 : Int32)) _ _ _ _ hW hS (tl_sub hl [] rfl) hw
    · have hw := hw.2 hc
      exact s_X3_isNoRowPlace_26 C hr hll post _ _ _ _ hW hS (tl_sub hl [] rfl) hw
end Z_X3_isNoRowPlace
set_option maxHeartbeats 4000000 in
set_option maxRecDepth 100000 in
theorem c_X3_isNoRowPlace (l : Launch) (hll : l.stackTraces = false) (K : tK) (post : Int32 → tG → Prop) (v0 : Option Nat) (v1 : Int32) (v2 : Int32) : Ct l yX3_isNoRowPlace wz_X3_isNoRowPlace ({ frames := 1, cells := 0, slots := 0, locals := 22 } : Room) 0 0 [va_rf v0, .int v1, .int v2] K (retI post) (fun G => w_X3_isNoRowPlace K post v0 v1 v2 G) := by
  refine tc_of (cc := cX3_isNoRowPlace) (maxL := 3) (ret := (some .boolean)) (own := RX3) (plainFor_of_name (by decide)) rfl rfl hll [.inr (.inr v0), .inl v1, .inl v2] rfl (Nat.le_of_ble_eq_true rfl) ?_
  intro p e s m args below meth c D A G ls C hr hn ht hl hW hS hw
  exact s_X3_isNoRowPlace C hr hll post v0 v1 v2 _ _ _ _ hW hS hl hw

/-! X3_at -/
def wz_X3_at : List Cond := Cond.code yX3_at cX3_at 3 (some .int) :: w0
section Z_X3_at
variable {p : Program} {l : Launch} {e : Env} {s : State} {m : MethodId} {args : Array Value} {below : List Frame} {meth : Method} {c : Code} {D : va_G} {A : Nat → Prop}
set_option maxHeartbeats 4000000 in
set_option maxRecDepth 100000 in
theorem s_X3_at_26 {K : tK} (C : tc_B p l s m args meth c D K A wz_X3_at RX3 cX3_at 3) (hr : meth.sig.returnType = (some .int)) (hll : l.stackTraces = false)  (post : Int32 → tG → Prop) : ∀ (u0 : Int32) (G : tG) (H : Heap) (locs : List Loc) (ls : Array Slot), tg_W D A s H G → va_S A s.heap H locs → tl ls 3 [] → w_X3_at_26 K post u0 G → W p l e ({ frames := 2, cells := 0, slots := 0, locals := 44 } : Room) s m args below meth c H locs 0 0 (MQ below (tc_Qc D A (retI post)) args s 0 0 A) (F0 m 26 ls [.int u0]) := by
  intro u0 G H locs ls hW hS hl hw
  unfold w_X3_at_26 at hw
  exact tr_iret C hr dX3_at_26 (Nat.le_of_ble_eq_true rfl) (Nat.le_of_ble_eq_true rfl) hW hS hw
set_option maxHeartbeats 4000000 in
set_option maxRecDepth 100000 in
theorem s_X3_at {K : tK} (C : tc_B p l s m args meth c D K A wz_X3_at RX3 cX3_at 3) (hr : meth.sig.returnType = (some .int)) (hll : l.stackTraces = false)  (post : Int32 → tG → Prop) (v0 : Option Nat) (v1 : Int32) (v2 : Int32) : ∀ (G : tG) (H : Heap) (locs : List Loc) (ls : Array Slot), tg_W D A s H G → va_S A s.heap H locs → tl ls 3 [(0, .inr (.inr v0)), (1, .inl v1), (2, .inl v2)] → w_X3_at K post v0 v1 v2 G → W p l e ({ frames := 2, cells := 0, slots := 0, locals := 44 } : Room) s m args below meth c H locs 0 0 (MQ below (tc_Qc D A (retI post)) args s 0 0 A) (F0 m 0 ls []) := by
  intro G H locs ls hW hS hl hw
  unfold w_X3_at at hw
  refine tr_aload_n (k := 0) (x := v0) C hl 0 rfl dX3_at_0 ?_
  refine tr_aload_n (k := 0) (x := v0) C hl 0 rfl dX3_at_1 ?_
  refine tr_iload_n (k := 1) (x := v1) C hl 1 rfl dX3_at_2 ?_
  refine tr_iload_n (k := 2) (x := v2) C hl 2 rfl dX3_at_3 ?_
  refine tr_backI (tr_runV (r := v0) (As := [.int v1, .int v2]) C hl.1 (c_X3_isNoRowPlace l hll K _ v0 v1 v2) (cwV 2 C.1.2.2.2.2 (gi_V (zm kw_657) (zm kw_658) (zm kw_659) (zm kw_155) (zm kw_656)) rfl rfl rfl (by decide +kernel) ⟨(Nat.le_of_ble_eq_true rfl), (Nat.le_of_ble_eq_true rfl)⟩) rfl rfl dX3_at_4 ⟨(Nat.le_of_ble_eq_true rfl), (Nat.le_of_ble_eq_true rfl)⟩ [.inr (.inr v0)] rfl (Nat.le_of_ble_eq_true rfl) rfl hW hS hw) hS (fun x_4 G_4 H locs hw hW hS => ?_)
  refine lv_iconst (v := (0 : Int32)) C.1.1 C.1.2.1 dX3_at_7 (by decide) ?_
  refine tr_backI (tr_runV (r := v0) (As := [.int x_4, .int ((0 : Int32))]) C hl.1 (c_X3_fails l hll K _ v0 x_4 ((0 : Int32))) (cwV 2 C.1.2.2.2.2 (gi_V (zm kw_190) (zm kw_191) (zm kw_192) (zm kw_155) (zm kw_189)) rfl rfl rfl (by decide +kernel) ⟨(Nat.le_of_ble_eq_true rfl), (Nat.le_of_ble_eq_true rfl)⟩) rfl rfl dX3_at_8 ⟨(Nat.le_of_ble_eq_true rfl), (Nat.le_of_ble_eq_true rfl)⟩ [] rfl (Nat.le_of_ble_eq_true rfl) rfl hW hS hw) hS (fun x_8 G_8 H locs hw hW hS => ?_)
  refine lv_if_eq (tgt := 18) C.1.1 C.1.2.1 dX3_at_11 (by decide) (fun hc => ?_) (fun hc => ?_)
  · have hw := hw.1 hc
    refine tr_aload_n (k := 0) (x := v0) C hl 0 rfl dX3_at_18 ?_
    refine tr_gfR (C0 := RX3) (T := TX3) (N := 8) (ci := 5) (ref := "TwinrowModel") (k := 0) (r := v0) C (zh hw_X3) rfl (by decide) (zm kw_21) rfl dX3_at_19 hW hw (fun x_19 hw => ?_)
    refine tr_iload_n (k := 1) (x := v1) C hl 1 rfl dX3_at_22 ?_
    refine tr_alR (ty := .array .int) C dX3_at_23 hW rfl hw (fun x_23 hw => ?_)
    refine tr_iload_n (k := 2) (x := v2) C hl 2 rfl dX3_at_24 ?_
    refine tr_alI (r := x_23) C dX3_at_25 hW hw (fun x_25 hw => ?_)
    exact s_X3_at_26 C hr hll post x_25 _ _ _ _ hW hS (tl_sub hl [] rfl) hw
  · have hw := hw.2 hc
    refine lv_iconst (v := (0 : Int32)) C.1.1 C.1.2.1 dX3_at_14 (by decide) ?_
    refine lv_goto (tgt := 26) C.1.1 C.1.2.1 dX3_at_15 (by decide) ?_
    exact s_X3_at_26 C hr hll post ((0 : Int32)) _ _ _ _ hW hS (tl_sub hl [] rfl) hw
end Z_X3_at
set_option maxHeartbeats 4000000 in
set_option maxRecDepth 100000 in
theorem c_X3_at (l : Launch) (hll : l.stackTraces = false) (K : tK) (post : Int32 → tG → Prop) (v0 : Option Nat) (v1 : Int32) (v2 : Int32) : Ct l yX3_at wz_X3_at ({ frames := 2, cells := 0, slots := 0, locals := 44 } : Room) 0 0 [va_rf v0, .int v1, .int v2] K (retI post) (fun G => w_X3_at K post v0 v1 v2 G) := by
  refine tc_of (cc := cX3_at) (maxL := 3) (ret := (some .int)) (own := RX3) (plainFor_of_name (by decide)) rfl rfl hll [.inr (.inr v0), .inl v1, .inl v2] rfl (Nat.le_of_ble_eq_true rfl) ?_
  intro p e s m args below meth c D A G ls C hr hn ht hl hW hS hw
  exact s_X3_at C hr hll post v0 v1 v2 _ _ _ _ hW hS hl hw

/-! X1_put -/
def wz_X1_put : List Cond := Cond.code yX1_put cX1_put 5 (some .int) :: w0
section Z_X1_put
variable {p : Program} {l : Launch} {e : Env} {s : State} {m : MethodId} {args : Array Value} {below : List Frame} {meth : Method} {c : Code} {D : va_G} {A : Nat → Prop}
set_option maxHeartbeats 4000000 in
set_option maxRecDepth 100000 in
theorem s_X1_put {K : tK} (C : tc_B p l s m args meth c D K A wz_X1_put RX1 cX1_put 5) (hr : meth.sig.returnType = (some .int)) (ht : ∀ x ∈ c.exceptionTable.toList, False) (hll : l.stackTraces = false)  (post : Int32 → tG → Prop) (postX : String → tG → Prop) (v0 : Option Nat) (v1 : Int32) (v2 : Int32) (v3 : Int32) : ∀ (G : tG) (H : Heap) (locs : List Loc) (ls : Array Slot), tg_W D A s H G → va_S A s.heap H locs → tl ls 5 [(0, .inr (.inr v0)), (1, .inl v1), (2, .inl v2), (3, .inl v3)] → w_X1_put K post postX v0 v1 v2 v3 G → W p l e ({ frames := 8, cells := 3, slots := 18, locals := 124 } : Room) s m args below meth c H locs 0 0 (vx_MQ below (tc_Qc D A (retI post)) (tc_XC D A postX) args s 3 18 A) (F0 m 0 ls []) := by
  intro G H locs ls hW hS hl hw
  unfold w_X1_put at hw
  refine tr_aload_n (k := 0) (x := v0) C hl 0 rfl dX1_put_0 ?_
  refine tr_iload_n (k := 1) (x := v1) C hl 1 rfl dX1_put_1 ?_
  refine tx_backR (tx_runV (r := v0) (As := [.int v1]) C hl.1 (c_X1_twinAt l hll K _ _ v0 v1) (cwV 1 C.1.2.2.2.2 (gi_V (zm kw_121) (zm kw_122) (zm kw_123) (zm kw_33) (zm kw_120)) rfl rfl rfl (by decide +kernel) ⟨(Nat.le_of_ble_eq_true rfl), (Nat.le_of_ble_eq_true rfl)⟩) rfl rfl dX1_put_2 ⟨(Nat.le_of_ble_eq_true rfl), (Nat.le_of_ble_eq_true rfl)⟩ [] rfl (Nat.le_of_ble_eq_true rfl) rfl hW hS hw) hS C.2.1 ht (Nat.le_of_ble_eq_true rfl) (Nat.le_of_ble_eq_true rfl) (fun x_2 G_2 H locs hw hW hS => ?_)
  refine tr_astore (x := x_2) C hl [(4, .inr (.inr x_2)), (0, .inr (.inr v0)), (1, .inl v1), (2, .inl v2), (3, .inl v3)] (by decide) rfl dX1_put_5 (fun ls hl => ?_)
  refine tr_aload (x := x_2) C hl 0 rfl dX1_put_7 ?_
  refine tr_iload_n (k := 2) (x := v2) C hl 3 rfl dX1_put_9 ?_
  refine tx_backV (tx_runS (As := [va_rf x_2, .int v2]) C hl.1 (c_X1_checkPlace l hll K _ _ x_2 v2) (va_cwS 2 C.1.2.2.2.2 (gi_S (zm kw_199) (zm kw_200) (zm kw_33) (zm kw_198)) rfl rfl rfl (by decide +kernel) ⟨(Nat.le_of_ble_eq_true rfl), (Nat.le_of_ble_eq_true rfl)⟩) rfl dX1_put_10 ⟨(Nat.le_of_ble_eq_true rfl), (Nat.le_of_ble_eq_true rfl)⟩ [] rfl (Nat.le_of_ble_eq_true rfl) rfl hW hS hw) hS C.2.1 ht (Nat.le_of_ble_eq_true rfl) (Nat.le_of_ble_eq_true rfl) (fun G_10 H locs hw hW hS => ?_)
  refine tr_iload_n (k := 3) (x := v3) C hl 4 rfl dX1_put_13 ?_
  refine tx_backV (tx_runS (As := [.int v3]) C hl.1 (c_X1_checkValue l hll K _ _ v3) (va_cwS 1 C.1.2.2.2.2 (gi_S (zm kw_269) (zm kw_270) (zm kw_33) (zm kw_268)) rfl rfl rfl (by decide +kernel) ⟨(Nat.le_of_ble_eq_true rfl), (Nat.le_of_ble_eq_true rfl)⟩) rfl dX1_put_14 ⟨(Nat.le_of_ble_eq_true rfl), (Nat.le_of_ble_eq_true rfl)⟩ [] rfl (Nat.le_of_ble_eq_true rfl) rfl hW hS hw) hS C.2.1 ht (Nat.le_of_ble_eq_true rfl) (Nat.le_of_ble_eq_true rfl) (fun G_14 H locs hw hW hS => ?_)
  refine tr_aload (x := x_2) C hl 0 rfl dX1_put_17 ?_
  refine tr_iload_n (k := 2) (x := v2) C hl 3 rfl dX1_put_19 ?_
  refine tr_iload_n (k := 3) (x := v3) C hl 4 rfl dX1_put_20 ?_
  refine tr_backI (tr_runV (r := x_2) (As := [.int v2, .int v3]) C hl.1 (c_X0_write l hll K _ x_2 v2 v3) (cwV 2 C.1.2.2.2.2 (gi_V (zm kw_47) (zm kw_48) (zm kw_49) (zm kw_10) (zm kw_46)) rfl rfl rfl (by decide +kernel) ⟨(Nat.le_of_ble_eq_true rfl), (Nat.le_of_ble_eq_true rfl)⟩) rfl rfl dX1_put_21 ⟨(Nat.le_of_ble_eq_true rfl), (Nat.le_of_ble_eq_true rfl)⟩ [] rfl (Nat.le_of_ble_eq_true rfl) rfl hW hS hw) hS (fun x_21 G_21 H locs hw hW hS => ?_)
  exact vx_ret (tr_iret C hr dX1_put_24 (Nat.le_of_ble_eq_true rfl) (Nat.le_of_ble_eq_true rfl) hW hS hw)
end Z_X1_put
set_option maxHeartbeats 4000000 in
set_option maxRecDepth 100000 in
theorem c_X1_put (l : Launch) (hll : l.stackTraces = false) (K : tK) (post : Int32 → tG → Prop) (postX : String → tG → Prop) (v0 : Option Nat) (v1 : Int32) (v2 : Int32) (v3 : Int32) : Cx l yX1_put wz_X1_put ({ frames := 8, cells := 3, slots := 18, locals := 124 } : Room) 3 18 [va_rf v0, .int v1, .int v2, .int v3] K (retI post) postX (fun G => w_X1_put K post postX v0 v1 v2 v3 G) := by
  refine tx_of (cc := cX1_put) (maxL := 5) (ret := (some .int)) (own := RX1) (by decide) rfl rfl hll [.inr (.inr v0), .inl v1, .inl v2, .inl v3] rfl (Nat.le_of_ble_eq_true rfl) ?_
  intro p e s m args below meth c D A G ls C hr hn ht hl hW hS hw
  exact s_X1_put C hr ht hll post postX v0 v1 v2 v3 _ _ _ _ hW hS hl hw

/-! L_put -/
def wz_L_put : List Cond := Cond.codeWith yL_put cL_put 6 (some .int) [(0, 13, 16, 19), (0, 13, 20, 21)] :: w0
section Z_L_put
variable {p : Program} {l : Launch} {e : Env} {s : State} {m : MethodId} {args : Array Value} {below : List Frame} {meth : Method} {c : Code} {D : va_G} {A : Nat → Prop}
set_option maxHeartbeats 4000000 in
set_option maxRecDepth 100000 in
theorem s_L_put {K : tK} (C : tc_B p l s m args meth c D K A wz_L_put RL cL_put 6) (hr : meth.sig.returnType = (some .int)) (htab : c.exceptionTable.toList = tableOf [(0, 13, 16, 19), (0, 13, 20, 21)]) (hcC : kx_C s) (hll : l.stackTraces = false)  (post : Int32 → tG → Prop) (v0 : Option Nat) (v1 : Int32) (v2 : Int32) (v3 : Int32) (v4 : Option Nat) : ∀ (G : tG) (H : Heap) (locs : List Loc) (ls : Array Slot), tg_W D A s H G → va_S A s.heap H locs → tl ls 6 [(0, .inr (.inr v0)), (1, .inl v1), (2, .inl v2), (3, .inl v3), (4, .inr (.inr v4))] → w_L_put K post v0 v1 v2 v3 v4 G → W p l e ({ frames := 9, cells := 3, slots := 18, locals := 148 } : Room) s m args below meth c H locs 0 0 (vx_MQ below (tc_Qc D A (retI post)) (tc_XC D A (fun _ _ => False)) args s 3 18 A) (F0 m 0 ls []) := by
  intro G H locs ls hW hS hl hw
  unfold w_L_put at hw
  refine tr_aload (x := v4) C hl 4 rfl dL_put_0 ?_
  refine tr_aload_n (k := 0) (x := v0) C hl 0 rfl dL_put_2 ?_
  refine tr_iload_n (k := 1) (x := v1) C hl 1 rfl dL_put_3 ?_
  refine tr_iload_n (k := 2) (x := v2) C hl 2 rfl dL_put_4 ?_
  refine tr_iload_n (k := 3) (x := v3) C hl 3 rfl dL_put_5 ?_
  refine tx_backCI (tx_runV (r := v0) (As := [.int v1, .int v2, .int v3]) C hl.1 (c_X1_put l hll K _ _ v0 v1 v2 v3) (cwV 3 C.1.2.2.2.2 (gi_V (zm kw_661) (zm kw_662) (zm kw_663) (zm kw_33) (zm kw_660)) rfl rfl rfl (by decide +kernel) ⟨(Nat.le_of_ble_eq_true rfl), (Nat.le_of_ble_eq_true rfl)⟩) rfl rfl dL_put_6 ⟨(Nat.le_of_ble_eq_true rfl), (Nat.le_of_ble_eq_true rfl)⟩ [.inr (.inr v4)] rfl (Nat.le_of_ble_eq_true rfl) rfl hW hS hw) hS (fun E ce q9 GX H locs hw hW hS hce hcv hcl => ?_) (fun x_6 G_6 H locs hw hW hS => ?_)
  · by_cases hq0 : E = "java/lang/IndexOutOfBoundsException"
    · replace hw := hw.1 hq0
      subst hq0
      refine vx_catch (name := "java/lang/IndexOutOfBoundsException") C.1.2.2.2.1 [] (⟨0, 13, 16, 19⟩ : ExceptionTableEntry) [(⟨0, 13, 20, 21⟩ : ExceptionTableEntry)] (by rw [htab]; rfl) (fun z hz => nomatch hz) (by decide) (by decide) (C.1.2.2.2.2 _ (zm kw_209)) hcC.2.2.1 hce hcv hcl ?_
      refine tr_astore (x := (some q9)) C hl [(5, .inr (.inr (some q9))), (0, .inr (.inr v0)), (1, .inl v1), (2, .inl v2), (3, .inl v3), (4, .inr (.inr v4))] (by decide) rfl dL_put_16 (fun ls hl => ?_)
      refine lv_iconst (v := (1 : Int32)) C.1.1 C.1.2.1 dL_put_18 (by decide) ?_
      exact vx_ret (tr_iret C hr dL_put_19 (Nat.le_of_ble_eq_true rfl) (Nat.le_of_ble_eq_true rfl) hW hS hw)
    replace hw := hw.2 hq0
    by_cases hq1 : E = "java/lang/IllegalArgumentException"
    · replace hw := hw.1 hq1
      subst hq1
      refine vx_catch (name := "java/lang/IllegalArgumentException") C.1.2.2.2.1 [(⟨0, 13, 16, 19⟩ : ExceptionTableEntry)] (⟨0, 13, 20, 21⟩ : ExceptionTableEntry) [] (by rw [htab]; rfl) (kx_pass1 C hcC rfl (by decide) (zm kw_209)) (by decide) (by decide) (C.1.2.2.2.2 _ (zm kw_188)) hcC.2.2.2.1 hce hcv hcl ?_
      refine tr_astore (x := (some q9)) C hl [(5, .inr (.inr (some q9))), (0, .inr (.inr v0)), (1, .inl v1), (2, .inl v2), (3, .inl v3), (4, .inr (.inr v4))] (by decide) rfl dL_put_20 (fun ls hl => ?_)
      refine lv_iconst (v := (2 : Int32)) C.1.1 C.1.2.1 dL_put_22 (by decide) ?_
      exact vx_ret (tr_iret C hr dL_put_23 (Nat.le_of_ble_eq_true rfl) (Nat.le_of_ble_eq_true rfl) hW hS hw)
    replace hw := hw.2 hq1
    exact hw.elim
  · refine lv_i2l (v := ((x_6).toInt64)) C.1.1 C.1.2.1 dL_put_9 rfl ?_
    refine tr_pfN (C0 := RX2) (T := TX2) (N := 2) (ci := 4) (ref := "TwinrowLaw$Out") (host := "TwinrowLaw") (k := 0) (ty := .long) (v := .long (((x_6).toInt64))) (r := v4) C (zh hw_X2) tyX2 tyX2_ok nmX2 rfl (by decide) hcC.1 rfl rfl (by decide +kernel) rfl rfl dL_put_10 hW hS hw (fun G_10 H locs hw hW hS => ?_)
    refine lv_goto (tgt := 24) C.1.1 C.1.2.1 dL_put_13 (by decide) ?_
    refine lv_iconst (v := (0 : Int32)) C.1.1 C.1.2.1 dL_put_24 (by decide) ?_
    exact vx_ret (tr_iret C hr dL_put_25 (Nat.le_of_ble_eq_true rfl) (Nat.le_of_ble_eq_true rfl) hW hS hw)
end Z_L_put
set_option maxHeartbeats 4000000 in
set_option maxRecDepth 100000 in
theorem c_L_put (l : Launch) (hll : l.stackTraces = false) (K : tK) (post : Int32 → tG → Prop) (v0 : Option Nat) (v1 : Int32) (v2 : Int32) (v3 : Int32) (v4 : Option Nat) : Cx l yL_put wz_L_put ({ frames := 9, cells := 3, slots := 18, locals := 148 } : Room) 3 18 [va_rf v0, .int v1, .int v2, .int v3, va_rf v4] K (retI post) (fun _ _ => False) (fun G => w_L_put K post v0 v1 v2 v3 v4 G) := by
  refine tx_ofH (cc := cL_put) (maxL := 6) (ret := (some .int)) (own := RL) (hh := [(0, 13, 16, 19), (0, 13, 20, 21)]) (by decide) rfl rfl hll [.inr (.inr v0), .inl v1, .inl v2, .inl v3, .inr (.inr v4)] rfl (Nat.le_of_ble_eq_true rfl) ?_
  intro p e s m args below meth c D A G ls C hr htab hcC hl hW hS hw
  exact s_L_put C hr htab hcC hll post v0 v1 v2 v3 v4 _ _ _ _ hW hS hl hw

/-! X3_put -/
def wz_X3_put : List Cond := Cond.code yX3_put cX3_put 5 (some .int) :: w0
section Z_X3_put
variable {p : Program} {l : Launch} {e : Env} {s : State} {m : MethodId} {args : Array Value} {below : List Frame} {meth : Method} {c : Code} {D : va_G} {A : Nat → Prop}
set_option maxHeartbeats 4000000 in
set_option maxRecDepth 100000 in
theorem s_X3_put {K : tK} (C : tc_B p l s m args meth c D K A wz_X3_put RX3 cX3_put 5) (hr : meth.sig.returnType = (some .int)) (hll : l.stackTraces = false)  (post : Int32 → tG → Prop) (v0 : Option Nat) (v1 : Int32) (v2 : Int32) (v3 : Int32) : ∀ (G : tG) (H : Heap) (locs : List Loc) (ls : Array Slot), tg_W D A s H G → va_S A s.heap H locs → tl ls 5 [(0, .inr (.inr v0)), (1, .inl v1), (2, .inl v2), (3, .inl v3)] → w_X3_put K post v0 v1 v2 v3 G → W p l e ({ frames := 2, cells := 0, slots := 0, locals := 44 } : Room) s m args below meth c H locs 0 0 (MQ below (tc_Qc D A (retI post)) args s 0 0 A) (F0 m 0 ls []) := by
  intro G H locs ls hW hS hl hw
  unfold w_X3_put at hw
  refine tr_aload_n (k := 0) (x := v0) C hl 0 rfl dX3_put_0 ?_
  refine tr_aload_n (k := 0) (x := v0) C hl 0 rfl dX3_put_1 ?_
  refine tr_iload_n (k := 1) (x := v1) C hl 1 rfl dX3_put_2 ?_
  refine tr_iload_n (k := 2) (x := v2) C hl 2 rfl dX3_put_3 ?_
  refine tr_backI (tr_runV (r := v0) (As := [.int v1, .int v2]) C hl.1 (c_X3_isNoRowPlace l hll K _ v0 v1 v2) (cwV 2 C.1.2.2.2.2 (gi_V (zm kw_657) (zm kw_658) (zm kw_659) (zm kw_155) (zm kw_656)) rfl rfl rfl (by decide +kernel) ⟨(Nat.le_of_ble_eq_true rfl), (Nat.le_of_ble_eq_true rfl)⟩) rfl rfl dX3_put_4 ⟨(Nat.le_of_ble_eq_true rfl), (Nat.le_of_ble_eq_true rfl)⟩ [.inr (.inr v0)] rfl (Nat.le_of_ble_eq_true rfl) rfl hW hS hw) hS (fun x_4 G_4 H locs hw hW hS => ?_)
  refine tr_iload_n (k := 3) (x := v3) C hl 3 rfl dX3_put_7 ?_
  refine tr_backI (tr_runS (As := [.int v3]) C hl.1 (c_X3_isNoValue l hll K _ v3) (va_cwS 1 C.1.2.2.2.2 (gi_S (zm kw_276) (zm kw_277) (zm kw_155) (zm kw_275)) rfl rfl rfl (by decide +kernel) ⟨(Nat.le_of_ble_eq_true rfl), (Nat.le_of_ble_eq_true rfl)⟩) rfl dX3_put_8 ⟨(Nat.le_of_ble_eq_true rfl), (Nat.le_of_ble_eq_true rfl)⟩ [.inl x_4, .inr (.inr v0)] rfl (Nat.le_of_ble_eq_true rfl) rfl hW hS hw) hS (fun x_8 G_8 H locs hw hW hS => ?_)
  refine tr_backI (tr_runV (r := v0) (As := [.int x_4, .int x_8]) C hl.1 (c_X3_fails l hll K _ v0 x_4 x_8) (cwV 2 C.1.2.2.2.2 (gi_V (zm kw_190) (zm kw_191) (zm kw_192) (zm kw_155) (zm kw_189)) rfl rfl rfl (by decide +kernel) ⟨(Nat.le_of_ble_eq_true rfl), (Nat.le_of_ble_eq_true rfl)⟩) rfl rfl dX3_put_11 ⟨(Nat.le_of_ble_eq_true rfl), (Nat.le_of_ble_eq_true rfl)⟩ [] rfl (Nat.le_of_ble_eq_true rfl) rfl hW hS hw) hS (fun x_11 G_11 H locs hw hW hS => ?_)
  refine lv_if_eq (tgt := 19) C.1.1 C.1.2.1 dX3_put_14 (by decide) (fun hc => ?_) (fun hc => ?_)
  · have hw := hw.1 hc
    refine tr_aload_n (k := 0) (x := v0) C hl 0 rfl dX3_put_19 ?_
    refine tr_gfR (C0 := RX3) (T := TX3) (N := 8) (ci := 5) (ref := "TwinrowModel") (k := 0) (r := v0) C (zh hw_X3) rfl (by decide) (zm kw_21) rfl dX3_put_20 hW hw (fun x_20 hw => ?_)
    refine tr_iload_n (k := 1) (x := v1) C hl 1 rfl dX3_put_23 ?_
    refine tr_alR (ty := .array .int) C dX3_put_24 hW rfl hw (fun x_24 hw => ?_)
    refine tr_iload_n (k := 2) (x := v2) C hl 2 rfl dX3_put_25 ?_
    refine tr_alI (r := x_24) C dX3_put_26 hW hw (fun x_26 hw => ?_)
    refine tr_istore (x := x_26) C hl [(4, .inl x_26), (0, .inr (.inr v0)), (1, .inl v1), (2, .inl v2), (3, .inl v3)] (by decide) rfl dX3_put_27 (fun ls hl => ?_)
    refine tr_aload_n (k := 0) (x := v0) C hl 1 rfl dX3_put_29 ?_
    refine tr_gfR (C0 := RX3) (T := TX3) (N := 8) (ci := 5) (ref := "TwinrowModel") (k := 0) (r := v0) C (zh hw_X3) rfl (by decide) (zm kw_21) rfl dX3_put_30 hW hw (fun x_30 hw => ?_)
    refine tr_iload_n (k := 1) (x := v1) C hl 2 rfl dX3_put_33 ?_
    refine tr_alR (ty := .array .int) C dX3_put_34 hW rfl hw (fun x_34 hw => ?_)
    refine tr_iload_n (k := 2) (x := v2) C hl 3 rfl dX3_put_35 ?_
    refine tr_iload_n (k := 3) (x := v3) C hl 4 rfl dX3_put_36 ?_
    refine tr_asI (r := x_34) C dX3_put_37 hW hS hw (fun G_37 H locs hw hW hS => ?_)
    refine tr_iload (x := x_26) C hl 0 rfl dX3_put_38 ?_
    exact tr_iret C hr dX3_put_40 (Nat.le_of_ble_eq_true rfl) (Nat.le_of_ble_eq_true rfl) hW hS hw
  · have hw := hw.2 hc
    refine lv_iconst (v := (0 : Int32)) C.1.1 C.1.2.1 dX3_put_17 (by decide) ?_
    exact tr_iret C hr dX3_put_18 (Nat.le_of_ble_eq_true rfl) (Nat.le_of_ble_eq_true rfl) hW hS hw
end Z_X3_put
set_option maxHeartbeats 4000000 in
set_option maxRecDepth 100000 in
theorem c_X3_put (l : Launch) (hll : l.stackTraces = false) (K : tK) (post : Int32 → tG → Prop) (v0 : Option Nat) (v1 : Int32) (v2 : Int32) (v3 : Int32) : Ct l yX3_put wz_X3_put ({ frames := 2, cells := 0, slots := 0, locals := 44 } : Room) 0 0 [va_rf v0, .int v1, .int v2, .int v3] K (retI post) (fun G => w_X3_put K post v0 v1 v2 v3 G) := by
  refine tc_of (cc := cX3_put) (maxL := 5) (ret := (some .int)) (own := RX3) (plainFor_of_name (by decide)) rfl rfl hll [.inr (.inr v0), .inl v1, .inl v2, .inl v3] rfl (Nat.le_of_ble_eq_true rfl) ?_
  intro p e s m args below meth c D A G ls C hr hn ht hl hW hS hw
  exact s_X3_put C hr hll post v0 v1 v2 v3 _ _ _ _ hW hS hl hw

/-! X1_dropPartsOf -/
def wz_X1_dropPartsOf : List Cond := Cond.code yX1_dropPartsOf cX1_dropPartsOf 5 (some .int) :: w0
section Z_X1_dropPartsOf
variable {p : Program} {l : Launch} {e : Env} {s : State} {m : MethodId} {args : Array Value} {below : List Frame} {meth : Method} {c : Code} {D : va_G} {A : Nat → Prop}
set_option maxHeartbeats 4000000 in
set_option maxRecDepth 100000 in
theorem s_X1_dropPartsOf_45 {K : tK} (C : tc_B p l s m args meth c D K A wz_X1_dropPartsOf RX1 cX1_dropPartsOf 5) (hr : meth.sig.returnType = (some .int)) (hll : l.stackTraces = false)  (post : Int32 → tG → Prop) (k4 : Option Nat → Int32 → Int32 → Int32 → tG → Prop) (hk4 : ∀ (v0 : Option Nat) (v1 : Int32) (v2 : Int32) (v3 : Int32) (G : tG) (H : Heap) (locs : List Loc) (ls : Array Slot), tg_W D A s H G → va_S A s.heap H locs → tl ls 5 [(0, .inr (.inr v0)), (1, .inl v1), (2, .inl v2), (3, .inl v3)] → k4 v0 v1 v2 v3 G → W p l e ({ frames := 0, cells := 0, slots := 0, locals := 0 } : Room) s m args below meth c H locs 0 0 (MQ below (tc_Qc D A (retI post)) args s 0 0 A) (F0 m 4 ls [])) : ∀ (v0 : Option Nat) (v1 : Int32) (v2 : Int32) (v3 : Int32) (G : tG) (H : Heap) (locs : List Loc) (ls : Array Slot), tg_W D A s H G → va_S A s.heap H locs → tl ls 5 [(0, .inr (.inr v0)), (1, .inl v1), (2, .inl v2), (3, .inl v3)] → w_X1_dropPartsOf_45 K post k4 v0 v1 v2 v3 G → W p l e ({ frames := 0, cells := 0, slots := 0, locals := 0 } : Room) s m args below meth c H locs 0 0 (MQ below (tc_Qc D A (retI post)) args s 0 0 A) (F0 m 45 ls []) := by
  intro v0 v1 v2 v3 G H locs ls hW hS hl hw
  unfold w_X1_dropPartsOf_45 at hw
  refine tr_iinc C hl 3 (v3 + (1 : Int32)) [(3, .inl (v3 + (1 : Int32))), (0, .inr (.inr v0)), (1, .inl v1), (2, .inl v2)] rfl rfl (by decide) rfl dX1_dropPartsOf_45 (fun ls hl => ?_)
  refine lv_goto (tgt := 4) C.1.1 C.1.2.1 dX1_dropPartsOf_48 (by decide) ?_
  exact hk4 v0 v1 v2 ((v3 + (1 : Int32))) _ _ _ _ hW hS (tl_sub hl [1, 2, 3, 0] rfl) hw
set_option maxHeartbeats 4000000 in
set_option maxRecDepth 100000 in
theorem s_X1_dropPartsOf_4_b {K : tK} (C : tc_B p l s m args meth c D K A wz_X1_dropPartsOf RX1 cX1_dropPartsOf 5) (hr : meth.sig.returnType = (some .int)) (hll : l.stackTraces = false)  (post : Int32 → tG → Prop) (k4 : Option Nat → Int32 → Int32 → Int32 → tG → Prop) (hk4 : ∀ (v0 : Option Nat) (v1 : Int32) (v2 : Int32) (v3 : Int32) (G : tG) (H : Heap) (locs : List Loc) (ls : Array Slot), tg_W D A s H G → va_S A s.heap H locs → tl ls 5 [(0, .inr (.inr v0)), (1, .inl v1), (2, .inl v2), (3, .inl v3)] → k4 v0 v1 v2 v3 G → W p l e ({ frames := 0, cells := 0, slots := 0, locals := 0 } : Room) s m args below meth c H locs 0 0 (MQ below (tc_Qc D A (retI post)) args s 0 0 A) (F0 m 4 ls [])) : ∀ (v0 : Option Nat) (v1 : Int32) (v2 : Int32) (v3 : Int32) (G : tG) (H : Heap) (locs : List Loc) (ls : Array Slot), tg_W D A s H G → va_S A s.heap H locs → tl ls 5 [(0, .inr (.inr v0)), (1, .inl v1), (2, .inl v2), (3, .inl v3)] → w_X1_dropPartsOf_4_b K post k4 v0 v1 v2 v3 G → W p l e ({ frames := 0, cells := 0, slots := 0, locals := 0 } : Room) s m args below meth c H locs 0 0 (MQ below (tc_Qc D A (retI post)) args s 0 0 A) (F0 m 4 ls []) := by
  intro v0 v1 v2 v3 G H locs ls hW hS hl hw
  unfold w_X1_dropPartsOf_4_b at hw
  refine tr_iload_n (k := 3) (x := v3) C hl 3 rfl dX1_dropPartsOf_4 ?_
  refine tr_aload_n (k := 0) (x := v0) C hl 0 rfl dX1_dropPartsOf_5 ?_
  refine tr_gfR (C0 := RX1) (T := TX1) (N := 4) (ci := 3) (ref := "Twinrow") (k := 0) (r := v0) C (zh hw_X1) rfl (by decide) (zm kw_7) rfl dX1_dropPartsOf_6 hW hw (fun x_6 hw => ?_)
  refine tr_len (r := x_6) C dX1_dropPartsOf_9 hW hw (fun x_9 hw => ?_)
  refine lv_icmp_ge (tgt := 51) C.1.1 C.1.2.1 dX1_dropPartsOf_10 (by decide) (fun hc => ?_) (fun hc => ?_)
  · have hw := hw.1 hc
    refine tr_iload_n (k := 2) (x := v2) C hl 2 rfl dX1_dropPartsOf_51 ?_
    exact tr_iret C hr dX1_dropPartsOf_52 (Nat.le_of_ble_eq_true rfl) (Nat.le_of_ble_eq_true rfl) hW hS hw
  · have hw := hw.2 hc
    refine tr_aload_n (k := 0) (x := v0) C hl 0 rfl dX1_dropPartsOf_13 ?_
    refine tr_gfR (C0 := RX1) (T := TX1) (N := 4) (ci := 3) (ref := "Twinrow") (k := 0) (r := v0) C (zh hw_X1) rfl (by decide) (zm kw_7) rfl dX1_dropPartsOf_14 hW hw (fun x_14 hw => ?_)
    refine tr_iload_n (k := 3) (x := v3) C hl 3 rfl dX1_dropPartsOf_17 ?_
    refine tr_alR (ty := .object "Twinrow$RowList") C dX1_dropPartsOf_18 hW rfl hw (fun x_18 hw => ?_)
    refine tr_astore (x := x_18) C hl [(4, .inr (.inr x_18)), (0, .inr (.inr v0)), (1, .inl v1), (2, .inl v2), (3, .inl v3)] (by decide) rfl dX1_dropPartsOf_19 (fun ls hl => ?_)
    refine tr_aload (x := x_18) C hl 0 rfl dX1_dropPartsOf_21 ?_
    refine tr_ifnull (tgt := 45) C dX1_dropPartsOf_23 (by decide) (fun hc => ?_) (fun hc => ?_)
    · have hw := hw.1 hc
      exact s_X1_dropPartsOf_45 C hr hll post k4 hk4 v0 v1 v2 v3 _ _ _ _ hW hS (tl_sub hl [1, 2, 3, 4] rfl) hw
    · have hw := hw.2 hc
      refine tr_aload (x := x_18) C hl 0 rfl dX1_dropPartsOf_26 ?_
      refine tr_gfI (C0 := RX0) (T := TX0) (N := 4) (ci := 2) (ref := "Twinrow$RowList") (k := 0) (r := x_18) C (zh hw_X0) rfl (by decide) (zm kw_63) rfl dX1_dropPartsOf_28 hW hw (fun x_28 hw => ?_)
      refine tr_iload_n (k := 1) (x := v1) C hl 2 rfl dX1_dropPartsOf_31 ?_
      refine lv_icmp_ne (tgt := 45) C.1.1 C.1.2.1 dX1_dropPartsOf_32 (by decide) (fun hc => ?_) (fun hc => ?_)
      · have hw := hw.1 hc
        exact s_X1_dropPartsOf_45 C hr hll post k4 hk4 v0 v1 v2 v3 _ _ _ _ hW hS (tl_sub hl [1, 2, 3, 4] rfl) hw
      · have hw := hw.2 hc
        refine tr_aload_n (k := 0) (x := v0) C hl 1 rfl dX1_dropPartsOf_35 ?_
        refine tr_gfR (C0 := RX1) (T := TX1) (N := 4) (ci := 3) (ref := "Twinrow") (k := 0) (r := v0) C (zh hw_X1) rfl (by decide) (zm kw_7) rfl dX1_dropPartsOf_36 hW hw (fun x_36 hw => ?_)
        refine tr_iload_n (k := 3) (x := v3) C hl 4 rfl dX1_dropPartsOf_39 ?_
        refine tr_null C dX1_dropPartsOf_40 ?_
        refine tr_asR (C0 := "Twinrow$RowList") (r := x_36) (v := none) C dX1_dropPartsOf_41 hW hS rfl hw (fun G_41 H locs hw hW hS => ?_)
        refine tr_iinc C hl 3 (v2 + (1 : Int32)) [(2, .inl (v2 + (1 : Int32))), (4, .inr (.inr x_18)), (0, .inr (.inr v0)), (1, .inl v1), (3, .inl v3)] rfl rfl (by decide) rfl dX1_dropPartsOf_42 (fun ls hl => ?_)
        exact s_X1_dropPartsOf_45 C hr hll post k4 hk4 v0 v1 ((v2 + (1 : Int32))) v3 _ _ _ _ hW hS (tl_sub hl [2, 3, 0, 4] rfl) hw
set_option maxHeartbeats 4000000 in
set_option maxRecDepth 100000 in
theorem s_X1_dropPartsOf_4 {K : tK} (C : tc_B p l s m args meth c D K A wz_X1_dropPartsOf RX1 cX1_dropPartsOf 5) (hr : meth.sig.returnType = (some .int)) (hll : l.stackTraces = false)  (post : Int32 → tG → Prop) : ∀ (n : Nat) (v0 : Option Nat) (v1 : Int32) (v2 : Int32) (v3 : Int32) (G : tG) (H : Heap) (locs : List Loc) (ls : Array Slot), tg_W D A s H G → va_S A s.heap H locs → tl ls 5 [(0, .inr (.inr v0)), (1, .inl v1), (2, .inl v2), (3, .inl v3)] → w_X1_dropPartsOf_4 K post n v0 v1 v2 v3 G → W p l e ({ frames := 0, cells := 0, slots := 0, locals := 0 } : Room) s m args below meth c H locs 0 0 (MQ below (tc_Qc D A (retI post)) args s 0 0 A) (F0 m 4 ls []) := by
  intro n
  induction n with
  | zero =>
    intro v0 v1 v2 v3 G H locs ls hW hS hl hw
    exact hw.elim
  | succ n ih => exact s_X1_dropPartsOf_4_b C hr hll post _ ih
set_option maxHeartbeats 4000000 in
set_option maxRecDepth 100000 in
theorem s_X1_dropPartsOf {K : tK} (C : tc_B p l s m args meth c D K A wz_X1_dropPartsOf RX1 cX1_dropPartsOf 5) (hr : meth.sig.returnType = (some .int)) (hll : l.stackTraces = false)  (post : Int32 → tG → Prop) (v0 : Option Nat) (v1 : Int32) : ∀ (G : tG) (H : Heap) (locs : List Loc) (ls : Array Slot), tg_W D A s H G → va_S A s.heap H locs → tl ls 5 [(0, .inr (.inr v0)), (1, .inl v1)] → w_X1_dropPartsOf K post v0 v1 G → W p l e ({ frames := 0, cells := 0, slots := 0, locals := 0 } : Room) s m args below meth c H locs 0 0 (MQ below (tc_Qc D A (retI post)) args s 0 0 A) (F0 m 0 ls []) := by
  intro G H locs ls hW hS hl hw
  unfold w_X1_dropPartsOf at hw
  refine lv_iconst (v := (0 : Int32)) C.1.1 C.1.2.1 dX1_dropPartsOf_0 (by decide) ?_
  refine tr_istore_n (k := 2) (x := (0 : Int32)) C hl [(2, .inl (0 : Int32)), (0, .inr (.inr v0)), (1, .inl v1)] (by decide) rfl dX1_dropPartsOf_1 (fun ls hl => ?_)
  refine lv_iconst (v := (3 : Int32)) C.1.1 C.1.2.1 dX1_dropPartsOf_2 (by decide) ?_
  refine tr_istore_n (k := 3) (x := (3 : Int32)) C hl [(3, .inl (3 : Int32)), (2, .inl (0 : Int32)), (0, .inr (.inr v0)), (1, .inl v1)] (by decide) rfl dX1_dropPartsOf_3 (fun ls hl => ?_)
  obtain ⟨n4, hw⟩ := hw
  exact s_X1_dropPartsOf_4 C hr hll post n4 v0 v1 ((0 : Int32)) ((3 : Int32)) _ _ _ _ hW hS (tl_sub hl [2, 3, 1, 0] rfl) hw
end Z_X1_dropPartsOf
set_option maxHeartbeats 4000000 in
set_option maxRecDepth 100000 in
theorem c_X1_dropPartsOf (l : Launch) (hll : l.stackTraces = false) (K : tK) (post : Int32 → tG → Prop) (v0 : Option Nat) (v1 : Int32) : Ct l yX1_dropPartsOf wz_X1_dropPartsOf ({ frames := 0, cells := 0, slots := 0, locals := 0 } : Room) 0 0 [va_rf v0, .int v1] K (retI post) (fun G => w_X1_dropPartsOf K post v0 v1 G) := by
  refine tc_of (cc := cX1_dropPartsOf) (maxL := 5) (ret := (some .int)) (own := RX1) (plainFor_of_name (by decide)) rfl rfl hll [.inr (.inr v0), .inl v1] rfl (Nat.le_of_ble_eq_true rfl) ?_
  intro p e s m args below meth c D A G ls C hr hn ht hl hW hS hw
  exact s_X1_dropPartsOf C hr hll post v0 v1 _ _ _ _ hW hS hl hw

/-! X1_lay -/
def wz_X1_lay : List Cond := Cond.code yX1_lay cX1_lay 5 (some .int) :: w0
section Z_X1_lay
variable {p : Program} {l : Launch} {e : Env} {s : State} {m : MethodId} {args : Array Value} {below : List Frame} {meth : Method} {c : Code} {D : va_G} {A : Nat → Prop}
set_option maxHeartbeats 4000000 in
set_option maxRecDepth 100000 in
theorem s_X1_lay {K : tK} (C : tc_B p l s m args meth c D K A wz_X1_lay RX1 cX1_lay 5) (hr : meth.sig.returnType = (some .int)) (ht : ∀ x ∈ c.exceptionTable.toList, False) (hll : l.stackTraces = false)  (post : Int32 → tG → Prop) (postX : String → tG → Prop) (v0 : Option Nat) (v1 : Int32) (v2 : Int32) : ∀ (G : tG) (H : Heap) (locs : List Loc) (ls : Array Slot), tg_W D A s H G → va_S A s.heap H locs → tl ls 5 [(0, .inr (.inr v0)), (1, .inl v1), (2, .inl v2)] → w_X1_lay K post postX v0 v1 v2 G → W p l e ({ frames := 7, cells := 3, slots := 16, locals := 104 } : Room) s m args below meth c H locs 0 0 (vx_MQ below (tc_Qc D A (retI post)) (tc_XC D A postX) args s 3 16 A) (F0 m 0 ls []) := by
  intro G H locs ls hW hS hl hw
  unfold w_X1_lay at hw
  refine tr_aload_n (k := 0) (x := v0) C hl 0 rfl dX1_lay_0 ?_
  refine tr_iload_n (k := 1) (x := v1) C hl 1 rfl dX1_lay_1 ?_
  refine tx_backR (tx_runV (r := v0) (As := [.int v1]) C hl.1 (c_X1_twinAt l hll K _ _ v0 v1) (cwV 1 C.1.2.2.2.2 (gi_V (zm kw_121) (zm kw_122) (zm kw_123) (zm kw_33) (zm kw_120)) rfl rfl rfl (by decide +kernel) ⟨(Nat.le_of_ble_eq_true rfl), (Nat.le_of_ble_eq_true rfl)⟩) rfl rfl dX1_lay_2 ⟨(Nat.le_of_ble_eq_true rfl), (Nat.le_of_ble_eq_true rfl)⟩ [] rfl (Nat.le_of_ble_eq_true rfl) rfl hW hS hw) hS C.2.1 ht (Nat.le_of_ble_eq_true rfl) (Nat.le_of_ble_eq_true rfl) (fun x_2 G_2 H locs hw hW hS => ?_)
  refine tr_astore_n (k := 3) (x := x_2) C hl [(3, .inr (.inr x_2)), (0, .inr (.inr v0)), (1, .inl v1), (2, .inl v2)] (by decide) rfl dX1_lay_5 (fun ls hl => ?_)
  refine tr_iload_n (k := 2) (x := v2) C hl 3 rfl dX1_lay_6 ?_
  refine lv_iconst (v := (0 : Int32)) C.1.1 C.1.2.1 dX1_lay_7 (by decide) ?_
  refine lv_bipush (v := (12 : Int32)) C.1.1 C.1.2.1 dX1_lay_8 (by decide) ?_
  refine tx_backV (tx_runS (As := [.int v2, .int ((0 : Int32)), .int ((12 : Int32))]) C hl.1 (c_X1_checkNumber l hll K _ _ v2 ((0 : Int32)) ((12 : Int32))) (va_cwS 3 C.1.2.2.2.2 (gi_S (zm kw_89) (zm kw_90) (zm kw_33) (zm kw_88)) rfl rfl rfl (by decide +kernel) ⟨(Nat.le_of_ble_eq_true rfl), (Nat.le_of_ble_eq_true rfl)⟩) rfl dX1_lay_10 ⟨(Nat.le_of_ble_eq_true rfl), (Nat.le_of_ble_eq_true rfl)⟩ [] rfl (Nat.le_of_ble_eq_true rfl) rfl hW hS hw) hS C.2.1 ht (Nat.le_of_ble_eq_true rfl) (Nat.le_of_ble_eq_true rfl) (fun G_10 H locs hw hW hS => ?_)
  refine tr_new (C0 := RX0) (T := TX0) (N := 4) (ci := 2) (fs := [.int 0, .null, .int 0, .int 0]) C (zh hw_X0) tyX0 tyX0_ok (zm kw_8) (zm kw_9) (zm kw_10) rfl df_X0 (Nat.le_of_ble_eq_true rfl) (Nat.le_of_ble_eq_true rfl) dX1_lay_13 hW hS hw (fun r_13 G_13 H hw hW hS => ?_)
  refine lv_dup C.1.1 C.1.2.1 dX1_lay_16 (va_rf_cat _) ?_
  refine tr_iload_n (k := 1) (x := v1) C hl 2 rfl dX1_lay_17 ?_
  refine tr_aload_n (k := 3) (x := x_2) C hl 0 rfl dX1_lay_18 ?_
  refine tr_gfR (C0 := RX0) (T := TX0) (N := 4) (ci := 2) (ref := "Twinrow$RowList") (k := 1) (r := x_2) C (zh hw_X0) rfl (by decide) (zm kw_664) rfl dX1_lay_19 hW hw (fun x_19 hw => ?_)
  refine lv_iconst (v := (0 : Int32)) C.1.1 C.1.2.1 dX1_lay_22 (by decide) ?_
  refine tr_iload_n (k := 2) (x := v2) C hl 3 rfl dX1_lay_23 ?_
  refine tr_backV (tr_runI (r := r_13) (As := [.int v1, va_rf x_19, .int ((0 : Int32)), .int v2]) C hl.1 (c_X0_init l hll K _ r_13 v1 x_19 ((0 : Int32)) v2) (cwI 4 C.1.2.2.2.2 (gi_I  (zm kw_12)) rfl rfl rfl (C.1.2.2.2.2 _ (zm kw_10)) (C.1.2.2.2.2 _ (zm kw_13)) (C.1.2.2.2.2 _ (zm kw_14)) rfl (by decide +kernel) ⟨(Nat.le_of_ble_eq_true rfl), (Nat.le_of_ble_eq_true rfl)⟩) rfl dX1_lay_24 ⟨(Nat.le_of_ble_eq_true rfl), (Nat.le_of_ble_eq_true rfl)⟩ [.inr (.inr r_13)] rfl (Nat.le_of_ble_eq_true rfl) rfl hW hS hw) hS (fun G_24 H locs hw hW hS => ?_)
  refine tr_astore (x := r_13) C hl [(4, .inr (.inr r_13)), (3, .inr (.inr x_2)), (0, .inr (.inr v0)), (1, .inl v1), (2, .inl v2)] (by decide) rfl dX1_lay_27 (fun ls hl => ?_)
  refine tr_aload (x := r_13) C hl 0 rfl dX1_lay_29 ?_
  refine lv_iconst (v := (0 : Int32)) C.1.1 C.1.2.1 dX1_lay_31 (by decide) ?_
  refine tr_backV (tr_runS (As := [va_rf r_13, .int ((0 : Int32))]) C hl.1 (c_X1_writeAll l hll K _ r_13 ((0 : Int32))) (va_cwS 2 C.1.2.2.2.2 (gi_S (zm kw_338) (zm kw_339) (zm kw_33) (zm kw_337)) rfl rfl rfl (by decide +kernel) ⟨(Nat.le_of_ble_eq_true rfl), (Nat.le_of_ble_eq_true rfl)⟩) rfl dX1_lay_32 ⟨(Nat.le_of_ble_eq_true rfl), (Nat.le_of_ble_eq_true rfl)⟩ [] rfl (Nat.le_of_ble_eq_true rfl) rfl hW hS hw) hS (fun G_32 H locs hw hW hS => ?_)
  refine tr_aload_n (k := 0) (x := v0) C hl 2 rfl dX1_lay_35 ?_
  refine tr_gfR (C0 := RX1) (T := TX1) (N := 4) (ci := 3) (ref := "Twinrow") (k := 0) (r := v0) C (zh hw_X1) rfl (by decide) (zm kw_7) rfl dX1_lay_36 hW hw (fun x_36 hw => ?_)
  refine tr_iload_n (k := 1) (x := v1) C hl 3 rfl dX1_lay_39 ?_
  refine tr_aload (x := r_13) C hl 0 rfl dX1_lay_40 ?_
  refine tr_asR (C0 := "Twinrow$RowList") (r := x_36) (v := r_13) C dX1_lay_42 hW hS rfl hw (fun G_42 H locs hw hW hS => ?_)
  refine tr_aload_n (k := 0) (x := v0) C hl 2 rfl dX1_lay_43 ?_
  refine tr_iload_n (k := 1) (x := v1) C hl 3 rfl dX1_lay_44 ?_
  refine tr_backI (tr_runV (r := v0) (As := [.int v1]) C hl.1 (c_X1_dropPartsOf l hll K _ v0 v1) (cwV 1 C.1.2.2.2.2 (gi_V (zm kw_666) (zm kw_667) (zm kw_668) (zm kw_33) (zm kw_665)) rfl rfl rfl (by decide +kernel) ⟨(Nat.le_of_ble_eq_true rfl), (Nat.le_of_ble_eq_true rfl)⟩) rfl rfl dX1_lay_45 ⟨(Nat.le_of_ble_eq_true rfl), (Nat.le_of_ble_eq_true rfl)⟩ [] rfl (Nat.le_of_ble_eq_true rfl) rfl hW hS hw) hS (fun x_45 G_45 H locs hw hW hS => ?_)
  exact vx_ret (tr_iret C hr dX1_lay_48 (Nat.le_of_ble_eq_true rfl) (Nat.le_of_ble_eq_true rfl) hW hS hw)
end Z_X1_lay
set_option maxHeartbeats 4000000 in
set_option maxRecDepth 100000 in
theorem c_X1_lay (l : Launch) (hll : l.stackTraces = false) (K : tK) (post : Int32 → tG → Prop) (postX : String → tG → Prop) (v0 : Option Nat) (v1 : Int32) (v2 : Int32) : Cx l yX1_lay wz_X1_lay ({ frames := 7, cells := 3, slots := 16, locals := 104 } : Room) 3 16 [va_rf v0, .int v1, .int v2] K (retI post) postX (fun G => w_X1_lay K post postX v0 v1 v2 G) := by
  refine tx_of (cc := cX1_lay) (maxL := 5) (ret := (some .int)) (own := RX1) (by decide) rfl rfl hll [.inr (.inr v0), .inl v1, .inl v2] rfl (Nat.le_of_ble_eq_true rfl) ?_
  intro p e s m args below meth c D A G ls C hr hn ht hl hW hS hw
  exact s_X1_lay C hr ht hll post postX v0 v1 v2 _ _ _ _ hW hS hl hw

/-! L_lay -/
def wz_L_lay : List Cond := Cond.codeWith yL_lay cL_lay 5 (some .int) [(0, 11, 14, 19), (0, 11, 18, 21)] :: w0
section Z_L_lay
variable {p : Program} {l : Launch} {e : Env} {s : State} {m : MethodId} {args : Array Value} {below : List Frame} {meth : Method} {c : Code} {D : va_G} {A : Nat → Prop}
set_option maxHeartbeats 4000000 in
set_option maxRecDepth 100000 in
theorem s_L_lay {K : tK} (C : tc_B p l s m args meth c D K A wz_L_lay RL cL_lay 5) (hr : meth.sig.returnType = (some .int)) (htab : c.exceptionTable.toList = tableOf [(0, 11, 14, 19), (0, 11, 18, 21)]) (hcC : kx_C s) (hll : l.stackTraces = false)  (post : Int32 → tG → Prop) (v0 : Option Nat) (v1 : Int32) (v2 : Int32) (v3 : Option Nat) : ∀ (G : tG) (H : Heap) (locs : List Loc) (ls : Array Slot), tg_W D A s H G → va_S A s.heap H locs → tl ls 5 [(0, .inr (.inr v0)), (1, .inl v1), (2, .inl v2), (3, .inr (.inr v3))] → w_L_lay K post v0 v1 v2 v3 G → W p l e ({ frames := 8, cells := 3, slots := 16, locals := 128 } : Room) s m args below meth c H locs 0 0 (vx_MQ below (tc_Qc D A (retI post)) (tc_XC D A (fun _ _ => False)) args s 3 16 A) (F0 m 0 ls []) := by
  intro G H locs ls hW hS hl hw
  unfold w_L_lay at hw
  refine tr_aload_n (k := 3) (x := v3) C hl 3 rfl dL_lay_0 ?_
  refine tr_aload_n (k := 0) (x := v0) C hl 0 rfl dL_lay_1 ?_
  refine tr_iload_n (k := 1) (x := v1) C hl 1 rfl dL_lay_2 ?_
  refine tr_iload_n (k := 2) (x := v2) C hl 2 rfl dL_lay_3 ?_
  refine tx_backCI (tx_runV (r := v0) (As := [.int v1, .int v2]) C hl.1 (c_X1_lay l hll K _ _ v0 v1 v2) (cwV 2 C.1.2.2.2.2 (gi_V (zm kw_670) (zm kw_671) (zm kw_672) (zm kw_33) (zm kw_669)) rfl rfl rfl (by decide +kernel) ⟨(Nat.le_of_ble_eq_true rfl), (Nat.le_of_ble_eq_true rfl)⟩) rfl rfl dL_lay_4 ⟨(Nat.le_of_ble_eq_true rfl), (Nat.le_of_ble_eq_true rfl)⟩ [.inr (.inr v3)] rfl (Nat.le_of_ble_eq_true rfl) rfl hW hS hw) hS (fun E ce q9 GX H locs hw hW hS hce hcv hcl => ?_) (fun x_4 G_4 H locs hw hW hS => ?_)
  · by_cases hq0 : E = "java/lang/IndexOutOfBoundsException"
    · replace hw := hw.1 hq0
      subst hq0
      refine vx_catch (name := "java/lang/IndexOutOfBoundsException") C.1.2.2.2.1 [] (⟨0, 11, 14, 19⟩ : ExceptionTableEntry) [(⟨0, 11, 18, 21⟩ : ExceptionTableEntry)] (by rw [htab]; rfl) (fun z hz => nomatch hz) (by decide) (by decide) (C.1.2.2.2.2 _ (zm kw_209)) hcC.2.2.1 hce hcv hcl ?_
      refine tr_astore (x := (some q9)) C hl [(4, .inr (.inr (some q9))), (0, .inr (.inr v0)), (1, .inl v1), (2, .inl v2), (3, .inr (.inr v3))] (by decide) rfl dL_lay_14 (fun ls hl => ?_)
      refine lv_iconst (v := (1 : Int32)) C.1.1 C.1.2.1 dL_lay_16 (by decide) ?_
      exact vx_ret (tr_iret C hr dL_lay_17 (Nat.le_of_ble_eq_true rfl) (Nat.le_of_ble_eq_true rfl) hW hS hw)
    replace hw := hw.2 hq0
    by_cases hq1 : E = "java/lang/IllegalArgumentException"
    · replace hw := hw.1 hq1
      subst hq1
      refine vx_catch (name := "java/lang/IllegalArgumentException") C.1.2.2.2.1 [(⟨0, 11, 14, 19⟩ : ExceptionTableEntry)] (⟨0, 11, 18, 21⟩ : ExceptionTableEntry) [] (by rw [htab]; rfl) (kx_pass1 C hcC rfl (by decide) (zm kw_209)) (by decide) (by decide) (C.1.2.2.2.2 _ (zm kw_188)) hcC.2.2.2.1 hce hcv hcl ?_
      refine tr_astore (x := (some q9)) C hl [(4, .inr (.inr (some q9))), (0, .inr (.inr v0)), (1, .inl v1), (2, .inl v2), (3, .inr (.inr v3))] (by decide) rfl dL_lay_18 (fun ls hl => ?_)
      refine lv_iconst (v := (2 : Int32)) C.1.1 C.1.2.1 dL_lay_20 (by decide) ?_
      exact vx_ret (tr_iret C hr dL_lay_21 (Nat.le_of_ble_eq_true rfl) (Nat.le_of_ble_eq_true rfl) hW hS hw)
    replace hw := hw.2 hq1
    exact hw.elim
  · refine lv_i2l (v := ((x_4).toInt64)) C.1.1 C.1.2.1 dL_lay_7 rfl ?_
    refine tr_pfN (C0 := RX2) (T := TX2) (N := 2) (ci := 4) (ref := "TwinrowLaw$Out") (host := "TwinrowLaw") (k := 0) (ty := .long) (v := .long (((x_4).toInt64))) (r := v3) C (zh hw_X2) tyX2 tyX2_ok nmX2 rfl (by decide) hcC.1 rfl rfl (by decide +kernel) rfl rfl dL_lay_8 hW hS hw (fun G_8 H locs hw hW hS => ?_)
    refine lv_goto (tgt := 22) C.1.1 C.1.2.1 dL_lay_11 (by decide) ?_
    refine lv_iconst (v := (0 : Int32)) C.1.1 C.1.2.1 dL_lay_22 (by decide) ?_
    exact vx_ret (tr_iret C hr dL_lay_23 (Nat.le_of_ble_eq_true rfl) (Nat.le_of_ble_eq_true rfl) hW hS hw)
end Z_L_lay
set_option maxHeartbeats 4000000 in
set_option maxRecDepth 100000 in
theorem c_L_lay (l : Launch) (hll : l.stackTraces = false) (K : tK) (post : Int32 → tG → Prop) (v0 : Option Nat) (v1 : Int32) (v2 : Int32) (v3 : Option Nat) : Cx l yL_lay wz_L_lay ({ frames := 8, cells := 3, slots := 16, locals := 128 } : Room) 3 16 [va_rf v0, .int v1, .int v2, va_rf v3] K (retI post) (fun _ _ => False) (fun G => w_L_lay K post v0 v1 v2 v3 G) := by
  refine tx_ofH (cc := cL_lay) (maxL := 5) (ret := (some .int)) (own := RL) (hh := [(0, 11, 14, 19), (0, 11, 18, 21)]) (by decide) rfl rfl hll [.inr (.inr v0), .inl v1, .inl v2, .inr (.inr v3)] rfl (Nat.le_of_ble_eq_true rfl) ?_
  intro p e s m args below meth c D A G ls C hr htab hcC hl hW hS hw
  exact s_L_lay C hr htab hcC hll post v0 v1 v2 v3 _ _ _ _ hW hS hl hw
