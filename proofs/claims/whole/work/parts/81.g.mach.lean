/-! X1_lay -/
def wz_X1_lay : List Cond := Cond.code yX1_lay cX1_lay 5 (some .int) :: w0
section Z_X1_lay
variable {p : Program} {l : Launch} {e : Env} {s : State} {m : MethodId} {args : Array Value} {below : List Frame} {meth : Method} {c : Code} {D : va_G} {A : Nat → Prop}
set_option maxHeartbeats 4000000 in
set_option maxRecDepth 100000 in
theorem s_X1_lay {K : tK} (C : tc_B p l s m args meth c D K A wz_X1_lay RX1 cX1_lay 5) (hr : meth.sig.returnType = (some .int)) (ht : ∀ x ∈ c.exceptionTable.toList, False) (hll : l.stackTraces = false)  (post : Int32 → tG → Prop) (postX : String → tG → Prop) (v0 : Option Nat) (v1 : Int32) (v2 : Int32) : ∀ (G : tG) (H : Heap) (locs : List Loc) (ls : Array Slot), tg_W D A s H G → va_S A s.heap H locs → tl ls 5 [(0, .inr (.inr v0)), (1, .inl v1), (2, .inl v2)] → w_X1_lay K post postX v0 v1 v2 G → W p l e ({ frames := 7, cells := 3, slots := 16, locals := 104 } : Room) s m args below meth c H locs 0 0 (vx_MQ below (tc_Qc D A (retI post)) (tc_XC D A postX) args s 3 16 A) (F0 m 0 ls []) := by
  intro G H locs ls hW hS hl hw
  unfold w_X1_lay at hw
  refine tr_aload_n (k := 0) (x := v0) C hl 0 rfl dX1_lay_0 ?_
  refine tr_iload_n (k := 1) (x := v1) C hl 1 rfl dX1_lay_1 ?_
  refine tx_backR (tx_runV (r := v0) (As := [.int v1]) C hl.1 (c_X1_twinAt l hll K _ _ v0 v1) (cwV 1 C.1.2.2.2.2 (gi_V (zm kw_121) (zm kw_122) (zm kw_123) (zm kw_33) (zm kw_120)) rfl rfl rfl (by decide +kernel) ⟨(Nat.le_of_ble_eq_true rfl), (Nat.le_of_ble_eq_true rfl)⟩) rfl rfl dX1_lay_2 ⟨(Nat.le_of_ble_eq_true rfl), (Nat.le_of_ble_eq_true rfl)⟩ [] rfl (Nat.le_of_ble_eq_true rfl) rfl hW hS hw) hS C.2.1 ht (Nat.le_of_ble_eq_true rfl) (Nat.le_of_ble_eq_true rfl) (fun x_2 G_2 H locs hw hW hS => ?_)
  refine tr_astore_n (k := 3) (x := x_2) C hl [(3, .inr (.inr x_2)), (0, .inr (.inr v0)), (1, .inl v1), (2, .inl v2)] (by decide) rfl dX1_lay_5 (fun ls hl => ?_)
  refine tr_iload_n (k := 2) (x := v2) C hl 3 rfl dX1_lay_6 ?_
  refine lv_iconst (v := (0 : Int32)) C.1.1 C.1.2.1 dX1_lay_7 (by decide) ?_
  refine lv_bipush (v := (12 : Int32)) C.1.1 C.1.2.1 dX1_lay_8 (by decide) ?_
  refine tx_backV (tx_runS (As := [.int v2, .int ((0 : Int32)), .int ((12 : Int32))]) C hl.1 (c_X1_checkNumber l hll K _ _ v2 ((0 : Int32)) ((12 : Int32))) (va_cwS 3 C.1.2.2.2.2 (gi_S (zm kw_89) (zm kw_90) (zm kw_33) (zm kw_88)) rfl rfl rfl (by decide +kernel) ⟨(Nat.le_of_ble_eq_true rfl), (Nat.le_of_ble_eq_true rfl)⟩) rfl dX1_lay_10 ⟨(Nat.le_of_ble_eq_true rfl), (Nat.le_of_ble_eq_true rfl)⟩ [] rfl (Nat.le_of_ble_eq_true rfl) rfl hW hS hw) hS C.2.1 ht (Nat.le_of_ble_eq_true rfl) (Nat.le_of_ble_eq_true rfl) (fun G_10 H locs hw hW hS => ?_)
  refine tr_new (C0 := RX0) (T := TX0) (N := 4) (ci := 2) (fs := [.int 0, .null, .int 0, .int 0]) C (zh hw_X0) tyX0 tyX0_ok (zm kw_8) (zm kw_9) (zm kw_10) rfl df_X0 (Nat.le_of_ble_eq_true rfl) (Nat.le_of_ble_eq_true rfl) dX1_lay_13 hW hS hw (fun r_13 G_13 H hw hW hS => ?_)
  refine lv_dup C.1.1 C.1.2.1 dX1_lay_16 (va_rf_cat _) ?_
  refine tr_iload_n (k := 1) (x := v1) C hl 2 rfl dX1_lay_17 ?_
  refine tr_aload_n (k := 3) (x := x_2) C hl 0 rfl dX1_lay_18 ?_
  refine tr_gfR (C0 := RX0) (T := TX0) (N := 4) (ci := 2) (ref := "Twinrow$RowList") (k := 1) (r := x_2) C (zh hw_X0) rfl (by decide) (zm kw_668) rfl dX1_lay_19 hW hw (fun x_19 hw => ?_)
  refine lv_iconst (v := (0 : Int32)) C.1.1 C.1.2.1 dX1_lay_22 (by decide) ?_
  refine tr_iload_n (k := 2) (x := v2) C hl 3 rfl dX1_lay_23 ?_
  refine tr_backV (tr_runI (r := r_13) (As := [.int v1, va_rf x_19, .int ((0 : Int32)), .int v2]) C hl.1 (c_X0_init l hll K _ r_13 v1 x_19 ((0 : Int32)) v2) (cwI 4 C.1.2.2.2.2 (gi_I  (zm kw_12)) rfl rfl rfl (C.1.2.2.2.2 _ (zm kw_10)) (C.1.2.2.2.2 _ (zm kw_13)) (C.1.2.2.2.2 _ (zm kw_14)) rfl (by decide +kernel) ⟨(Nat.le_of_ble_eq_true rfl), (Nat.le_of_ble_eq_true rfl)⟩) rfl dX1_lay_24 ⟨(Nat.le_of_ble_eq_true rfl), (Nat.le_of_ble_eq_true rfl)⟩ [.inr (.inr r_13)] rfl (Nat.le_of_ble_eq_true rfl) rfl hW hS hw) hS (fun G_24 H locs hw hW hS => ?_)
  refine tr_astore (x := r_13) C hl [(4, .inr (.inr r_13)), (3, .inr (.inr x_2)), (0, .inr (.inr v0)), (1, .inl v1), (2, .inl v2)] (by decide) rfl dX1_lay_27 (fun ls hl => ?_)
  refine tr_aload (x := r_13) C hl 0 rfl dX1_lay_29 ?_
  refine lv_iconst (v := (0 : Int32)) C.1.1 C.1.2.1 dX1_lay_31 (by decide) ?_
  refine tr_backV (tr_runS (As := [va_rf r_13, .int ((0 : Int32))]) C hl.1 (c_X1_writeAll l hll K _ r_13 ((0 : Int32))) (va_cwS 2 C.1.2.2.2.2 (gi_S (zm kw_338) (zm kw_339) (zm kw_33) (zm kw_337)) rfl rfl rfl (by decide +kernel) ⟨(Nat.le_of_ble_eq_true rfl), (Nat.le_of_ble_eq_true rfl)⟩) rfl dX1_lay_32 ⟨(Nat.le_of_ble_eq_true rfl), (Nat.le_of_ble_eq_true rfl)⟩ [] rfl (Nat.le_of_ble_eq_true rfl) rfl hW hS hw) hS (fun G_32 H locs hw hW hS => ?_)
  refine tr_aload_n (k := 0) (x := v0) C hl 2 rfl dX1_lay_35 ?_
  refine tr_gfR (C0 := RX1) (T := TX1) (N := 4) (ci := 3) (ref := "Twinrow") (k := 0) (r := v0) C (zh hw_X1) rfl (by decide) (zm kw_7) rfl dX1_lay_36 hW hw (fun x_36 hw => ?_)
  refine tr_iload_n (k := 1) (x := v1) C hl 3 rfl dX1_lay_39 ?_
  refine tr_aload (x := r_13) C hl 0 rfl dX1_lay_40 ?_
  refine tr_asR (C0 := "Twinrow$RowList") (r := x_36) (v := r_13) C dX1_lay_42 hW hS rfl hw (fun G_42 H locs hw hW hS => ?_)
  refine tr_aload_n (k := 0) (x := v0) C hl 2 rfl dX1_lay_43 ?_
  refine tr_iload_n (k := 1) (x := v1) C hl 3 rfl dX1_lay_44 ?_
  refine tr_backI (tr_runV (r := v0) (As := [.int v1]) C hl.1 (c_X1_dropPartsOf l hll K _ v0 v1) (cwV 1 C.1.2.2.2.2 (gi_V (zm kw_670) (zm kw_671) (zm kw_672) (zm kw_33) (zm kw_669)) rfl rfl rfl (by decide +kernel) ⟨(Nat.le_of_ble_eq_true rfl), (Nat.le_of_ble_eq_true rfl)⟩) rfl rfl dX1_lay_45 ⟨(Nat.le_of_ble_eq_true rfl), (Nat.le_of_ble_eq_true rfl)⟩ [] rfl (Nat.le_of_ble_eq_true rfl) rfl hW hS hw) hS (fun x_45 G_45 H locs hw hW hS => ?_)
  exact vx_ret (tr_iret C hr dX1_lay_48 (Nat.le_of_ble_eq_true rfl) (Nat.le_of_ble_eq_true rfl) hW hS hw)
end Z_X1_lay
set_option maxHeartbeats 4000000 in
set_option maxRecDepth 100000 in
theorem c_X1_lay (l : Launch) (hll : l.stackTraces = false) (K : tK) (post : Int32 → tG → Prop) (postX : String → tG → Prop) (v0 : Option Nat) (v1 : Int32) (v2 : Int32) : Cx l yX1_lay wz_X1_lay ({ frames := 7, cells := 3, slots := 16, locals := 104 } : Room) 3 16 [va_rf v0, .int v1, .int v2] K (retI post) postX (fun G => w_X1_lay K post postX v0 v1 v2 G) := by
  refine tx_of (cc := cX1_lay) (maxL := 5) (ret := (some .int)) (own := RX1) (by decide) rfl rfl hll [.inr (.inr v0), .inl v1, .inl v2] rfl (Nat.le_of_ble_eq_true rfl) ?_
  intro p e s m args below meth c D A G ls C hr hn ht hl hW hS hw
  exact s_X1_lay C hr ht hll post postX v0 v1 v2 _ _ _ _ hW hS hl hw

/-! L_lay -/
def wz_L_lay : List Cond := Cond.codeWith yL_lay cL_lay 5 (some .int) [(0, 11, 14, 19), (0, 11, 18, 21)] :: w0
section Z_L_lay
variable {p : Program} {l : Launch} {e : Env} {s : State} {m : MethodId} {args : Array Value} {below : List Frame} {meth : Method} {c : Code} {D : va_G} {A : Nat → Prop}
set_option maxHeartbeats 4000000 in
set_option maxRecDepth 100000 in
theorem s_L_lay {K : tK} (C : tc_B p l s m args meth c D K A wz_L_lay RL cL_lay 5) (hr : meth.sig.returnType = (some .int)) (htab : c.exceptionTable.toList = tableOf [(0, 11, 14, 19), (0, 11, 18, 21)]) (hcC : kx_C s) (hll : l.stackTraces = false)  (post : Int32 → tG → Prop) (v0 : Option Nat) (v1 : Int32) (v2 : Int32) (v3 : Option Nat) : ∀ (G : tG) (H : Heap) (locs : List Loc) (ls : Array Slot), tg_W D A s H G → va_S A s.heap H locs → tl ls 5 [(0, .inr (.inr v0)), (1, .inl v1), (2, .inl v2), (3, .inr (.inr v3))] → w_L_lay K post v0 v1 v2 v3 G → W p l e ({ frames := 8, cells := 3, slots := 16, locals := 128 } : Room) s m args below meth c H locs 0 0 (vx_MQ below (tc_Qc D A (retI post)) (tc_XC D A (fun _ _ => False)) args s 3 16 A) (F0 m 0 ls []) := by
  intro G H locs ls hW hS hl hw
  unfold w_L_lay at hw
  refine tr_aload_n (k := 3) (x := v3) C hl 3 rfl dL_lay_0 ?_
  refine tr_aload_n (k := 0) (x := v0) C hl 0 rfl dL_lay_1 ?_
  refine tr_iload_n (k := 1) (x := v1) C hl 1 rfl dL_lay_2 ?_
  refine tr_iload_n (k := 2) (x := v2) C hl 2 rfl dL_lay_3 ?_
  refine tx_backCI (tx_runV (r := v0) (As := [.int v1, .int v2]) C hl.1 (c_X1_lay l hll K _ _ v0 v1 v2) (cwV 2 C.1.2.2.2.2 (gi_V (zm kw_674) (zm kw_675) (zm kw_676) (zm kw_33) (zm kw_673)) rfl rfl rfl (by decide +kernel) ⟨(Nat.le_of_ble_eq_true rfl), (Nat.le_of_ble_eq_true rfl)⟩) rfl rfl dL_lay_4 ⟨(Nat.le_of_ble_eq_true rfl), (Nat.le_of_ble_eq_true rfl)⟩ [.inr (.inr v3)] rfl (Nat.le_of_ble_eq_true rfl) rfl hW hS hw) hS (fun E ce q9 GX H locs hw hW hS hce hcv hcl => ?_) (fun x_4 G_4 H locs hw hW hS => ?_)
  · by_cases hq0 : E = "java/lang/IndexOutOfBoundsException"
    · replace hw := hw.1 hq0
      subst hq0
      refine vx_catch (name := "java/lang/IndexOutOfBoundsException") C.1.2.2.2.1 [] (⟨0, 11, 14, 19⟩ : ExceptionTableEntry) [(⟨0, 11, 18, 21⟩ : ExceptionTableEntry)] (by rw [htab]; rfl) (fun z hz => nomatch hz) (by decide) (by decide) (C.1.2.2.2.2 _ (zm kw_209)) hcC.2.2.1 hce hcv hcl ?_
      refine tr_astore (x := (some q9)) C hl [(4, .inr (.inr (some q9))), (0, .inr (.inr v0)), (1, .inl v1), (2, .inl v2), (3, .inr (.inr v3))] (by decide) rfl dL_lay_14 (fun ls hl => ?_)
      refine lv_iconst (v := (1 : Int32)) C.1.1 C.1.2.1 dL_lay_16 (by decide) ?_
      exact vx_ret (tr_iret C hr dL_lay_17 (Nat.le_of_ble_eq_true rfl) (Nat.le_of_ble_eq_true rfl) hW hS hw)
    replace hw := hw.2 hq0
    by_cases hq1 : E = "java/lang/IllegalArgumentException"
    · replace hw := hw.1 hq1
      subst hq1
      refine vx_catch (name := "java/lang/IllegalArgumentException") C.1.2.2.2.1 [(⟨0, 11, 14, 19⟩ : ExceptionTableEntry)] (⟨0, 11, 18, 21⟩ : ExceptionTableEntry) [] (by rw [htab]; rfl) (kx_pass1 C hcC rfl (by decide) (zm kw_209)) (by decide) (by decide) (C.1.2.2.2.2 _ (zm kw_188)) hcC.2.2.2.1 hce hcv hcl ?_
      refine tr_astore (x := (some q9)) C hl [(4, .inr (.inr (some q9))), (0, .inr (.inr v0)), (1, .inl v1), (2, .inl v2), (3, .inr (.inr v3))] (by decide) rfl dL_lay_18 (fun ls hl => ?_)
      refine lv_iconst (v := (2 : Int32)) C.1.1 C.1.2.1 dL_lay_20 (by decide) ?_
      exact vx_ret (tr_iret C hr dL_lay_21 (Nat.le_of_ble_eq_true rfl) (Nat.le_of_ble_eq_true rfl) hW hS hw)
    replace hw := hw.2 hq1
    exact hw.elim
  · refine lv_i2l (v := ((x_4).toInt64)) C.1.1 C.1.2.1 dL_lay_7 rfl ?_
    refine tr_pfN (C0 := RX2) (T := TX2) (N := 2) (ci := 4) (ref := "TwinrowLaw$Out") (host := "TwinrowLaw") (k := 0) (ty := .long) (v := .long (((x_4).toInt64))) (r := v3) C (zh hw_X2) tyX2 tyX2_ok nmX2 rfl (by decide) hcC.1 rfl rfl (by decide +kernel) rfl rfl dL_lay_8 hW hS hw (fun G_8 H locs hw hW hS => ?_)
    refine lv_goto (tgt := 22) C.1.1 C.1.2.1 dL_lay_11 (by decide) ?_
    refine lv_iconst (v := (0 : Int32)) C.1.1 C.1.2.1 dL_lay_22 (by decide) ?_
    exact vx_ret (tr_iret C hr dL_lay_23 (Nat.le_of_ble_eq_true rfl) (Nat.le_of_ble_eq_true rfl) hW hS hw)
end Z_L_lay
set_option maxHeartbeats 4000000 in
set_option maxRecDepth 100000 in
theorem c_L_lay (l : Launch) (hll : l.stackTraces = false) (K : tK) (post : Int32 → tG → Prop) (v0 : Option Nat) (v1 : Int32) (v2 : Int32) (v3 : Option Nat) : Cx l yL_lay wz_L_lay ({ frames := 8, cells := 3, slots := 16, locals := 128 } : Room) 3 16 [va_rf v0, .int v1, .int v2, va_rf v3] K (retI post) (fun _ _ => False) (fun G => w_L_lay K post v0 v1 v2 v3 G) := by
  refine tx_ofH (cc := cL_lay) (maxL := 5) (ret := (some .int)) (own := RL) (hh := [(0, 11, 14, 19), (0, 11, 18, 21)]) (by decide) rfl rfl hll [.inr (.inr v0), .inl v1, .inl v2, .inr (.inr v3)] rfl (Nat.le_of_ble_eq_true rfl) ?_
  intro p e s m args below meth c D A G ls C hr htab hcC hl hW hS hw
  exact s_L_lay C hr htab hcC hll post v0 v1 v2 v3 _ _ _ _ hW hS hl hw

/-! X3_lay -/
def wz_X3_lay : List Cond := Cond.code yX3_lay cX3_lay 5 (some .int) :: w0
section Z_X3_lay
variable {p : Program} {l : Launch} {e : Env} {s : State} {m : MethodId} {args : Array Value} {below : List Frame} {meth : Method} {c : Code} {D : va_G} {A : Nat → Prop}
set_option maxHeartbeats 4000000 in
set_option maxRecDepth 100000 in
theorem s_X3_lay_88 {K : tK} (C : tc_B p l s m args meth c D K A wz_X3_lay RX3 cX3_lay 5) (hr : meth.sig.returnType = (some .int)) (hll : l.stackTraces = false)  (post : Int32 → tG → Prop) (k59 : Option Nat → Int32 → Int32 → Int32 → tG → Prop) (hk59 : ∀ (v0 : Option Nat) (v1 : Int32) (v3 : Int32) (v4 : Int32) (G : tG) (H : Heap) (locs : List Loc) (ls : Array Slot), tg_W D A s H G → va_S A s.heap H locs → tl ls 5 [(0, .inr (.inr v0)), (1, .inl v1), (3, .inl v3), (4, .inl v4)] → k59 v0 v1 v3 v4 G → W p l e ({ frames := 1, cells := 1, slots := 12, locals := 22 } : Room) s m args below meth c H locs 1 12 (MQ below (tc_Qc D A (retI post)) args s 1 12 A) (F0 m 59 ls [])) : ∀ (v0 : Option Nat) (v1 : Int32) (v3 : Int32) (v4 : Int32) (G : tG) (H : Heap) (locs : List Loc) (ls : Array Slot), tg_W D A s H G → va_S A s.heap H locs → tl ls 5 [(0, .inr (.inr v0)), (1, .inl v1), (3, .inl v3), (4, .inl v4)] → w_X3_lay_88 K post k59 v0 v1 v3 v4 G → W p l e ({ frames := 1, cells := 1, slots := 12, locals := 22 } : Room) s m args below meth c H locs 1 12 (MQ below (tc_Qc D A (retI post)) args s 1 12 A) (F0 m 88 ls []) := by
  intro v0 v1 v3 v4 G H locs ls hW hS hl hw
  unfold w_X3_lay_88 at hw
  refine tr_iinc C hl 3 (v4 + (1 : Int32)) [(4, .inl (v4 + (1 : Int32))), (0, .inr (.inr v0)), (1, .inl v1), (3, .inl v3)] rfl rfl (by decide) rfl dX3_lay_88 (fun ls hl => ?_)
  refine lv_goto (tgt := 59) C.1.1 C.1.2.1 dX3_lay_91 (by decide) ?_
  exact hk59 v0 v1 v3 ((v4 + (1 : Int32))) _ _ _ _ hW hS (tl_sub hl [1, 2, 3, 0] rfl) hw
set_option maxHeartbeats 4000000 in
set_option maxRecDepth 100000 in
theorem s_X3_lay_59_b {K : tK} (C : tc_B p l s m args meth c D K A wz_X3_lay RX3 cX3_lay 5) (hr : meth.sig.returnType = (some .int)) (hll : l.stackTraces = false)  (post : Int32 → tG → Prop) (k59 : Option Nat → Int32 → Int32 → Int32 → tG → Prop) (hk59 : ∀ (v0 : Option Nat) (v1 : Int32) (v3 : Int32) (v4 : Int32) (G : tG) (H : Heap) (locs : List Loc) (ls : Array Slot), tg_W D A s H G → va_S A s.heap H locs → tl ls 5 [(0, .inr (.inr v0)), (1, .inl v1), (3, .inl v3), (4, .inl v4)] → k59 v0 v1 v3 v4 G → W p l e ({ frames := 1, cells := 1, slots := 12, locals := 22 } : Room) s m args below meth c H locs 1 12 (MQ below (tc_Qc D A (retI post)) args s 1 12 A) (F0 m 59 ls [])) : ∀ (v0 : Option Nat) (v1 : Int32) (v3 : Int32) (v4 : Int32) (G : tG) (H : Heap) (locs : List Loc) (ls : Array Slot), tg_W D A s H G → va_S A s.heap H locs → tl ls 5 [(0, .inr (.inr v0)), (1, .inl v1), (3, .inl v3), (4, .inl v4)] → w_X3_lay_59_b K post k59 v0 v1 v3 v4 G → W p l e ({ frames := 1, cells := 1, slots := 12, locals := 22 } : Room) s m args below meth c H locs 1 12 (MQ below (tc_Qc D A (retI post)) args s 1 12 A) (F0 m 59 ls []) := by
  intro v0 v1 v3 v4 G H locs ls hW hS hl hw
  unfold w_X3_lay_59_b at hw
  refine tr_iload (x := v4) C hl 3 rfl dX3_lay_59 ?_
  refine lv_bipush (v := (7 : Int32)) C.1.1 C.1.2.1 dX3_lay_61 (by decide) ?_
  refine lv_icmp_ge (tgt := 94) C.1.1 C.1.2.1 dX3_lay_63 (by decide) (fun hc => ?_) (fun hc => ?_)
  · have hw := hw.1 hc
    refine tr_iload_n (k := 3) (x := v3) C hl 2 rfl dX3_lay_94 ?_
    exact tr_iret C hr dX3_lay_95 (Nat.le_of_ble_eq_true rfl) (Nat.le_of_ble_eq_true rfl) hW hS hw
  · have hw := hw.2 hc
    refine tr_aload_n (k := 0) (x := v0) C hl 0 rfl dX3_lay_66 ?_
    refine tr_gfR (C0 := RX3) (T := TX3) (N := 8) (ci := 5) (ref := "TwinrowModel") (k := 1) (r := v0) C (zh hw_X3) rfl (by decide) (zm kw_22) rfl dX3_lay_67 hW hw (fun x_67 hw => ?_)
    refine tr_iload (x := v4) C hl 3 rfl dX3_lay_70 ?_
    refine tr_alI (r := x_67) C dX3_lay_72 hW hw (fun x_72 hw => ?_)
    refine tr_iload_n (k := 1) (x := v1) C hl 1 rfl dX3_lay_73 ?_
    refine lv_icmp_ne (tgt := 88) C.1.1 C.1.2.1 dX3_lay_74 (by decide) (fun hc => ?_) (fun hc => ?_)
    · have hw := hw.1 hc
      exact s_X3_lay_88 C hr hll post k59 hk59 v0 v1 v3 v4 _ _ _ _ hW hS (tl_sub hl [0, 1, 2, 3] rfl) hw
    · have hw := hw.2 hc
      refine tr_aload_n (k := 0) (x := v0) C hl 0 rfl dX3_lay_77 ?_
      refine tr_gfR (C0 := RX3) (T := TX3) (N := 8) (ci := 5) (ref := "TwinrowModel") (k := 1) (r := v0) C (zh hw_X3) rfl (by decide) (zm kw_22) rfl dX3_lay_78 hW hw (fun x_78 hw => ?_)
      refine tr_iload (x := v4) C hl 3 rfl dX3_lay_81 ?_
      refine lv_iconst (v := (-1 : Int32)) C.1.1 C.1.2.1 dX3_lay_83 (by decide) ?_
      refine tr_asI (r := x_78) C dX3_lay_84 hW hS hw (fun G_84 H locs hw hW hS => ?_)
      refine tr_iinc C hl 2 (v3 + (1 : Int32)) [(3, .inl (v3 + (1 : Int32))), (0, .inr (.inr v0)), (1, .inl v1), (4, .inl v4)] rfl rfl (by decide) rfl dX3_lay_85 (fun ls hl => ?_)
      exact s_X3_lay_88 C hr hll post k59 hk59 v0 v1 ((v3 + (1 : Int32))) v4 _ _ _ _ hW hS (tl_sub hl [1, 2, 0, 3] rfl) hw
set_option maxHeartbeats 4000000 in
set_option maxRecDepth 100000 in
theorem s_X3_lay_59 {K : tK} (C : tc_B p l s m args meth c D K A wz_X3_lay RX3 cX3_lay 5) (hr : meth.sig.returnType = (some .int)) (hll : l.stackTraces = false)  (post : Int32 → tG → Prop) : ∀ (n : Nat) (v0 : Option Nat) (v1 : Int32) (v3 : Int32) (v4 : Int32) (G : tG) (H : Heap) (locs : List Loc) (ls : Array Slot), tg_W D A s H G → va_S A s.heap H locs → tl ls 5 [(0, .inr (.inr v0)), (1, .inl v1), (3, .inl v3), (4, .inl v4)] → w_X3_lay_59 K post n v0 v1 v3 v4 G → W p l e ({ frames := 1, cells := 1, slots := 12, locals := 22 } : Room) s m args below meth c H locs 1 12 (MQ below (tc_Qc D A (retI post)) args s 1 12 A) (F0 m 59 ls []) := by
  intro n
  induction n with
  | zero =>
    intro v0 v1 v3 v4 G H locs ls hW hS hl hw
    exact hw.elim
  | succ n ih => exact s_X3_lay_59_b C hr hll post _ ih
set_option maxHeartbeats 4000000 in
set_option maxRecDepth 100000 in
theorem s_X3_lay_30 {K : tK} (C : tc_B p l s m args meth c D K A wz_X3_lay RX3 cX3_lay 5) (hr : meth.sig.returnType = (some .int)) (hll : l.stackTraces = false)  (post : Int32 → tG → Prop) : ∀ (v0 : Option Nat) (v1 : Int32) (v2 : Int32) (u0 : Option Nat) (u1 : Int32) (u2 : Int32) (G : tG) (H : Heap) (locs : List Loc) (ls : Array Slot), tg_W D A s H G → va_S A s.heap H locs → tl ls 5 [(0, .inr (.inr v0)), (1, .inl v1), (2, .inl v2)] → w_X3_lay_30 K post v0 v1 v2 u0 u1 u2 G → W p l e ({ frames := 1, cells := 1, slots := 12, locals := 22 } : Room) s m args below meth c H locs 0 0 (MQ below (tc_Qc D A (retI post)) args s 1 12 A) (F0 m 30 ls [.int u2, .int u1, va_rf u0]) := by
  intro v0 v1 v2 u0 u1 u2 G H locs ls hW hS hl hw
  unfold w_X3_lay_30 at hw
  refine tr_backI (tr_runV (r := u0) (As := [.int u1, .int u2]) C hl.1 (c_X3_fails l hll K _ u0 u1 u2) (cwV 2 C.1.2.2.2.2 (gi_V (zm kw_190) (zm kw_191) (zm kw_192) (zm kw_155) (zm kw_189)) rfl rfl rfl (by decide +kernel) ⟨(Nat.le_of_ble_eq_true rfl), (Nat.le_of_ble_eq_true rfl)⟩) rfl rfl dX3_lay_30 ⟨(Nat.le_of_ble_eq_true rfl), (Nat.le_of_ble_eq_true rfl)⟩ [] rfl (Nat.le_of_ble_eq_true rfl) rfl hW hS hw) hS (fun x_30 G_30 H locs hw hW hS => ?_)
  refine lv_if_eq (tgt := 38) C.1.1 C.1.2.1 dX3_lay_33 (by decide) (fun hc => ?_) (fun hc => ?_)
  · have hw := hw.1 hc
    refine tr_aload_n (k := 0) (x := v0) C hl 0 rfl dX3_lay_38 ?_
    refine tr_gfR (C0 := RX3) (T := TX3) (N := 8) (ci := 5) (ref := "TwinrowModel") (k := 0) (r := v0) C (zh hw_X3) rfl (by decide) (zm kw_21) rfl dX3_lay_39 hW hw (fun x_39 hw => ?_)
    refine tr_iload_n (k := 1) (x := v1) C hl 1 rfl dX3_lay_42 ?_
    refine tr_iload_n (k := 2) (x := v2) C hl 2 rfl dX3_lay_43 ?_
    refine tr_newarr (atype := .int) (ty := .int) (lim := 12) (z := (.inl (fun _ => 0))) C (zm kw_11) rfl (fun _ h => h) (fun _ _ => rfl) (Nat.le_of_ble_eq_true rfl) (Nat.le_of_ble_eq_true rfl) (Nat.le_of_ble_eq_true rfl) dX3_lay_44 hW hS hw (fun r_44 G_44 H hw hW hS => ?_)
    have hv0 := hw.1
    have hw := hw.2
    refine tr_asA (r := x_39) (v := r_44) C dX3_lay_46 hW hS hw hv0 (fun G_46 H locs hw hW hS => ?_)
    refine tr_aload_n (k := 0) (x := v0) C hl 0 rfl dX3_lay_47 ?_
    refine tr_gfR (C0 := RX3) (T := TX3) (N := 8) (ci := 5) (ref := "TwinrowModel") (k := 3) (r := v0) C (zh hw_X3) rfl (by decide) (zm kw_24) rfl dX3_lay_48 hW hw (fun x_48 hw => ?_)
    refine tr_iload_n (k := 1) (x := v1) C hl 1 rfl dX3_lay_51 ?_
    refine tr_iload_n (k := 2) (x := v2) C hl 2 rfl dX3_lay_52 ?_
    refine tr_asI (r := x_48) C dX3_lay_53 hW hS hw (fun G_53 H locs hw hW hS => ?_)
    refine lv_iconst (v := (0 : Int32)) C.1.1 C.1.2.1 dX3_lay_54 (by decide) ?_
    refine tr_istore_n (k := 3) (x := (0 : Int32)) C hl [(3, .inl (0 : Int32)), (0, .inr (.inr v0)), (1, .inl v1), (2, .inl v2)] (by decide) rfl dX3_lay_55 (fun ls hl => ?_)
    refine lv_iconst (v := (3 : Int32)) C.1.1 C.1.2.1 dX3_lay_56 (by decide) ?_
    refine tr_istore (x := (3 : Int32)) C hl [(4, .inl (3 : Int32)), (3, .inl (0 : Int32)), (0, .inr (.inr v0)), (1, .inl v1), (2, .inl v2)] (by decide) rfl dX3_lay_57 (fun ls hl => ?_)
    obtain ⟨n59, hw⟩ := hw
    exact s_X3_lay_59 C hr hll post n59 v0 v1 ((0 : Int32)) ((3 : Int32)) _ _ _ _ hW hS (tl_sub hl [2, 3, 1, 0] rfl) hw
  · have hw := hw.2 hc
    refine lv_iconst (v := (0 : Int32)) C.1.1 C.1.2.1 dX3_lay_36 (by decide) ?_
    exact tr_iret C hr dX3_lay_37 (Nat.le_of_ble_eq_true rfl) (Nat.le_of_ble_eq_true rfl) hW hS hw
set_option maxHeartbeats 4000000 in
set_option maxRecDepth 100000 in
theorem s_X3_lay_15 {K : tK} (C : tc_B p l s m args meth c D K A wz_X3_lay RX3 cX3_lay 5) (hr : meth.sig.returnType = (some .int)) (hll : l.stackTraces = false)  (post : Int32 → tG → Prop) : ∀ (v0 : Option Nat) (v1 : Int32) (v2 : Int32) (u0 : Option Nat) (u1 : Int32) (G : tG) (H : Heap) (locs : List Loc) (ls : Array Slot), tg_W D A s H G → va_S A s.heap H locs → tl ls 5 [(0, .inr (.inr v0)), (1, .inl v1), (2, .inl v2)] → w_X3_lay_15 K post v0 v1 v2 u0 u1 G → W p l e ({ frames := 1, cells := 1, slots := 12, locals := 22 } : Room) s m args below meth c H locs 0 0 (MQ below (tc_Qc D A (retI post)) args s 1 12 A) (F0 m 15 ls [.int u1, va_rf u0]) := by
  intro v0 v1 v2 u0 u1 G H locs ls hW hS hl hw
  unfold w_X3_lay_15 at hw
  refine tr_iload_n (k := 2) (x := v2) C hl 2 rfl dX3_lay_15 ?_
  refine lv_iconst (v := (0 : Int32)) C.1.1 C.1.2.1 dX3_lay_16 (by decide) ?_
  refine lv_bipush (v := (12 : Int32)) C.1.1 C.1.2.1 dX3_lay_17 (by decide) ?_
  refine tr_backI (tr_runS (As := [.int v2, .int ((0 : Int32)), .int ((12 : Int32))]) C hl.1 (c_X3_isIn l hll K _ v2 ((0 : Int32)) ((12 : Int32))) (va_cwS 3 C.1.2.2.2.2 (gi_S (zm kw_194) (zm kw_195) (zm kw_155) (zm kw_193)) rfl rfl rfl (by decide +kernel) ⟨(Nat.le_of_ble_eq_true rfl), (Nat.le_of_ble_eq_true rfl)⟩) rfl dX3_lay_19 ⟨(Nat.le_of_ble_eq_true rfl), (Nat.le_of_ble_eq_true rfl)⟩ [.inl u1, .inr (.inr u0)] rfl (Nat.le_of_ble_eq_true rfl) rfl hW hS hw) hS (fun x_19 G_19 H locs hw hW hS => ?_)
  refine lv_if_ne (tgt := 29) C.1.1 C.1.2.1 dX3_lay_22 (by decide) (fun hc => ?_) (fun hc => ?_)
  · have hw := hw.1 hc
    refine lv_iconst (v := (0 : Int32)) C.1.1 C.1.2.1 dX3_lay_29 (by decide) ?_
    exact s_X3_lay_30 C hr hll post v0 v1 v2 u0 u1 ((0 : Int32)) _ _ _ _ hW hS (tl_sub hl [0, 1, 2] rfl) hw
  · have hw := hw.2 hc
    refine lv_iconst (v := (1 : Int32)) C.1.1 C.1.2.1 dX3_lay_25 (by decide) ?_
    refine lv_goto (tgt := 30) C.1.1 C.1.2.1 dX3_lay_26 (by decide) ?_
    exact s_X3_lay_30 C hr hll post v0 v1 v2 u0 u1 ((1 : Int32)) _ _ _ _ hW hS (tl_sub hl [0, 1, 2] rfl) hw
set_option maxHeartbeats 4000000 in
set_option maxRecDepth 100000 in
theorem s_X3_lay {K : tK} (C : tc_B p l s m args meth c D K A wz_X3_lay RX3 cX3_lay 5) (hr : meth.sig.returnType = (some .int)) (hll : l.stackTraces = false)  (post : Int32 → tG → Prop) (v0 : Option Nat) (v1 : Int32) (v2 : Int32) : ∀ (G : tG) (H : Heap) (locs : List Loc) (ls : Array Slot), tg_W D A s H G → va_S A s.heap H locs → tl ls 5 [(0, .inr (.inr v0)), (1, .inl v1), (2, .inl v2)] → w_X3_lay K post v0 v1 v2 G → W p l e ({ frames := 1, cells := 1, slots := 12, locals := 22 } : Room) s m args below meth c H locs 0 0 (MQ below (tc_Qc D A (retI post)) args s 1 12 A) (F0 m 0 ls []) := by
  intro G H locs ls hW hS hl hw
  unfold w_X3_lay at hw
  refine tr_aload_n (k := 0) (x := v0) C hl 0 rfl dX3_lay_0 ?_
  refine tr_iload_n (k := 1) (x := v1) C hl 1 rfl dX3_lay_1 ?_
  refine lv_iconst (v := (0 : Int32)) C.1.1 C.1.2.1 dX3_lay_2 (by decide) ?_
  refine lv_iconst (v := (2 : Int32)) C.1.1 C.1.2.1 dX3_lay_3 (by decide) ?_
  refine tr_backI (tr_runS (As := [.int v1, .int ((0 : Int32)), .int ((2 : Int32))]) C hl.1 (c_X3_isIn l hll K _ v1 ((0 : Int32)) ((2 : Int32))) (va_cwS 3 C.1.2.2.2.2 (gi_S (zm kw_194) (zm kw_195) (zm kw_155) (zm kw_193)) rfl rfl rfl (by decide +kernel) ⟨(Nat.le_of_ble_eq_true rfl), (Nat.le_of_ble_eq_true rfl)⟩) rfl dX3_lay_4 ⟨(Nat.le_of_ble_eq_true rfl), (Nat.le_of_ble_eq_true rfl)⟩ [.inr (.inr v0)] rfl (Nat.le_of_ble_eq_true rfl) rfl hW hS hw) hS (fun x_4 G_4 H locs hw hW hS => ?_)
  refine lv_if_ne (tgt := 14) C.1.1 C.1.2.1 dX3_lay_7 (by decide) (fun hc => ?_) (fun hc => ?_)
  · have hw := hw.1 hc
    refine lv_iconst (v := (0 : Int32)) C.1.1 C.1.2.1 dX3_lay_14 (by decide) ?_
    exact s_X3_lay_15 C hr hll post v0 v1 v2 v0 ((0 : Int32)) _ _ _ _ hW hS (tl_sub hl [0, 1, 2] rfl) hw
  · have hw := hw.2 hc
    refine lv_iconst (v := (1 : Int32)) C.1.1 C.1.2.1 dX3_lay_10 (by decide) ?_
    refine lv_goto (tgt := 15) C.1.1 C.1.2.1 dX3_lay_11 (by decide) ?_
    exact s_X3_lay_15 C hr hll post v0 v1 v2 v0 ((1 : Int32)) _ _ _ _ hW hS (tl_sub hl [0, 1, 2] rfl) hw
end Z_X3_lay
set_option maxHeartbeats 4000000 in
set_option maxRecDepth 100000 in
theorem c_X3_lay (l : Launch) (hll : l.stackTraces = false) (K : tK) (post : Int32 → tG → Prop) (v0 : Option Nat) (v1 : Int32) (v2 : Int32) : Ct l yX3_lay wz_X3_lay ({ frames := 1, cells := 1, slots := 12, locals := 22 } : Room) 1 12 [va_rf v0, .int v1, .int v2] K (retI post) (fun G => w_X3_lay K post v0 v1 v2 G) := by
  refine tc_of (cc := cX3_lay) (maxL := 5) (ret := (some .int)) (own := RX3) (plainFor_of_name (by decide)) rfl rfl hll [.inr (.inr v0), .inl v1, .inl v2] rfl (Nat.le_of_ble_eq_true rfl) ?_
  intro p e s m args below meth c D A G ls C hr hn ht hl hW hS hw
  exact s_X3_lay C hr hll post v0 v1 v2 _ _ _ _ hW hS hl hw
