/-! X1_retainAll -/
def wz_X1_retainAll : List Cond := Cond.code yX1_retainAll cX1_retainAll 4 (some .int) :: w0
section Z_X1_retainAll
variable {p : Program} {l : Launch} {e : Env} {s : State} {m : MethodId} {args : Array Value} {below : List Frame} {meth : Method} {c : Code} {D : va_G} {A : Nat → Prop}
set_option maxHeartbeats 4000000 in
set_option maxRecDepth 100000 in
theorem s_X1_retainAll {K : tK} (C : tc_B p l s m args meth c D K A wz_X1_retainAll RX1 cX1_retainAll 4) (hr : meth.sig.returnType = (some .int)) (ht : ∀ x ∈ c.exceptionTable.toList, False) (hll : l.stackTraces = false)  (post : Int32 → tG → Prop) (postX : String → tG → Prop) (v0 : Option Nat) (v1 : Int32) (v2 : Int32) : ∀ (G : tG) (H : Heap) (locs : List Loc) (ls : Array Slot), tg_W D A s H G → va_S A s.heap H locs → tl ls 4 [(0, .inr (.inr v0)), (1, .inl v1), (2, .inl v2)] → w_X1_retainAll K post postX v0 v1 v2 G → W p l e ({ frames := 7, cells := 2, slots := 12, locals := 104 } : Room) s m args below meth c H locs 0 0 (vx_MQ below (tc_Qc D A (retI post)) (tc_XC D A postX) args s 2 12 A) (F0 m 0 ls []) := by
  intro G H locs ls hW hS hl hw
  unfold w_X1_retainAll at hw
  refine tr_aload_n (k := 0) (x := v0) C hl 0 rfl dX1_retainAll_0 ?_
  refine tr_iload_n (k := 1) (x := v1) C hl 1 rfl dX1_retainAll_1 ?_
  refine tx_backR (tx_runV (r := v0) (As := [.int v1]) C hl.1 (c_X1_listAt l hll K _ _ v0 v1) (cwV 1 C.1.2.2.2.2 (gi_V (zm kw_94) (zm kw_95) (zm kw_96) (zm kw_33) (zm kw_93)) rfl rfl rfl (by decide +kernel) ⟨(Nat.le_of_ble_eq_true rfl), (Nat.le_of_ble_eq_true rfl)⟩) rfl rfl dX1_retainAll_2 ⟨(Nat.le_of_ble_eq_true rfl), (Nat.le_of_ble_eq_true rfl)⟩ [] rfl (Nat.le_of_ble_eq_true rfl) rfl hW hS hw) hS C.2.1 ht (Nat.le_of_ble_eq_true rfl) (Nat.le_of_ble_eq_true rfl) (fun x_2 G_2 H locs hw hW hS => ?_)
  refine tr_astore_n (k := 3) (x := x_2) C hl [(3, .inr (.inr x_2)), (0, .inr (.inr v0)), (1, .inl v1), (2, .inl v2)] (by decide) rfl dX1_retainAll_5 (fun ls hl => ?_)
  refine tr_aload_n (k := 0) (x := v0) C hl 1 rfl dX1_retainAll_6 ?_
  refine tr_aload_n (k := 3) (x := x_2) C hl 0 rfl dX1_retainAll_7 ?_
  refine tr_aload_n (k := 0) (x := v0) C hl 1 rfl dX1_retainAll_8 ?_
  refine tr_iload_n (k := 2) (x := v2) C hl 3 rfl dX1_retainAll_9 ?_
  refine tx_backR (tx_runV (r := v0) (As := [.int v2]) C hl.1 (c_X1_listAt l hll K _ _ v0 v2) (cwV 1 C.1.2.2.2.2 (gi_V (zm kw_94) (zm kw_95) (zm kw_96) (zm kw_33) (zm kw_93)) rfl rfl rfl (by decide +kernel) ⟨(Nat.le_of_ble_eq_true rfl), (Nat.le_of_ble_eq_true rfl)⟩) rfl rfl dX1_retainAll_10 ⟨(Nat.le_of_ble_eq_true rfl), (Nat.le_of_ble_eq_true rfl)⟩ [.inr (.inr x_2), .inr (.inr v0)] rfl (Nat.le_of_ble_eq_true rfl) rfl hW hS hw) hS C.2.1 ht (Nat.le_of_ble_eq_true rfl) (Nat.le_of_ble_eq_true rfl) (fun x_10 G_10 H locs hw hW hS => ?_)
  refine lv_iconst (v := (0 : Int32)) C.1.1 C.1.2.1 dX1_retainAll_13 (by decide) ?_
  refine tr_backI (tr_runS (As := [va_rf x_2, va_rf x_10, .int ((0 : Int32))]) C hl.1 (c_X1_hasOneThatStands l hll K _ x_2 x_10 ((0 : Int32))) (va_cwS 3 C.1.2.2.2.2 (gi_S (zm kw_247) (zm kw_248) (zm kw_33) (zm kw_246)) rfl rfl rfl (by decide +kernel) ⟨(Nat.le_of_ble_eq_true rfl), (Nat.le_of_ble_eq_true rfl)⟩) rfl dX1_retainAll_14 ⟨(Nat.le_of_ble_eq_true rfl), (Nat.le_of_ble_eq_true rfl)⟩ [.inr (.inr v0)] rfl (Nat.le_of_ble_eq_true rfl) rfl hW hS hw) hS (fun x_14 G_14 H locs hw hW hS => ?_)
  refine tr_backI (tr_runV (r := v0) (As := [.int x_14]) C hl.1 (c_X1_refuseIf l hll K _ v0 x_14) (cwV 1 C.1.2.2.2.2 (gi_V (zm kw_202) (zm kw_203) (zm kw_204) (zm kw_33) (zm kw_201)) rfl rfl rfl (by decide +kernel) ⟨(Nat.le_of_ble_eq_true rfl), (Nat.le_of_ble_eq_true rfl)⟩) rfl rfl dX1_retainAll_17 ⟨(Nat.le_of_ble_eq_true rfl), (Nat.le_of_ble_eq_true rfl)⟩ [] rfl (Nat.le_of_ble_eq_true rfl) rfl hW hS hw) hS (fun x_17 G_17 H locs hw hW hS => ?_)
  exact vx_ret (tr_iret C hr dX1_retainAll_20 (Nat.le_of_ble_eq_true rfl) (Nat.le_of_ble_eq_true rfl) hW hS hw)
end Z_X1_retainAll
set_option maxHeartbeats 4000000 in
set_option maxRecDepth 100000 in
theorem c_X1_retainAll (l : Launch) (hll : l.stackTraces = false) (K : tK) (post : Int32 → tG → Prop) (postX : String → tG → Prop) (v0 : Option Nat) (v1 : Int32) (v2 : Int32) : Cx l yX1_retainAll wz_X1_retainAll ({ frames := 7, cells := 2, slots := 12, locals := 104 } : Room) 2 12 [va_rf v0, .int v1, .int v2] K (retI post) postX (fun G => w_X1_retainAll K post postX v0 v1 v2 G) := by
  refine tx_of (cc := cX1_retainAll) (maxL := 4) (ret := (some .int)) (own := RX1) (by decide) rfl rfl hll [.inr (.inr v0), .inl v1, .inl v2] rfl (Nat.le_of_ble_eq_true rfl) ?_
  intro p e s m args below meth c D A G ls C hr hn ht hl hW hS hw
  exact s_X1_retainAll C hr ht hll post postX v0 v1 v2 _ _ _ _ hW hS hl hw

/-! L_retainAll -/
def wz_L_retainAll : List Cond := Cond.codeWith yL_retainAll cL_retainAll 5 (some .int) [(0, 11, 14, 19)] :: w0
section Z_L_retainAll
variable {p : Program} {l : Launch} {e : Env} {s : State} {m : MethodId} {args : Array Value} {below : List Frame} {meth : Method} {c : Code} {D : va_G} {A : Nat → Prop}
set_option maxHeartbeats 4000000 in
set_option maxRecDepth 100000 in
theorem s_L_retainAll {K : tK} (C : tc_B p l s m args meth c D K A wz_L_retainAll RL cL_retainAll 5) (hr : meth.sig.returnType = (some .int)) (htab : c.exceptionTable.toList = tableOf [(0, 11, 14, 19)]) (hcC : kx_C s) (hll : l.stackTraces = false)  (post : Int32 → tG → Prop) (v0 : Option Nat) (v1 : Int32) (v2 : Int32) (v3 : Option Nat) : ∀ (G : tG) (H : Heap) (locs : List Loc) (ls : Array Slot), tg_W D A s H G → va_S A s.heap H locs → tl ls 5 [(0, .inr (.inr v0)), (1, .inl v1), (2, .inl v2), (3, .inr (.inr v3))] → w_L_retainAll K post v0 v1 v2 v3 G → W p l e ({ frames := 8, cells := 2, slots := 12, locals := 127 } : Room) s m args below meth c H locs 0 0 (vx_MQ below (tc_Qc D A (retI post)) (tc_XC D A (fun _ _ => False)) args s 2 12 A) (F0 m 0 ls []) := by
  intro G H locs ls hW hS hl hw
  unfold w_L_retainAll at hw
  refine tr_aload_n (k := 3) (x := v3) C hl 3 rfl dL_retainAll_0 ?_
  refine tr_aload_n (k := 0) (x := v0) C hl 0 rfl dL_retainAll_1 ?_
  refine tr_iload_n (k := 1) (x := v1) C hl 1 rfl dL_retainAll_2 ?_
  refine tr_iload_n (k := 2) (x := v2) C hl 2 rfl dL_retainAll_3 ?_
  refine tx_backCI (tx_runV (r := v0) (As := [.int v1, .int v2]) C hl.1 (c_X1_retainAll l hll K _ _ v0 v1 v2) (cwV 2 C.1.2.2.2.2 (gi_V (zm kw_250) (zm kw_251) (zm kw_252) (zm kw_33) (zm kw_249)) rfl rfl rfl (by decide +kernel) ⟨(Nat.le_of_ble_eq_true rfl), (Nat.le_of_ble_eq_true rfl)⟩) rfl rfl dL_retainAll_4 ⟨(Nat.le_of_ble_eq_true rfl), (Nat.le_of_ble_eq_true rfl)⟩ [.inr (.inr v3)] rfl (Nat.le_of_ble_eq_true rfl) rfl hW hS hw) hS (fun E ce q9 GX H locs hw hW hS hce hcv hcl => ?_) (fun x_4 G_4 H locs hw hW hS => ?_)
  · by_cases hq0 : E = "java/lang/IndexOutOfBoundsException"
    · replace hw := hw.1 hq0
      subst hq0
      refine vx_catch (name := "java/lang/IndexOutOfBoundsException") C.1.2.2.2.1 [] (⟨0, 11, 14, 19⟩ : ExceptionTableEntry) [] (by rw [htab]; rfl) (fun z hz => nomatch hz) (by decide) (by decide) (C.1.2.2.2.2 _ (zm kw_209)) hcC.2.2.1 hce hcv hcl ?_
      refine tr_astore (x := (some q9)) C hl [(4, .inr (.inr (some q9))), (0, .inr (.inr v0)), (1, .inl v1), (2, .inl v2), (3, .inr (.inr v3))] (by decide) rfl dL_retainAll_14 (fun ls hl => ?_)
      refine lv_iconst (v := (1 : Int32)) C.1.1 C.1.2.1 dL_retainAll_16 (by decide) ?_
      exact vx_ret (tr_iret C hr dL_retainAll_17 (Nat.le_of_ble_eq_true rfl) (Nat.le_of_ble_eq_true rfl) hW hS hw)
    replace hw := hw.2 hq0
    exact hw.elim
  · refine lv_i2l (v := ((x_4).toInt64)) C.1.1 C.1.2.1 dL_retainAll_7 rfl ?_
    refine tr_pfN (C0 := RX2) (T := TX2) (N := 2) (ci := 4) (ref := "TwinrowLaw$Out") (host := "TwinrowLaw") (k := 0) (ty := .long) (v := .long (((x_4).toInt64))) (r := v3) C (zh hw_X2) tyX2 tyX2_ok nmX2 rfl (by decide) hcC.1 rfl rfl (by decide +kernel) rfl rfl dL_retainAll_8 hW hS hw (fun G_8 H locs hw hW hS => ?_)
    refine lv_goto (tgt := 18) C.1.1 C.1.2.1 dL_retainAll_11 (by decide) ?_
    refine lv_iconst (v := (0 : Int32)) C.1.1 C.1.2.1 dL_retainAll_18 (by decide) ?_
    exact vx_ret (tr_iret C hr dL_retainAll_19 (Nat.le_of_ble_eq_true rfl) (Nat.le_of_ble_eq_true rfl) hW hS hw)
end Z_L_retainAll
set_option maxHeartbeats 4000000 in
set_option maxRecDepth 100000 in
theorem c_L_retainAll (l : Launch) (hll : l.stackTraces = false) (K : tK) (post : Int32 → tG → Prop) (v0 : Option Nat) (v1 : Int32) (v2 : Int32) (v3 : Option Nat) : Cx l yL_retainAll wz_L_retainAll ({ frames := 8, cells := 2, slots := 12, locals := 127 } : Room) 2 12 [va_rf v0, .int v1, .int v2, va_rf v3] K (retI post) (fun _ _ => False) (fun G => w_L_retainAll K post v0 v1 v2 v3 G) := by
  refine tx_ofH (cc := cL_retainAll) (maxL := 5) (ret := (some .int)) (own := RL) (hh := [(0, 11, 14, 19)]) (by decide) rfl rfl hll [.inr (.inr v0), .inl v1, .inl v2, .inr (.inr v3)] rfl (Nat.le_of_ble_eq_true rfl) ?_
  intro p e s m args below meth c D A G ls C hr htab hcC hl hW hS hw
  exact s_L_retainAll C hr htab hcC hll post v0 v1 v2 v3 _ _ _ _ hW hS hl hw

/-! X3_isNoPair -/
def wz_X3_isNoPair : List Cond := Cond.code yX3_isNoPair cX3_isNoPair 3 (some .boolean) :: w0
section Z_X3_isNoPair
variable {p : Program} {l : Launch} {e : Env} {s : State} {m : MethodId} {args : Array Value} {below : List Frame} {meth : Method} {c : Code} {D : va_G} {A : Nat → Prop}
set_option maxHeartbeats 4000000 in
set_option maxRecDepth 100000 in
theorem s_X3_isNoPair_21 {K : tK} (C : tc_B p l s m args meth c D K A wz_X3_isNoPair RX3 cX3_isNoPair 3) (hr : meth.sig.returnType = (some .boolean)) (hll : l.stackTraces = false)  (post : Int32 → tG → Prop) : ∀ (u0 : Int32) (G : tG) (H : Heap) (locs : List Loc) (ls : Array Slot), tg_W D A s H G → va_S A s.heap H locs → tl ls 3 [] → w_X3_isNoPair_21 K post u0 G → W p l e ({ frames := 2, cells := 0, slots := 0, locals := 43 } : Room) s m args below meth c H locs 0 0 (MQ below (tc_Qc D A (retI post)) args s 0 0 A) (F0 m 21 ls [.int u0]) := by
  intro u0 G H locs ls hW hS hl hw
  unfold w_X3_isNoPair_21 at hw
  exact tr_zret C hr dX3_isNoPair_21 (Nat.le_of_ble_eq_true rfl) (Nat.le_of_ble_eq_true rfl) hW hS hw
set_option maxHeartbeats 4000000 in
set_option maxRecDepth 100000 in
theorem s_X3_isNoPair_16 {K : tK} (C : tc_B p l s m args meth c D K A wz_X3_isNoPair RX3 cX3_isNoPair 3) (hr : meth.sig.returnType = (some .boolean)) (hll : l.stackTraces = false)  (post : Int32 → tG → Prop) : ∀ (G : tG) (H : Heap) (locs : List Loc) (ls : Array Slot), tg_W D A s H G → va_S A s.heap H locs → tl ls 3 [] → w_X3_isNoPair_16 K post G → W p l e ({ frames := 2, cells := 0, slots := 0, locals := 43 } : Room) s m args below meth c H locs 0 0 (MQ below (tc_Qc D A (retI post)) args s 0 0 A) (F0 m 16 ls []) := by
  intro G H locs ls hW hS hl hw
  unfold w_X3_isNoPair_16 at hw
  refine lv_iconst (v := (1 : Int32)) C.1.1 C.1.2.1 dX3_isNoPair_16 (by decide) ?_
  refine lv_goto (tgt := 21) C.1.1 C.1.2.1 dX3_isNoPair_17 (by decide) ?_
  exact s_X3_isNoPair_21 C hr hll post ((1 : Int32)) _ _ _ _ hW hS (tl_sub hl [] rfl) hw
set_option maxHeartbeats 4000000 in
set_option maxRecDepth 100000 in
theorem s_X3_isNoPair {K : tK} (C : tc_B p l s m args meth c D K A wz_X3_isNoPair RX3 cX3_isNoPair 3) (hr : meth.sig.returnType = (some .boolean)) (hll : l.stackTraces = false)  (post : Int32 → tG → Prop) (v0 : Option Nat) (v1 : Int32) (v2 : Int32) : ∀ (G : tG) (H : Heap) (locs : List Loc) (ls : Array Slot), tg_W D A s H G → va_S A s.heap H locs → tl ls 3 [(0, .inr (.inr v0)), (1, .inl v1), (2, .inl v2)] → w_X3_isNoPair K post v0 v1 v2 G → W p l e ({ frames := 2, cells := 0, slots := 0, locals := 43 } : Room) s m args below meth c H locs 0 0 (MQ below (tc_Qc D A (retI post)) args s 0 0 A) (F0 m 0 ls []) := by
  intro G H locs ls hW hS hl hw
  unfold w_X3_isNoPair at hw
  refine tr_aload_n (k := 0) (x := v0) C hl 0 rfl dX3_isNoPair_0 ?_
  refine tr_iload_n (k := 1) (x := v1) C hl 1 rfl dX3_isNoPair_1 ?_
  refine tr_backI (tr_runV (r := v0) (As := [.int v1]) C hl.1 (c_X3_isNoList l hll K _ v0 v1) (cwV 1 C.1.2.2.2.2 (gi_V (zm kw_211) (zm kw_212) (zm kw_213) (zm kw_155) (zm kw_210)) rfl rfl rfl (by decide +kernel) ⟨(Nat.le_of_ble_eq_true rfl), (Nat.le_of_ble_eq_true rfl)⟩) rfl rfl dX3_isNoPair_2 ⟨(Nat.le_of_ble_eq_true rfl), (Nat.le_of_ble_eq_true rfl)⟩ [] rfl (Nat.le_of_ble_eq_true rfl) rfl hW hS hw) hS (fun x_2 G_2 H locs hw hW hS => ?_)
  refine lv_if_ne (tgt := 16) C.1.1 C.1.2.1 dX3_isNoPair_5 (by decide) (fun hc => ?_) (fun hc => ?_)
  · have hw := hw.1 hc
    exact s_X3_isNoPair_16 C hr hll post _ _ _ _ hW hS (tl_sub hl [] rfl) hw
  · have hw := hw.2 hc
    refine tr_aload_n (k := 0) (x := v0) C hl 0 rfl dX3_isNoPair_8 ?_
    refine tr_iload_n (k := 2) (x := v2) C hl 2 rfl dX3_isNoPair_9 ?_
    refine tr_backI (tr_runV (r := v0) (As := [.int v2]) C hl.1 (c_X3_isNoList l hll K _ v0 v2) (cwV 1 C.1.2.2.2.2 (gi_V (zm kw_211) (zm kw_212) (zm kw_213) (zm kw_155) (zm kw_210)) rfl rfl rfl (by decide +kernel) ⟨(Nat.le_of_ble_eq_true rfl), (Nat.le_of_ble_eq_true rfl)⟩) rfl rfl dX3_isNoPair_10 ⟨(Nat.le_of_ble_eq_true rfl), (Nat.le_of_ble_eq_true rfl)⟩ [] rfl (Nat.le_of_ble_eq_true rfl) rfl hW hS hw) hS (fun x_10 G_10 H locs hw hW hS => ?_)
    refine lv_if_eq (tgt := 20) C.1.1 C.1.2.1 dX3_isNoPair_13 (by decide) (fun hc => ?_) (fun hc => ?_)
    · have hw := hw.1 hc
      refine lv_iconst (v := (0 : Int32)) C.1.1 C.1.2.1 dX3_isNoPair_20 (by decide) ?_
      exact s_X3_isNoPair_21 C hr hll post ((0 : Int32)) _ _ _ _ hW hS (tl_sub hl [] rfl) hw
    · have hw := hw.2 hc
      exact s_X3_isNoPair_16 C hr hll post _ _ _ _ hW hS (tl_sub hl [] rfl) hw
end Z_X3_isNoPair
set_option maxHeartbeats 4000000 in
set_option maxRecDepth 100000 in
theorem c_X3_isNoPair (l : Launch) (hll : l.stackTraces = false) (K : tK) (post : Int32 → tG → Prop) (v0 : Option Nat) (v1 : Int32) (v2 : Int32) : Ct l yX3_isNoPair wz_X3_isNoPair ({ frames := 2, cells := 0, slots := 0, locals := 43 } : Room) 0 0 [va_rf v0, .int v1, .int v2] K (retI post) (fun G => w_X3_isNoPair K post v0 v1 v2 G) := by
  refine tc_of (cc := cX3_isNoPair) (maxL := 3) (ret := (some .boolean)) (own := RX3) (plainFor_of_name (by decide)) rfl rfl hll [.inr (.inr v0), .inl v1, .inl v2] rfl (Nat.le_of_ble_eq_true rfl) ?_
  intro p e s m args below meth c D A G ls C hr hn ht hl hW hS hw
  exact s_X3_isNoPair C hr hll post v0 v1 v2 _ _ _ _ hW hS hl hw

/-! X3_oftenIn -/
def wz_X3_oftenIn : List Cond := Cond.code yX3_oftenIn cX3_oftenIn 7 (some .int) :: w0
section Z_X3_oftenIn
variable {p : Program} {l : Launch} {e : Env} {s : State} {m : MethodId} {args : Array Value} {below : List Frame} {meth : Method} {c : Code} {D : va_G} {A : Nat → Prop}
set_option maxHeartbeats 4000000 in
set_option maxRecDepth 100000 in
theorem s_X3_oftenIn_36 {K : tK} (C : tc_B p l s m args meth c D K A wz_X3_oftenIn RX3 cX3_oftenIn 7) (hr : meth.sig.returnType = (some .int)) (hll : l.stackTraces = false)  (post : Int32 → tG → Prop) (k11 : Int32 → Int32 → Option Nat → Int32 → Int32 → tG → Prop) (hk11 : ∀ (v1 : Int32) (v2 : Int32) (v3 : Option Nat) (v4 : Int32) (v5 : Int32) (G : tG) (H : Heap) (locs : List Loc) (ls : Array Slot), tg_W D A s H G → va_S A s.heap H locs → tl ls 7 [(1, .inl v1), (2, .inl v2), (3, .inr (.inr v3)), (4, .inl v4), (5, .inl v5)] → k11 v1 v2 v3 v4 v5 G → W p l e ({ frames := 1, cells := 0, slots := 0, locals := 20 } : Room) s m args below meth c H locs 0 0 (MQ below (tc_Qc D A (retI post)) args s 0 0 A) (F0 m 11 ls [])) : ∀ (v1 : Int32) (v3 : Option Nat) (v4 : Int32) (v5 : Int32) (u0 : Int32) (u1 : Int32) (G : tG) (H : Heap) (locs : List Loc) (ls : Array Slot), tg_W D A s H G → va_S A s.heap H locs → tl ls 7 [(1, .inl v1), (3, .inr (.inr v3)), (4, .inl v4), (5, .inl v5)] → w_X3_oftenIn_36 K post k11 v1 v3 v4 v5 u0 u1 G → W p l e ({ frames := 1, cells := 0, slots := 0, locals := 20 } : Room) s m args below meth c H locs 0 0 (MQ below (tc_Qc D A (retI post)) args s 0 0 A) (F0 m 36 ls [.int u1, .int u0]) := by
  intro v1 v3 v4 v5 u0 u1 G H locs ls hW hS hl hw
  unfold w_X3_oftenIn_36 at hw
  refine tr_backI (tr_runS (As := [.int u1]) C hl.1 (c_X3_one l hll K _ u1) (va_cwS 1 C.1.2.2.2.2 (gi_S (zm kw_161) (zm kw_162) (zm kw_155) (zm kw_160)) rfl rfl rfl (by decide +kernel) ⟨(Nat.le_of_ble_eq_true rfl), (Nat.le_of_ble_eq_true rfl)⟩) rfl dX3_oftenIn_36 ⟨(Nat.le_of_ble_eq_true rfl), (Nat.le_of_ble_eq_true rfl)⟩ [.inl u0] rfl (Nat.le_of_ble_eq_true rfl) rfl hW hS hw) hS (fun x_36 G_36 H locs hw hW hS => ?_)
  refine lv_iadd C.1.1 C.1.2.1 dX3_oftenIn_39 ?_
  refine tr_istore_n (k := 2) (x := (u0 + x_36)) C hl [(2, .inl (u0 + x_36)), (1, .inl v1), (3, .inr (.inr v3)), (4, .inl v4), (5, .inl v5)] (by decide) rfl dX3_oftenIn_40 (fun ls hl => ?_)
  refine tr_iinc C hl 4 (v5 + (1 : Int32)) [(5, .inl (v5 + (1 : Int32))), (2, .inl (u0 + x_36)), (1, .inl v1), (3, .inr (.inr v3)), (4, .inl v4)] rfl rfl (by decide) rfl dX3_oftenIn_41 (fun ls hl => ?_)
  refine lv_goto (tgt := 11) C.1.1 C.1.2.1 dX3_oftenIn_44 (by decide) ?_
  exact hk11 v1 ((u0 + x_36)) v3 v4 ((v5 + (1 : Int32))) _ _ _ _ hW hS (tl_sub hl [2, 1, 3, 4, 0] rfl) hw
set_option maxHeartbeats 4000000 in
set_option maxRecDepth 100000 in
theorem s_X3_oftenIn_11_b {K : tK} (C : tc_B p l s m args meth c D K A wz_X3_oftenIn RX3 cX3_oftenIn 7) (hr : meth.sig.returnType = (some .int)) (hll : l.stackTraces = false)  (post : Int32 → tG → Prop) (k11 : Int32 → Int32 → Option Nat → Int32 → Int32 → tG → Prop) (hk11 : ∀ (v1 : Int32) (v2 : Int32) (v3 : Option Nat) (v4 : Int32) (v5 : Int32) (G : tG) (H : Heap) (locs : List Loc) (ls : Array Slot), tg_W D A s H G → va_S A s.heap H locs → tl ls 7 [(1, .inl v1), (2, .inl v2), (3, .inr (.inr v3)), (4, .inl v4), (5, .inl v5)] → k11 v1 v2 v3 v4 v5 G → W p l e ({ frames := 1, cells := 0, slots := 0, locals := 20 } : Room) s m args below meth c H locs 0 0 (MQ below (tc_Qc D A (retI post)) args s 0 0 A) (F0 m 11 ls [])) : ∀ (v1 : Int32) (v2 : Int32) (v3 : Option Nat) (v4 : Int32) (v5 : Int32) (G : tG) (H : Heap) (locs : List Loc) (ls : Array Slot), tg_W D A s H G → va_S A s.heap H locs → tl ls 7 [(1, .inl v1), (2, .inl v2), (3, .inr (.inr v3)), (4, .inl v4), (5, .inl v5)] → w_X3_oftenIn_11_b K post k11 v1 v2 v3 v4 v5 G → W p l e ({ frames := 1, cells := 0, slots := 0, locals := 20 } : Room) s m args below meth c H locs 0 0 (MQ below (tc_Qc D A (retI post)) args s 0 0 A) (F0 m 11 ls []) := by
  intro v1 v2 v3 v4 v5 G H locs ls hW hS hl hw
  unfold w_X3_oftenIn_11_b at hw
  refine tr_iload (x := v5) C hl 4 rfl dX3_oftenIn_11 ?_
  refine tr_iload (x := v4) C hl 3 rfl dX3_oftenIn_13 ?_
  refine lv_icmp_ge (tgt := 47) C.1.1 C.1.2.1 dX3_oftenIn_15 (by decide) (fun hc => ?_) (fun hc => ?_)
  · have hw := hw.1 hc
    refine tr_iload_n (k := 2) (x := v2) C hl 1 rfl dX3_oftenIn_47 ?_
    exact tr_iret C hr dX3_oftenIn_48 (Nat.le_of_ble_eq_true rfl) (Nat.le_of_ble_eq_true rfl) hW hS hw
  · have hw := hw.2 hc
    refine tr_aload_n (k := 3) (x := v3) C hl 2 rfl dX3_oftenIn_18 ?_
    refine tr_iload (x := v5) C hl 4 rfl dX3_oftenIn_19 ?_
    refine tr_alI (r := v3) C dX3_oftenIn_21 hW hw (fun x_21 hw => ?_)
    refine tr_istore (x := x_21) C hl [(6, .inl x_21), (1, .inl v1), (2, .inl v2), (3, .inr (.inr v3)), (4, .inl v4), (5, .inl v5)] (by decide) rfl dX3_oftenIn_22 (fun ls hl => ?_)
    refine tr_iload_n (k := 2) (x := v2) C hl 2 rfl dX3_oftenIn_24 ?_
    refine tr_iload (x := x_21) C hl 0 rfl dX3_oftenIn_25 ?_
    refine tr_iload_n (k := 1) (x := v1) C hl 1 rfl dX3_oftenIn_27 ?_
    refine lv_icmp_ne (tgt := 35) C.1.1 C.1.2.1 dX3_oftenIn_28 (by decide) (fun hc => ?_) (fun hc => ?_)
    · have hw := hw.1 hc
      refine lv_iconst (v := (0 : Int32)) C.1.1 C.1.2.1 dX3_oftenIn_35 (by decide) ?_
      exact s_X3_oftenIn_36 C hr hll post k11 hk11 v1 v3 v4 v5 v2 ((0 : Int32)) _ _ _ _ hW hS (tl_sub hl [1, 3, 4, 5] rfl) hw
    · have hw := hw.2 hc
      refine lv_iconst (v := (1 : Int32)) C.1.1 C.1.2.1 dX3_oftenIn_31 (by decide) ?_
      refine lv_goto (tgt := 36) C.1.1 C.1.2.1 dX3_oftenIn_32 (by decide) ?_
      exact s_X3_oftenIn_36 C hr hll post k11 hk11 v1 v3 v4 v5 v2 ((1 : Int32)) _ _ _ _ hW hS (tl_sub hl [1, 3, 4, 5] rfl) hw
set_option maxHeartbeats 4000000 in
set_option maxRecDepth 100000 in
theorem s_X3_oftenIn_11 {K : tK} (C : tc_B p l s m args meth c D K A wz_X3_oftenIn RX3 cX3_oftenIn 7) (hr : meth.sig.returnType = (some .int)) (hll : l.stackTraces = false)  (post : Int32 → tG → Prop) : ∀ (n : Nat) (v1 : Int32) (v2 : Int32) (v3 : Option Nat) (v4 : Int32) (v5 : Int32) (G : tG) (H : Heap) (locs : List Loc) (ls : Array Slot), tg_W D A s H G → va_S A s.heap H locs → tl ls 7 [(1, .inl v1), (2, .inl v2), (3, .inr (.inr v3)), (4, .inl v4), (5, .inl v5)] → w_X3_oftenIn_11 K post n v1 v2 v3 v4 v5 G → W p l e ({ frames := 1, cells := 0, slots := 0, locals := 20 } : Room) s m args below meth c H locs 0 0 (MQ below (tc_Qc D A (retI post)) args s 0 0 A) (F0 m 11 ls []) := by
  intro n
  induction n with
  | zero =>
    intro v1 v2 v3 v4 v5 G H locs ls hW hS hl hw
    exact hw.elim
  | succ n ih => exact s_X3_oftenIn_11_b C hr hll post _ ih
set_option maxHeartbeats 4000000 in
set_option maxRecDepth 100000 in
theorem s_X3_oftenIn {K : tK} (C : tc_B p l s m args meth c D K A wz_X3_oftenIn RX3 cX3_oftenIn 7) (hr : meth.sig.returnType = (some .int)) (hll : l.stackTraces = false)  (post : Int32 → tG → Prop) (v0 : Option Nat) (v1 : Int32) : ∀ (G : tG) (H : Heap) (locs : List Loc) (ls : Array Slot), tg_W D A s H G → va_S A s.heap H locs → tl ls 7 [(0, .inr (.inr v0)), (1, .inl v1)] → w_X3_oftenIn K post v0 v1 G → W p l e ({ frames := 1, cells := 0, slots := 0, locals := 20 } : Room) s m args below meth c H locs 0 0 (MQ below (tc_Qc D A (retI post)) args s 0 0 A) (F0 m 0 ls []) := by
  intro G H locs ls hW hS hl hw
  unfold w_X3_oftenIn at hw
  refine lv_iconst (v := (0 : Int32)) C.1.1 C.1.2.1 dX3_oftenIn_0 (by decide) ?_
  refine tr_istore_n (k := 2) (x := (0 : Int32)) C hl [(2, .inl (0 : Int32)), (0, .inr (.inr v0)), (1, .inl v1)] (by decide) rfl dX3_oftenIn_1 (fun ls hl => ?_)
  refine tr_aload_n (k := 0) (x := v0) C hl 1 rfl dX3_oftenIn_2 ?_
  refine tr_astore_n (k := 3) (x := v0) C hl [(3, .inr (.inr v0)), (2, .inl (0 : Int32)), (0, .inr (.inr v0)), (1, .inl v1)] (by decide) rfl dX3_oftenIn_3 (fun ls hl => ?_)
  refine tr_aload_n (k := 3) (x := v0) C hl 0 rfl dX3_oftenIn_4 ?_
  refine tr_len (r := v0) C dX3_oftenIn_5 hW hw (fun x_5 hw => ?_)
  refine tr_istore (x := x_5) C hl [(4, .inl x_5), (3, .inr (.inr v0)), (2, .inl (0 : Int32)), (0, .inr (.inr v0)), (1, .inl v1)] (by decide) rfl dX3_oftenIn_6 (fun ls hl => ?_)
  refine lv_iconst (v := (0 : Int32)) C.1.1 C.1.2.1 dX3_oftenIn_8 (by decide) ?_
  refine tr_istore (x := (0 : Int32)) C hl [(5, .inl (0 : Int32)), (4, .inl x_5), (3, .inr (.inr v0)), (2, .inl (0 : Int32)), (0, .inr (.inr v0)), (1, .inl v1)] (by decide) rfl dX3_oftenIn_9 (fun ls hl => ?_)
  obtain ⟨n11, hw⟩ := hw
  exact s_X3_oftenIn_11 C hr hll post n11 v1 ((0 : Int32)) v0 x_5 ((0 : Int32)) _ _ _ _ hW hS (tl_sub hl [5, 3, 2, 1, 0] rfl) hw
end Z_X3_oftenIn
set_option maxHeartbeats 4000000 in
set_option maxRecDepth 100000 in
theorem c_X3_oftenIn (l : Launch) (hll : l.stackTraces = false) (K : tK) (post : Int32 → tG → Prop) (v0 : Option Nat) (v1 : Int32) : Ct l yX3_oftenIn wz_X3_oftenIn ({ frames := 1, cells := 0, slots := 0, locals := 20 } : Room) 0 0 [va_rf v0, .int v1] K (retI post) (fun G => w_X3_oftenIn K post v0 v1 G) := by
  refine tc_of (cc := cX3_oftenIn) (maxL := 7) (ret := (some .int)) (own := RX3) (plainFor_of_name (by decide)) rfl rfl hll [.inr (.inr v0), .inl v1] rfl (Nat.le_of_ble_eq_true rfl) ?_
  intro p e s m args below meth c D A G ls C hr hn ht hl hW hS hw
  exact s_X3_oftenIn C hr hll post v0 v1 _ _ _ _ hW hS hl hw

/-! X3_shared -/
def wz_X3_shared : List Cond := Cond.code yX3_shared cX3_shared 8 (some .int) :: w0
section Z_X3_shared
variable {p : Program} {l : Launch} {e : Env} {s : State} {m : MethodId} {args : Array Value} {below : List Frame} {meth : Method} {c : Code} {D : va_G} {A : Nat → Prop}
set_option maxHeartbeats 4000000 in
set_option maxRecDepth 100000 in
theorem s_X3_shared_50 {K : tK} (C : tc_B p l s m args meth c D K A wz_X3_shared RX3 cX3_shared 8) (hr : meth.sig.returnType = (some .int)) (hll : l.stackTraces = false)  (post : Int32 → tG → Prop) (k17 : Nat → Nat → Option Nat → Int32 → Int32 → Option Nat → Int32 → Int32 → tG → Prop) (hk17 : ∀ (nc ns : Nat) (v0 : Option Nat) (v2 : Int32) (v3 : Int32) (v4 : Option Nat) (v5 : Int32) (v6 : Int32) (G : tG) (H : Heap) (locs : List Loc) (ls : Array Slot), nc ≤ 13 ∧ ns ≤ 156 → tg_W D A s H G → va_S A s.heap H locs → tl ls 8 [(0, .inr (.inr v0)), (2, .inl v2), (3, .inl v3), (4, .inr (.inr v4)), (5, .inl v5), (6, .inl v6)] → k17 nc ns v0 v2 v3 v4 v5 v6 G → W p l e ({ frames := 2, cells := 13, slots := 156, locals := 46 } : Room) s m args below meth c H locs nc ns (MQ below (tc_Qc D A (retI post)) args s 13 156 A) (F0 m 17 ls [])) : ∀ (nc ns : Nat) (v0 : Option Nat) (v2 : Int32) (v4 : Option Nat) (v5 : Int32) (v6 : Int32) (u0 : Int32) (u1 : Int32) (G : tG) (H : Heap) (locs : List Loc) (ls : Array Slot), nc ≤ 13 ∧ ns ≤ 156 → tg_W D A s H G → va_S A s.heap H locs → tl ls 8 [(0, .inr (.inr v0)), (2, .inl v2), (4, .inr (.inr v4)), (5, .inl v5), (6, .inl v6)] → w_X3_shared_50 K post k17 nc ns v0 v2 v4 v5 v6 u0 u1 G → W p l e ({ frames := 2, cells := 13, slots := 156, locals := 46 } : Room) s m args below meth c H locs nc ns (MQ below (tc_Qc D A (retI post)) args s 13 156 A) (F0 m 50 ls [.int u1, .int u0]) := by
  intro nc ns v0 v2 v4 v5 v6 u0 u1 G H locs ls hcn hW hS hl hw
  unfold w_X3_shared_50 at hw
  refine tr_backI (tr_runS (As := [.int u1]) C hl.1 (c_X3_one l hll K _ u1) (va_cwS 1 C.1.2.2.2.2 (gi_S (zm kw_161) (zm kw_162) (zm kw_155) (zm kw_160)) rfl rfl rfl (by decide +kernel) ⟨(Nat.le_of_ble_eq_true rfl), (Nat.le_of_ble_eq_true rfl)⟩) rfl dX3_shared_50 ⟨(show nc + 0 ≤ 13 by omega), (show ns + 0 ≤ 156 by omega)⟩ [.inl u0] rfl (Nat.le_of_ble_eq_true rfl) rfl hW hS hw) hS (fun x_50 G_50 H locs hw hW hS => ?_)
  refine lv_iadd C.1.1 C.1.2.1 dX3_shared_53 ?_
  refine tr_istore_n (k := 3) (x := (u0 + x_50)) C hl [(3, .inl (u0 + x_50)), (0, .inr (.inr v0)), (2, .inl v2), (4, .inr (.inr v4)), (5, .inl v5), (6, .inl v6)] (by decide) rfl dX3_shared_54 (fun ls hl => ?_)
  refine tr_iinc C hl 5 (v6 + (1 : Int32)) [(6, .inl (v6 + (1 : Int32))), (3, .inl (u0 + x_50)), (0, .inr (.inr v0)), (2, .inl v2), (4, .inr (.inr v4)), (5, .inl v5)] rfl rfl (by decide) rfl dX3_shared_55 (fun ls hl => ?_)
  refine lv_goto (tgt := 17) C.1.1 C.1.2.1 dX3_shared_58 (by decide) ?_
  exact hk17 nc ns v0 v2 ((u0 + x_50)) v4 v5 ((v6 + (1 : Int32))) _ _ _ _ (show nc ≤ 13 ∧ ns ≤ 156 by omega) hW hS (tl_sub hl [2, 3, 1, 4, 5, 0] rfl) hw
set_option maxHeartbeats 4000000 in
set_option maxRecDepth 100000 in
theorem s_X3_shared_17_b {K : tK} (C : tc_B p l s m args meth c D K A wz_X3_shared RX3 cX3_shared 8) (hr : meth.sig.returnType = (some .int)) (hll : l.stackTraces = false)  (post : Int32 → tG → Prop) (k17 : Nat → Nat → Option Nat → Int32 → Int32 → Option Nat → Int32 → Int32 → tG → Prop) (hk17 : ∀ (nc ns : Nat) (v0 : Option Nat) (v2 : Int32) (v3 : Int32) (v4 : Option Nat) (v5 : Int32) (v6 : Int32) (G : tG) (H : Heap) (locs : List Loc) (ls : Array Slot), nc ≤ 13 ∧ ns ≤ 156 → tg_W D A s H G → va_S A s.heap H locs → tl ls 8 [(0, .inr (.inr v0)), (2, .inl v2), (3, .inl v3), (4, .inr (.inr v4)), (5, .inl v5), (6, .inl v6)] → k17 nc ns v0 v2 v3 v4 v5 v6 G → W p l e ({ frames := 2, cells := 13, slots := 156, locals := 46 } : Room) s m args below meth c H locs nc ns (MQ below (tc_Qc D A (retI post)) args s 13 156 A) (F0 m 17 ls [])) : ∀ (nc ns : Nat) (v0 : Option Nat) (v2 : Int32) (v3 : Int32) (v4 : Option Nat) (v5 : Int32) (v6 : Int32) (G : tG) (H : Heap) (locs : List Loc) (ls : Array Slot), nc ≤ 13 ∧ ns ≤ 156 → tg_W D A s H G → va_S A s.heap H locs → tl ls 8 [(0, .inr (.inr v0)), (2, .inl v2), (3, .inl v3), (4, .inr (.inr v4)), (5, .inl v5), (6, .inl v6)] → w_X3_shared_17_b K post k17 nc ns v0 v2 v3 v4 v5 v6 G → W p l e ({ frames := 2, cells := 13, slots := 156, locals := 46 } : Room) s m args below meth c H locs nc ns (MQ below (tc_Qc D A (retI post)) args s 13 156 A) (F0 m 17 ls []) := by
  intro nc ns v0 v2 v3 v4 v5 v6 G H locs ls hcn hW hS hl hw
  unfold w_X3_shared_17_b at hw
  refine tr_iload (x := v6) C hl 5 rfl dX3_shared_17 ?_
  refine tr_iload (x := v5) C hl 4 rfl dX3_shared_19 ?_
  refine lv_icmp_ge (tgt := 61) C.1.1 C.1.2.1 dX3_shared_21 (by decide) (fun hc => ?_) (fun hc => ?_)
  · have hw := hw.1 hc
    refine tr_iload_n (k := 3) (x := v3) C hl 2 rfl dX3_shared_61 ?_
    exact tr_iret C hr dX3_shared_62 (show nc ≤ 13 by omega) (show ns ≤ 156 by omega) hW hS hw
  · have hw := hw.2 hc
    refine tr_aload (x := v4) C hl 3 rfl dX3_shared_24 ?_
    refine tr_iload (x := v6) C hl 5 rfl dX3_shared_26 ?_
    refine tr_alI (r := v4) C dX3_shared_28 hW hw (fun x_28 hw => ?_)
    refine tr_istore (x := x_28) C hl [(7, .inl x_28), (0, .inr (.inr v0)), (2, .inl v2), (3, .inl v3), (4, .inr (.inr v4)), (5, .inl v5), (6, .inl v6)] (by decide) rfl dX3_shared_29 (fun ls hl => ?_)
    refine tr_iload_n (k := 3) (x := v3) C hl 3 rfl dX3_shared_31 ?_
    refine tr_aload_n (k := 0) (x := v0) C hl 1 rfl dX3_shared_32 ?_
    refine tr_iload_n (k := 2) (x := v2) C hl 2 rfl dX3_shared_33 ?_
    have hq1 := hw.1
    have hw := hw.2
    refine tr_backR (tr_runV (r := v0) (As := [.int v2]) C hl.1 (c_X3_all l hll K _ v0 v2) (cwV 1 C.1.2.2.2.2 (gi_V (zm kw_157) (zm kw_158) (zm kw_159) (zm kw_155) (zm kw_156)) rfl rfl rfl (by decide +kernel) ⟨(Nat.le_of_ble_eq_true rfl), (Nat.le_of_ble_eq_true rfl)⟩) rfl rfl dX3_shared_34 ⟨hq1.1, hq1.2⟩ [.inl v3] rfl (Nat.le_of_ble_eq_true rfl) rfl hW hS hw) hS (fun x_34 G_34 H locs hw hW hS => ?_)
    refine tr_iload (x := x_28) C hl 0 rfl dX3_shared_37 ?_
    refine tr_backI (tr_runS (As := [va_rf x_34, .int x_28]) C hl.1 (c_X3_oftenIn l hll K _ x_34 x_28) (va_cwS 2 C.1.2.2.2.2 (gi_S (zm kw_254) (zm kw_255) (zm kw_155) (zm kw_253)) rfl rfl rfl (by decide +kernel) ⟨(Nat.le_of_ble_eq_true rfl), (Nat.le_of_ble_eq_true rfl)⟩) rfl dX3_shared_39 ⟨(show (nc + 1) + 0 ≤ 13 by omega), (show (ns + 12) + 0 ≤ 156 by omega)⟩ [.inl v3] rfl (Nat.le_of_ble_eq_true rfl) rfl hW hS hw) hS (fun x_39 G_39 H locs hw hW hS => ?_)
    refine lv_if_le (tgt := 49) C.1.1 C.1.2.1 dX3_shared_42 (by decide) (fun hc => ?_) (fun hc => ?_)
    · have hw := hw.1 hc
      refine lv_iconst (v := (0 : Int32)) C.1.1 C.1.2.1 dX3_shared_49 (by decide) ?_
      exact s_X3_shared_50 C hr hll post k17 hk17 ((nc + 1)) ((ns + 12)) v0 v2 v4 v5 v6 v3 ((0 : Int32)) _ _ _ _ (show (nc + 1) ≤ 13 ∧ (ns + 12) ≤ 156 by omega) hW hS (tl_sub hl [1, 2, 4, 5, 6] rfl) hw
    · have hw := hw.2 hc
      refine lv_iconst (v := (1 : Int32)) C.1.1 C.1.2.1 dX3_shared_45 (by decide) ?_
      refine lv_goto (tgt := 50) C.1.1 C.1.2.1 dX3_shared_46 (by decide) ?_
      exact s_X3_shared_50 C hr hll post k17 hk17 ((nc + 1)) ((ns + 12)) v0 v2 v4 v5 v6 v3 ((1 : Int32)) _ _ _ _ (show (nc + 1) ≤ 13 ∧ (ns + 12) ≤ 156 by omega) hW hS (tl_sub hl [1, 2, 4, 5, 6] rfl) hw
set_option maxHeartbeats 4000000 in
set_option maxRecDepth 100000 in
theorem s_X3_shared_17 {K : tK} (C : tc_B p l s m args meth c D K A wz_X3_shared RX3 cX3_shared 8) (hr : meth.sig.returnType = (some .int)) (hll : l.stackTraces = false)  (post : Int32 → tG → Prop) : ∀ (n : Nat) (nc ns : Nat) (v0 : Option Nat) (v2 : Int32) (v3 : Int32) (v4 : Option Nat) (v5 : Int32) (v6 : Int32) (G : tG) (H : Heap) (locs : List Loc) (ls : Array Slot), nc ≤ 13 ∧ ns ≤ 156 → tg_W D A s H G → va_S A s.heap H locs → tl ls 8 [(0, .inr (.inr v0)), (2, .inl v2), (3, .inl v3), (4, .inr (.inr v4)), (5, .inl v5), (6, .inl v6)] → w_X3_shared_17 K post n nc ns v0 v2 v3 v4 v5 v6 G → W p l e ({ frames := 2, cells := 13, slots := 156, locals := 46 } : Room) s m args below meth c H locs nc ns (MQ below (tc_Qc D A (retI post)) args s 13 156 A) (F0 m 17 ls []) := by
  intro n
  induction n with
  | zero =>
    intro nc ns v0 v2 v3 v4 v5 v6 G H locs ls hcn hW hS hl hw
    exact hw.elim
  | succ n ih => exact s_X3_shared_17_b C hr hll post _ ih
set_option maxHeartbeats 4000000 in
set_option maxRecDepth 100000 in
theorem s_X3_shared {K : tK} (C : tc_B p l s m args meth c D K A wz_X3_shared RX3 cX3_shared 8) (hr : meth.sig.returnType = (some .int)) (hll : l.stackTraces = false)  (post : Int32 → tG → Prop) (v0 : Option Nat) (v1 : Int32) (v2 : Int32) : ∀ (G : tG) (H : Heap) (locs : List Loc) (ls : Array Slot), tg_W D A s H G → va_S A s.heap H locs → tl ls 8 [(0, .inr (.inr v0)), (1, .inl v1), (2, .inl v2)] → w_X3_shared K post v0 v1 v2 G → W p l e ({ frames := 2, cells := 13, slots := 156, locals := 46 } : Room) s m args below meth c H locs 0 0 (MQ below (tc_Qc D A (retI post)) args s 13 156 A) (F0 m 0 ls []) := by
  intro G H locs ls hW hS hl hw
  unfold w_X3_shared at hw
  refine lv_iconst (v := (0 : Int32)) C.1.1 C.1.2.1 dX3_shared_0 (by decide) ?_
  refine tr_istore_n (k := 3) (x := (0 : Int32)) C hl [(3, .inl (0 : Int32)), (0, .inr (.inr v0)), (1, .inl v1), (2, .inl v2)] (by decide) rfl dX3_shared_1 (fun ls hl => ?_)
  refine tr_aload_n (k := 0) (x := v0) C hl 1 rfl dX3_shared_2 ?_
  refine tr_iload_n (k := 1) (x := v1) C hl 2 rfl dX3_shared_3 ?_
  have hq2 := hw.1
  have hw := hw.2
  refine tr_backR (tr_runV (r := v0) (As := [.int v1]) C hl.1 (c_X3_all l hll K _ v0 v1) (cwV 1 C.1.2.2.2.2 (gi_V (zm kw_157) (zm kw_158) (zm kw_159) (zm kw_155) (zm kw_156)) rfl rfl rfl (by decide +kernel) ⟨(Nat.le_of_ble_eq_true rfl), (Nat.le_of_ble_eq_true rfl)⟩) rfl rfl dX3_shared_4 ⟨hq2.1, hq2.2⟩ [] rfl (Nat.le_of_ble_eq_true rfl) rfl hW hS hw) hS (fun x_4 G_4 H locs hw hW hS => ?_)
  refine tr_astore (x := x_4) C hl [(4, .inr (.inr x_4)), (3, .inl (0 : Int32)), (0, .inr (.inr v0)), (1, .inl v1), (2, .inl v2)] (by decide) rfl dX3_shared_7 (fun ls hl => ?_)
  refine tr_aload (x := x_4) C hl 0 rfl dX3_shared_9 ?_
  refine tr_len (r := x_4) C dX3_shared_11 hW hw (fun x_11 hw => ?_)
  refine tr_istore (x := x_11) C hl [(5, .inl x_11), (4, .inr (.inr x_4)), (3, .inl (0 : Int32)), (0, .inr (.inr v0)), (1, .inl v1), (2, .inl v2)] (by decide) rfl dX3_shared_12 (fun ls hl => ?_)
  refine lv_iconst (v := (0 : Int32)) C.1.1 C.1.2.1 dX3_shared_14 (by decide) ?_
  refine tr_istore (x := (0 : Int32)) C hl [(6, .inl (0 : Int32)), (5, .inl x_11), (4, .inr (.inr x_4)), (3, .inl (0 : Int32)), (0, .inr (.inr v0)), (1, .inl v1), (2, .inl v2)] (by decide) rfl dX3_shared_15 (fun ls hl => ?_)
  obtain ⟨n17, hw⟩ := hw
  exact s_X3_shared_17 C hr hll post n17 ((0 + 1)) ((0 + 12)) v0 v2 ((0 : Int32)) x_4 x_11 ((0 : Int32)) _ _ _ _ (show (0 + 1) ≤ 13 ∧ (0 + 12) ≤ 156 by omega) hW hS (tl_sub hl [4, 6, 3, 2, 1, 0] rfl) hw
end Z_X3_shared
set_option maxHeartbeats 4000000 in
set_option maxRecDepth 100000 in
theorem c_X3_shared (l : Launch) (hll : l.stackTraces = false) (K : tK) (post : Int32 → tG → Prop) (v0 : Option Nat) (v1 : Int32) (v2 : Int32) : Ct l yX3_shared wz_X3_shared ({ frames := 2, cells := 13, slots := 156, locals := 46 } : Room) 13 156 [va_rf v0, .int v1, .int v2] K (retI post) (fun G => w_X3_shared K post v0 v1 v2 G) := by
  refine tc_of (cc := cX3_shared) (maxL := 8) (ret := (some .int)) (own := RX3) (plainFor_of_name (by decide)) rfl rfl hll [.inr (.inr v0), .inl v1, .inl v2] rfl (Nat.le_of_ble_eq_true rfl) ?_
  intro p e s m args below meth c D A G ls C hr hn ht hl hW hS hw
  exact s_X3_shared C hr hll post v0 v1 v2 _ _ _ _ hW hS hl hw

/-! X3_retainAll -/
def wz_X3_retainAll : List Cond := Cond.code yX3_retainAll cX3_retainAll 3 (some .int) :: w0
section Z_X3_retainAll
variable {p : Program} {l : Launch} {e : Env} {s : State} {m : MethodId} {args : Array Value} {below : List Frame} {meth : Method} {c : Code} {D : va_G} {A : Nat → Prop}
set_option maxHeartbeats 4000000 in
set_option maxRecDepth 100000 in
theorem s_X3_retainAll_42 {K : tK} (C : tc_B p l s m args meth c D K A wz_X3_retainAll RX3 cX3_retainAll 3) (hr : meth.sig.returnType = (some .int)) (hll : l.stackTraces = false)  (post : Int32 → tG → Prop) : ∀ (u0 : Int32) (G : tG) (H : Heap) (locs : List Loc) (ls : Array Slot), tg_W D A s H G → va_S A s.heap H locs → tl ls 3 [] → w_X3_retainAll_42 K post u0 G → W p l e ({ frames := 3, cells := 13, slots := 156, locals := 73 } : Room) s m args below meth c H locs 13 156 (MQ below (tc_Qc D A (retI post)) args s 13 156 A) (F0 m 42 ls [.int u0]) := by
  intro u0 G H locs ls hW hS hl hw
  unfold w_X3_retainAll_42 at hw
  exact tr_iret C hr dX3_retainAll_42 (Nat.le_of_ble_eq_true rfl) (Nat.le_of_ble_eq_true rfl) hW hS hw
set_option maxHeartbeats 4000000 in
set_option maxRecDepth 100000 in
theorem s_X3_retainAll_39 {K : tK} (C : tc_B p l s m args meth c D K A wz_X3_retainAll RX3 cX3_retainAll 3) (hr : meth.sig.returnType = (some .int)) (hll : l.stackTraces = false)  (post : Int32 → tG → Prop) : ∀ (u0 : Option Nat) (u1 : Int32) (G : tG) (H : Heap) (locs : List Loc) (ls : Array Slot), tg_W D A s H G → va_S A s.heap H locs → tl ls 3 [] → w_X3_retainAll_39 K post u0 u1 G → W p l e ({ frames := 3, cells := 13, slots := 156, locals := 73 } : Room) s m args below meth c H locs 13 156 (MQ below (tc_Qc D A (retI post)) args s 13 156 A) (F0 m 39 ls [.int u1, va_rf u0]) := by
  intro u0 u1 G H locs ls hW hS hl hw
  unfold w_X3_retainAll_39 at hw
  refine tr_backI (tr_runV (r := u0) (As := [.int u1]) C hl.1 (c_X3_refusedIf l hll K _ u0 u1) (cwV 1 C.1.2.2.2.2 (gi_V (zm kw_227) (zm kw_228) (zm kw_229) (zm kw_155) (zm kw_226)) rfl rfl rfl (by decide +kernel) ⟨(Nat.le_of_ble_eq_true rfl), (Nat.le_of_ble_eq_true rfl)⟩) rfl rfl dX3_retainAll_39 ⟨(Nat.le_of_ble_eq_true rfl), (Nat.le_of_ble_eq_true rfl)⟩ [] rfl (Nat.le_of_ble_eq_true rfl) rfl hW hS hw) hS (fun x_39 G_39 H locs hw hW hS => ?_)
  exact s_X3_retainAll_42 C hr hll post x_39 _ _ _ _ hW hS (tl_sub hl [] rfl) hw
set_option maxHeartbeats 4000000 in
set_option maxRecDepth 100000 in
theorem s_X3_retainAll {K : tK} (C : tc_B p l s m args meth c D K A wz_X3_retainAll RX3 cX3_retainAll 3) (hr : meth.sig.returnType = (some .int)) (hll : l.stackTraces = false)  (post : Int32 → tG → Prop) (v0 : Option Nat) (v1 : Int32) (v2 : Int32) : ∀ (G : tG) (H : Heap) (locs : List Loc) (ls : Array Slot), tg_W D A s H G → va_S A s.heap H locs → tl ls 3 [(0, .inr (.inr v0)), (1, .inl v1), (2, .inl v2)] → w_X3_retainAll K post v0 v1 v2 G → W p l e ({ frames := 3, cells := 13, slots := 156, locals := 73 } : Room) s m args below meth c H locs 0 0 (MQ below (tc_Qc D A (retI post)) args s 13 156 A) (F0 m 0 ls []) := by
  intro G H locs ls hW hS hl hw
  unfold w_X3_retainAll at hw
  refine tr_aload_n (k := 0) (x := v0) C hl 0 rfl dX3_retainAll_0 ?_
  refine tr_aload_n (k := 0) (x := v0) C hl 0 rfl dX3_retainAll_1 ?_
  refine tr_iload_n (k := 1) (x := v1) C hl 1 rfl dX3_retainAll_2 ?_
  refine tr_iload_n (k := 2) (x := v2) C hl 2 rfl dX3_retainAll_3 ?_
  refine tr_backI (tr_runV (r := v0) (As := [.int v1, .int v2]) C hl.1 (c_X3_isNoPair l hll K _ v0 v1 v2) (cwV 2 C.1.2.2.2.2 (gi_V (zm kw_257) (zm kw_258) (zm kw_259) (zm kw_155) (zm kw_256)) rfl rfl rfl (by decide +kernel) ⟨(Nat.le_of_ble_eq_true rfl), (Nat.le_of_ble_eq_true rfl)⟩) rfl rfl dX3_retainAll_4 ⟨(Nat.le_of_ble_eq_true rfl), (Nat.le_of_ble_eq_true rfl)⟩ [.inr (.inr v0)] rfl (Nat.le_of_ble_eq_true rfl) rfl hW hS hw) hS (fun x_4 G_4 H locs hw hW hS => ?_)
  refine lv_iconst (v := (0 : Int32)) C.1.1 C.1.2.1 dX3_retainAll_7 (by decide) ?_
  refine tr_backI (tr_runV (r := v0) (As := [.int x_4, .int ((0 : Int32))]) C hl.1 (c_X3_fails l hll K _ v0 x_4 ((0 : Int32))) (cwV 2 C.1.2.2.2.2 (gi_V (zm kw_190) (zm kw_191) (zm kw_192) (zm kw_155) (zm kw_189)) rfl rfl rfl (by decide +kernel) ⟨(Nat.le_of_ble_eq_true rfl), (Nat.le_of_ble_eq_true rfl)⟩) rfl rfl dX3_retainAll_8 ⟨(Nat.le_of_ble_eq_true rfl), (Nat.le_of_ble_eq_true rfl)⟩ [] rfl (Nat.le_of_ble_eq_true rfl) rfl hW hS hw) hS (fun x_8 G_8 H locs hw hW hS => ?_)
  refine lv_if_eq (tgt := 18) C.1.1 C.1.2.1 dX3_retainAll_11 (by decide) (fun hc => ?_) (fun hc => ?_)
  · have hw := hw.1 hc
    refine tr_aload_n (k := 0) (x := v0) C hl 0 rfl dX3_retainAll_18 ?_
    refine tr_aload_n (k := 0) (x := v0) C hl 0 rfl dX3_retainAll_19 ?_
    refine tr_iload_n (k := 1) (x := v1) C hl 1 rfl dX3_retainAll_20 ?_
    refine tr_iload_n (k := 2) (x := v2) C hl 2 rfl dX3_retainAll_21 ?_
    refine tr_backI (tr_runV (r := v0) (As := [.int v1, .int v2]) C hl.1 (c_X3_shared l hll K _ v0 v1 v2) (cwV 2 C.1.2.2.2.2 (gi_V (zm kw_261) (zm kw_262) (zm kw_263) (zm kw_155) (zm kw_260)) rfl rfl rfl (by decide +kernel) ⟨(Nat.le_of_ble_eq_true rfl), (Nat.le_of_ble_eq_true rfl)⟩) rfl rfl dX3_retainAll_22 ⟨(Nat.le_of_ble_eq_true rfl), (Nat.le_of_ble_eq_true rfl)⟩ [.inr (.inr v0)] rfl (Nat.le_of_ble_eq_true rfl) rfl hW hS hw) hS (fun x_22 G_22 H locs hw hW hS => ?_)
    refine tr_aload_n (k := 0) (x := v0) C hl 0 rfl dX3_retainAll_25 ?_
    refine tr_gfR (C0 := RX3) (T := TX3) (N := 8) (ci := 5) (ref := "TwinrowModel") (k := 3) (r := v0) C (zh hw_X3) rfl (by decide) (zm kw_24) rfl dX3_retainAll_26 hW hw (fun x_26 hw => ?_)
    refine tr_iload_n (k := 1) (x := v1) C hl 1 rfl dX3_retainAll_29 ?_
    refine tr_alI (r := x_26) C dX3_retainAll_30 hW hw (fun x_30 hw => ?_)
    refine lv_icmp_ge (tgt := 38) C.1.1 C.1.2.1 dX3_retainAll_31 (by decide) (fun hc => ?_) (fun hc => ?_)
    · have hw := hw.1 hc
      refine lv_iconst (v := (0 : Int32)) C.1.1 C.1.2.1 dX3_retainAll_38 (by decide) ?_
      exact s_X3_retainAll_39 C hr hll post v0 ((0 : Int32)) _ _ _ _ hW hS (tl_sub hl [] rfl) hw
    · have hw := hw.2 hc
      refine lv_iconst (v := (1 : Int32)) C.1.1 C.1.2.1 dX3_retainAll_34 (by decide) ?_
      refine lv_goto (tgt := 39) C.1.1 C.1.2.1 dX3_retainAll_35 (by decide) ?_
      exact s_X3_retainAll_39 C hr hll post v0 ((1 : Int32)) _ _ _ _ hW hS (tl_sub hl [] rfl) hw
  · have hw := hw.2 hc
    refine lv_iconst (v := (0 : Int32)) C.1.1 C.1.2.1 dX3_retainAll_14 (by decide) ?_
    refine lv_goto (tgt := 42) C.1.1 C.1.2.1 dX3_retainAll_15 (by decide) ?_
    refine W.widen (k := 13) (n := 156) (Nat.le_of_ble_eq_true rfl) (Nat.le_of_ble_eq_true rfl) ?_
    exact s_X3_retainAll_42 C hr hll post ((0 : Int32)) _ _ _ _ hW hS (tl_sub hl [] rfl) hw
end Z_X3_retainAll
set_option maxHeartbeats 4000000 in
set_option maxRecDepth 100000 in
theorem c_X3_retainAll (l : Launch) (hll : l.stackTraces = false) (K : tK) (post : Int32 → tG → Prop) (v0 : Option Nat) (v1 : Int32) (v2 : Int32) : Ct l yX3_retainAll wz_X3_retainAll ({ frames := 3, cells := 13, slots := 156, locals := 73 } : Room) 13 156 [va_rf v0, .int v1, .int v2] K (retI post) (fun G => w_X3_retainAll K post v0 v1 v2 G) := by
  refine tc_of (cc := cX3_retainAll) (maxL := 3) (ret := (some .int)) (own := RX3) (plainFor_of_name (by decide)) rfl rfl hll [.inr (.inr v0), .inl v1, .inl v2] rfl (Nat.le_of_ble_eq_true rfl) ?_
  intro p e s m args below meth c D A G ls C hr hn ht hl hW hS hw
  exact s_X3_retainAll C hr hll post v0 v1 v2 _ _ _ _ hW hS hl hw

/-! X1_removeAll -/
def wz_X1_removeAll : List Cond := Cond.code yX1_removeAll cX1_removeAll 4 (some .int) :: w0
section Z_X1_removeAll
variable {p : Program} {l : Launch} {e : Env} {s : State} {m : MethodId} {args : Array Value} {below : List Frame} {meth : Method} {c : Code} {D : va_G} {A : Nat → Prop}
set_option maxHeartbeats 4000000 in
set_option maxRecDepth 100000 in
theorem s_X1_removeAll {K : tK} (C : tc_B p l s m args meth c D K A wz_X1_removeAll RX1 cX1_removeAll 4) (hr : meth.sig.returnType = (some .int)) (ht : ∀ x ∈ c.exceptionTable.toList, False) (hll : l.stackTraces = false)  (post : Int32 → tG → Prop) (postX : String → tG → Prop) (v0 : Option Nat) (v1 : Int32) (v2 : Int32) : ∀ (G : tG) (H : Heap) (locs : List Loc) (ls : Array Slot), tg_W D A s H G → va_S A s.heap H locs → tl ls 4 [(0, .inr (.inr v0)), (1, .inl v1), (2, .inl v2)] → w_X1_removeAll K post postX v0 v1 v2 G → W p l e ({ frames := 7, cells := 2, slots := 12, locals := 104 } : Room) s m args below meth c H locs 0 0 (vx_MQ below (tc_Qc D A (retI post)) (tc_XC D A postX) args s 2 12 A) (F0 m 0 ls []) := by
  intro G H locs ls hW hS hl hw
  unfold w_X1_removeAll at hw
  refine tr_aload_n (k := 0) (x := v0) C hl 0 rfl dX1_removeAll_0 ?_
  refine tr_iload_n (k := 1) (x := v1) C hl 1 rfl dX1_removeAll_1 ?_
  refine tx_backR (tx_runV (r := v0) (As := [.int v1]) C hl.1 (c_X1_listAt l hll K _ _ v0 v1) (cwV 1 C.1.2.2.2.2 (gi_V (zm kw_94) (zm kw_95) (zm kw_96) (zm kw_33) (zm kw_93)) rfl rfl rfl (by decide +kernel) ⟨(Nat.le_of_ble_eq_true rfl), (Nat.le_of_ble_eq_true rfl)⟩) rfl rfl dX1_removeAll_2 ⟨(Nat.le_of_ble_eq_true rfl), (Nat.le_of_ble_eq_true rfl)⟩ [] rfl (Nat.le_of_ble_eq_true rfl) rfl hW hS hw) hS C.2.1 ht (Nat.le_of_ble_eq_true rfl) (Nat.le_of_ble_eq_true rfl) (fun x_2 G_2 H locs hw hW hS => ?_)
  refine tr_astore_n (k := 3) (x := x_2) C hl [(3, .inr (.inr x_2)), (0, .inr (.inr v0)), (1, .inl v1), (2, .inl v2)] (by decide) rfl dX1_removeAll_5 (fun ls hl => ?_)
  refine tr_aload_n (k := 0) (x := v0) C hl 1 rfl dX1_removeAll_6 ?_
  refine tr_aload_n (k := 3) (x := x_2) C hl 0 rfl dX1_removeAll_7 ?_
  refine tr_aload_n (k := 0) (x := v0) C hl 1 rfl dX1_removeAll_8 ?_
  refine tr_iload_n (k := 2) (x := v2) C hl 3 rfl dX1_removeAll_9 ?_
  refine tx_backR (tx_runV (r := v0) (As := [.int v2]) C hl.1 (c_X1_listAt l hll K _ _ v0 v2) (cwV 1 C.1.2.2.2.2 (gi_V (zm kw_94) (zm kw_95) (zm kw_96) (zm kw_33) (zm kw_93)) rfl rfl rfl (by decide +kernel) ⟨(Nat.le_of_ble_eq_true rfl), (Nat.le_of_ble_eq_true rfl)⟩) rfl rfl dX1_removeAll_10 ⟨(Nat.le_of_ble_eq_true rfl), (Nat.le_of_ble_eq_true rfl)⟩ [.inr (.inr x_2), .inr (.inr v0)] rfl (Nat.le_of_ble_eq_true rfl) rfl hW hS hw) hS C.2.1 ht (Nat.le_of_ble_eq_true rfl) (Nat.le_of_ble_eq_true rfl) (fun x_10 G_10 H locs hw hW hS => ?_)
  refine lv_iconst (v := (1 : Int32)) C.1.1 C.1.2.1 dX1_removeAll_13 (by decide) ?_
  refine tr_backI (tr_runS (As := [va_rf x_2, va_rf x_10, .int ((1 : Int32))]) C hl.1 (c_X1_hasOneThatStands l hll K _ x_2 x_10 ((1 : Int32))) (va_cwS 3 C.1.2.2.2.2 (gi_S (zm kw_247) (zm kw_248) (zm kw_33) (zm kw_246)) rfl rfl rfl (by decide +kernel) ⟨(Nat.le_of_ble_eq_true rfl), (Nat.le_of_ble_eq_true rfl)⟩) rfl dX1_removeAll_14 ⟨(Nat.le_of_ble_eq_true rfl), (Nat.le_of_ble_eq_true rfl)⟩ [.inr (.inr v0)] rfl (Nat.le_of_ble_eq_true rfl) rfl hW hS hw) hS (fun x_14 G_14 H locs hw hW hS => ?_)
  refine tr_backI (tr_runV (r := v0) (As := [.int x_14]) C hl.1 (c_X1_refuseIf l hll K _ v0 x_14) (cwV 1 C.1.2.2.2.2 (gi_V (zm kw_202) (zm kw_203) (zm kw_204) (zm kw_33) (zm kw_201)) rfl rfl rfl (by decide +kernel) ⟨(Nat.le_of_ble_eq_true rfl), (Nat.le_of_ble_eq_true rfl)⟩) rfl rfl dX1_removeAll_17 ⟨(Nat.le_of_ble_eq_true rfl), (Nat.le_of_ble_eq_true rfl)⟩ [] rfl (Nat.le_of_ble_eq_true rfl) rfl hW hS hw) hS (fun x_17 G_17 H locs hw hW hS => ?_)
  exact vx_ret (tr_iret C hr dX1_removeAll_20 (Nat.le_of_ble_eq_true rfl) (Nat.le_of_ble_eq_true rfl) hW hS hw)
end Z_X1_removeAll
set_option maxHeartbeats 4000000 in
set_option maxRecDepth 100000 in
theorem c_X1_removeAll (l : Launch) (hll : l.stackTraces = false) (K : tK) (post : Int32 → tG → Prop) (postX : String → tG → Prop) (v0 : Option Nat) (v1 : Int32) (v2 : Int32) : Cx l yX1_removeAll wz_X1_removeAll ({ frames := 7, cells := 2, slots := 12, locals := 104 } : Room) 2 12 [va_rf v0, .int v1, .int v2] K (retI post) postX (fun G => w_X1_removeAll K post postX v0 v1 v2 G) := by
  refine tx_of (cc := cX1_removeAll) (maxL := 4) (ret := (some .int)) (own := RX1) (by decide) rfl rfl hll [.inr (.inr v0), .inl v1, .inl v2] rfl (Nat.le_of_ble_eq_true rfl) ?_
  intro p e s m args below meth c D A G ls C hr hn ht hl hW hS hw
  exact s_X1_removeAll C hr ht hll post postX v0 v1 v2 _ _ _ _ hW hS hl hw

/-! L_removeAll -/
def wz_L_removeAll : List Cond := Cond.codeWith yL_removeAll cL_removeAll 5 (some .int) [(0, 11, 14, 19)] :: w0
section Z_L_removeAll
variable {p : Program} {l : Launch} {e : Env} {s : State} {m : MethodId} {args : Array Value} {below : List Frame} {meth : Method} {c : Code} {D : va_G} {A : Nat → Prop}
set_option maxHeartbeats 4000000 in
set_option maxRecDepth 100000 in
theorem s_L_removeAll {K : tK} (C : tc_B p l s m args meth c D K A wz_L_removeAll RL cL_removeAll 5) (hr : meth.sig.returnType = (some .int)) (htab : c.exceptionTable.toList = tableOf [(0, 11, 14, 19)]) (hcC : kx_C s) (hll : l.stackTraces = false)  (post : Int32 → tG → Prop) (v0 : Option Nat) (v1 : Int32) (v2 : Int32) (v3 : Option Nat) : ∀ (G : tG) (H : Heap) (locs : List Loc) (ls : Array Slot), tg_W D A s H G → va_S A s.heap H locs → tl ls 5 [(0, .inr (.inr v0)), (1, .inl v1), (2, .inl v2), (3, .inr (.inr v3))] → w_L_removeAll K post v0 v1 v2 v3 G → W p l e ({ frames := 8, cells := 2, slots := 12, locals := 127 } : Room) s m args below meth c H locs 0 0 (vx_MQ below (tc_Qc D A (retI post)) (tc_XC D A (fun _ _ => False)) args s 2 12 A) (F0 m 0 ls []) := by
  intro G H locs ls hW hS hl hw
  unfold w_L_removeAll at hw
  refine tr_aload_n (k := 3) (x := v3) C hl 3 rfl dL_removeAll_0 ?_
  refine tr_aload_n (k := 0) (x := v0) C hl 0 rfl dL_removeAll_1 ?_
  refine tr_iload_n (k := 1) (x := v1) C hl 1 rfl dL_removeAll_2 ?_
  refine tr_iload_n (k := 2) (x := v2) C hl 2 rfl dL_removeAll_3 ?_
  refine tx_backCI (tx_runV (r := v0) (As := [.int v1, .int v2]) C hl.1 (c_X1_removeAll l hll K _ _ v0 v1 v2) (cwV 2 C.1.2.2.2.2 (gi_V (zm kw_265) (zm kw_266) (zm kw_267) (zm kw_33) (zm kw_264)) rfl rfl rfl (by decide +kernel) ⟨(Nat.le_of_ble_eq_true rfl), (Nat.le_of_ble_eq_true rfl)⟩) rfl rfl dL_removeAll_4 ⟨(Nat.le_of_ble_eq_true rfl), (Nat.le_of_ble_eq_true rfl)⟩ [.inr (.inr v3)] rfl (Nat.le_of_ble_eq_true rfl) rfl hW hS hw) hS (fun E ce q9 GX H locs hw hW hS hce hcv hcl => ?_) (fun x_4 G_4 H locs hw hW hS => ?_)
  · by_cases hq0 : E = "java/lang/IndexOutOfBoundsException"
    · replace hw := hw.1 hq0
      subst hq0
      refine vx_catch (name := "java/lang/IndexOutOfBoundsException") C.1.2.2.2.1 [] (⟨0, 11, 14, 19⟩ : ExceptionTableEntry) [] (by rw [htab]; rfl) (fun z hz => nomatch hz) (by decide) (by decide) (C.1.2.2.2.2 _ (zm kw_209)) hcC.2.2.1 hce hcv hcl ?_
      refine tr_astore (x := (some q9)) C hl [(4, .inr (.inr (some q9))), (0, .inr (.inr v0)), (1, .inl v1), (2, .inl v2), (3, .inr (.inr v3))] (by decide) rfl dL_removeAll_14 (fun ls hl => ?_)
      refine lv_iconst (v := (1 : Int32)) C.1.1 C.1.2.1 dL_removeAll_16 (by decide) ?_
      exact vx_ret (tr_iret C hr dL_removeAll_17 (Nat.le_of_ble_eq_true rfl) (Nat.le_of_ble_eq_true rfl) hW hS hw)
    replace hw := hw.2 hq0
    exact hw.elim
  · refine lv_i2l (v := ((x_4).toInt64)) C.1.1 C.1.2.1 dL_removeAll_7 rfl ?_
    refine tr_pfN (C0 := RX2) (T := TX2) (N := 2) (ci := 4) (ref := "TwinrowLaw$Out") (host := "TwinrowLaw") (k := 0) (ty := .long) (v := .long (((x_4).toInt64))) (r := v3) C (zh hw_X2) tyX2 tyX2_ok nmX2 rfl (by decide) hcC.1 rfl rfl (by decide +kernel) rfl rfl dL_removeAll_8 hW hS hw (fun G_8 H locs hw hW hS => ?_)
    refine lv_goto (tgt := 18) C.1.1 C.1.2.1 dL_removeAll_11 (by decide) ?_
    refine lv_iconst (v := (0 : Int32)) C.1.1 C.1.2.1 dL_removeAll_18 (by decide) ?_
    exact vx_ret (tr_iret C hr dL_removeAll_19 (Nat.le_of_ble_eq_true rfl) (Nat.le_of_ble_eq_true rfl) hW hS hw)
end Z_L_removeAll
set_option maxHeartbeats 4000000 in
set_option maxRecDepth 100000 in
theorem c_L_removeAll (l : Launch) (hll : l.stackTraces = false) (K : tK) (post : Int32 → tG → Prop) (v0 : Option Nat) (v1 : Int32) (v2 : Int32) (v3 : Option Nat) : Cx l yL_removeAll wz_L_removeAll ({ frames := 8, cells := 2, slots := 12, locals := 127 } : Room) 2 12 [va_rf v0, .int v1, .int v2, va_rf v3] K (retI post) (fun _ _ => False) (fun G => w_L_removeAll K post v0 v1 v2 v3 G) := by
  refine tx_ofH (cc := cL_removeAll) (maxL := 5) (ret := (some .int)) (own := RL) (hh := [(0, 11, 14, 19)]) (by decide) rfl rfl hll [.inr (.inr v0), .inl v1, .inl v2, .inr (.inr v3)] rfl (Nat.le_of_ble_eq_true rfl) ?_
  intro p e s m args below meth c D A G ls C hr htab hcC hl hW hS hw
  exact s_L_removeAll C hr htab hcC hll post v0 v1 v2 v3 _ _ _ _ hW hS hl hw

/-! X3_removeAll -/
def wz_X3_removeAll : List Cond := Cond.code yX3_removeAll cX3_removeAll 3 (some .int) :: w0
section Z_X3_removeAll
variable {p : Program} {l : Launch} {e : Env} {s : State} {m : MethodId} {args : Array Value} {below : List Frame} {meth : Method} {c : Code} {D : va_G} {A : Nat → Prop}
set_option maxHeartbeats 4000000 in
set_option maxRecDepth 100000 in
theorem s_X3_removeAll_36 {K : tK} (C : tc_B p l s m args meth c D K A wz_X3_removeAll RX3 cX3_removeAll 3) (hr : meth.sig.returnType = (some .int)) (hll : l.stackTraces = false)  (post : Int32 → tG → Prop) : ∀ (u0 : Int32) (G : tG) (H : Heap) (locs : List Loc) (ls : Array Slot), tg_W D A s H G → va_S A s.heap H locs → tl ls 3 [] → w_X3_removeAll_36 K post u0 G → W p l e ({ frames := 3, cells := 13, slots := 156, locals := 73 } : Room) s m args below meth c H locs 13 156 (MQ below (tc_Qc D A (retI post)) args s 13 156 A) (F0 m 36 ls [.int u0]) := by
  intro u0 G H locs ls hW hS hl hw
  unfold w_X3_removeAll_36 at hw
  exact tr_iret C hr dX3_removeAll_36 (Nat.le_of_ble_eq_true rfl) (Nat.le_of_ble_eq_true rfl) hW hS hw
set_option maxHeartbeats 4000000 in
set_option maxRecDepth 100000 in
theorem s_X3_removeAll_33 {K : tK} (C : tc_B p l s m args meth c D K A wz_X3_removeAll RX3 cX3_removeAll 3) (hr : meth.sig.returnType = (some .int)) (hll : l.stackTraces = false)  (post : Int32 → tG → Prop) : ∀ (u0 : Option Nat) (u1 : Int32) (G : tG) (H : Heap) (locs : List Loc) (ls : Array Slot), tg_W D A s H G → va_S A s.heap H locs → tl ls 3 [] → w_X3_removeAll_33 K post u0 u1 G → W p l e ({ frames := 3, cells := 13, slots := 156, locals := 73 } : Room) s m args below meth c H locs 13 156 (MQ below (tc_Qc D A (retI post)) args s 13 156 A) (F0 m 33 ls [.int u1, va_rf u0]) := by
  intro u0 u1 G H locs ls hW hS hl hw
  unfold w_X3_removeAll_33 at hw
  refine tr_backI (tr_runV (r := u0) (As := [.int u1]) C hl.1 (c_X3_refusedIf l hll K _ u0 u1) (cwV 1 C.1.2.2.2.2 (gi_V (zm kw_227) (zm kw_228) (zm kw_229) (zm kw_155) (zm kw_226)) rfl rfl rfl (by decide +kernel) ⟨(Nat.le_of_ble_eq_true rfl), (Nat.le_of_ble_eq_true rfl)⟩) rfl rfl dX3_removeAll_33 ⟨(Nat.le_of_ble_eq_true rfl), (Nat.le_of_ble_eq_true rfl)⟩ [] rfl (Nat.le_of_ble_eq_true rfl) rfl hW hS hw) hS (fun x_33 G_33 H locs hw hW hS => ?_)
  exact s_X3_removeAll_36 C hr hll post x_33 _ _ _ _ hW hS (tl_sub hl [] rfl) hw
set_option maxHeartbeats 4000000 in
set_option maxRecDepth 100000 in
theorem s_X3_removeAll {K : tK} (C : tc_B p l s m args meth c D K A wz_X3_removeAll RX3 cX3_removeAll 3) (hr : meth.sig.returnType = (some .int)) (hll : l.stackTraces = false)  (post : Int32 → tG → Prop) (v0 : Option Nat) (v1 : Int32) (v2 : Int32) : ∀ (G : tG) (H : Heap) (locs : List Loc) (ls : Array Slot), tg_W D A s H G → va_S A s.heap H locs → tl ls 3 [(0, .inr (.inr v0)), (1, .inl v1), (2, .inl v2)] → w_X3_removeAll K post v0 v1 v2 G → W p l e ({ frames := 3, cells := 13, slots := 156, locals := 73 } : Room) s m args below meth c H locs 0 0 (MQ below (tc_Qc D A (retI post)) args s 13 156 A) (F0 m 0 ls []) := by
  intro G H locs ls hW hS hl hw
  unfold w_X3_removeAll at hw
  refine tr_aload_n (k := 0) (x := v0) C hl 0 rfl dX3_removeAll_0 ?_
  refine tr_aload_n (k := 0) (x := v0) C hl 0 rfl dX3_removeAll_1 ?_
  refine tr_iload_n (k := 1) (x := v1) C hl 1 rfl dX3_removeAll_2 ?_
  refine tr_iload_n (k := 2) (x := v2) C hl 2 rfl dX3_removeAll_3 ?_
  refine tr_backI (tr_runV (r := v0) (As := [.int v1, .int v2]) C hl.1 (c_X3_isNoPair l hll K _ v0 v1 v2) (cwV 2 C.1.2.2.2.2 (gi_V (zm kw_257) (zm kw_258) (zm kw_259) (zm kw_155) (zm kw_256)) rfl rfl rfl (by decide +kernel) ⟨(Nat.le_of_ble_eq_true rfl), (Nat.le_of_ble_eq_true rfl)⟩) rfl rfl dX3_removeAll_4 ⟨(Nat.le_of_ble_eq_true rfl), (Nat.le_of_ble_eq_true rfl)⟩ [.inr (.inr v0)] rfl (Nat.le_of_ble_eq_true rfl) rfl hW hS hw) hS (fun x_4 G_4 H locs hw hW hS => ?_)
  refine lv_iconst (v := (0 : Int32)) C.1.1 C.1.2.1 dX3_removeAll_7 (by decide) ?_
  refine tr_backI (tr_runV (r := v0) (As := [.int x_4, .int ((0 : Int32))]) C hl.1 (c_X3_fails l hll K _ v0 x_4 ((0 : Int32))) (cwV 2 C.1.2.2.2.2 (gi_V (zm kw_190) (zm kw_191) (zm kw_192) (zm kw_155) (zm kw_189)) rfl rfl rfl (by decide +kernel) ⟨(Nat.le_of_ble_eq_true rfl), (Nat.le_of_ble_eq_true rfl)⟩) rfl rfl dX3_removeAll_8 ⟨(Nat.le_of_ble_eq_true rfl), (Nat.le_of_ble_eq_true rfl)⟩ [] rfl (Nat.le_of_ble_eq_true rfl) rfl hW hS hw) hS (fun x_8 G_8 H locs hw hW hS => ?_)
  refine lv_if_eq (tgt := 18) C.1.1 C.1.2.1 dX3_removeAll_11 (by decide) (fun hc => ?_) (fun hc => ?_)
  · have hw := hw.1 hc
    refine tr_aload_n (k := 0) (x := v0) C hl 0 rfl dX3_removeAll_18 ?_
    refine tr_aload_n (k := 0) (x := v0) C hl 0 rfl dX3_removeAll_19 ?_
    refine tr_iload_n (k := 1) (x := v1) C hl 1 rfl dX3_removeAll_20 ?_
    refine tr_iload_n (k := 2) (x := v2) C hl 2 rfl dX3_removeAll_21 ?_
    refine tr_backI (tr_runV (r := v0) (As := [.int v1, .int v2]) C hl.1 (c_X3_shared l hll K _ v0 v1 v2) (cwV 2 C.1.2.2.2.2 (gi_V (zm kw_261) (zm kw_262) (zm kw_263) (zm kw_155) (zm kw_260)) rfl rfl rfl (by decide +kernel) ⟨(Nat.le_of_ble_eq_true rfl), (Nat.le_of_ble_eq_true rfl)⟩) rfl rfl dX3_removeAll_22 ⟨(Nat.le_of_ble_eq_true rfl), (Nat.le_of_ble_eq_true rfl)⟩ [.inr (.inr v0)] rfl (Nat.le_of_ble_eq_true rfl) rfl hW hS hw) hS (fun x_22 G_22 H locs hw hW hS => ?_)
    refine lv_if_le (tgt := 32) C.1.1 C.1.2.1 dX3_removeAll_25 (by decide) (fun hc => ?_) (fun hc => ?_)
    · have hw := hw.1 hc
      refine lv_iconst (v := (0 : Int32)) C.1.1 C.1.2.1 dX3_removeAll_32 (by decide) ?_
      exact s_X3_removeAll_33 C hr hll post v0 ((0 : Int32)) _ _ _ _ hW hS (tl_sub hl [] rfl) hw
    · have hw := hw.2 hc
      refine lv_iconst (v := (1 : Int32)) C.1.1 C.1.2.1 dX3_removeAll_28 (by decide) ?_
      refine lv_goto (tgt := 33) C.1.1 C.1.2.1 dX3_removeAll_29 (by decide) ?_
      exact s_X3_removeAll_33 C hr hll post v0 ((1 : Int32)) _ _ _ _ hW hS (tl_sub hl [] rfl) hw
  · have hw := hw.2 hc
    refine lv_iconst (v := (0 : Int32)) C.1.1 C.1.2.1 dX3_removeAll_14 (by decide) ?_
    refine lv_goto (tgt := 36) C.1.1 C.1.2.1 dX3_removeAll_15 (by decide) ?_
    refine W.widen (k := 13) (n := 156) (Nat.le_of_ble_eq_true rfl) (Nat.le_of_ble_eq_true rfl) ?_
    exact s_X3_removeAll_36 C hr hll post ((0 : Int32)) _ _ _ _ hW hS (tl_sub hl [] rfl) hw
end Z_X3_removeAll
set_option maxHeartbeats 4000000 in
set_option maxRecDepth 100000 in
theorem c_X3_removeAll (l : Launch) (hll : l.stackTraces = false) (K : tK) (post : Int32 → tG → Prop) (v0 : Option Nat) (v1 : Int32) (v2 : Int32) : Ct l yX3_removeAll wz_X3_removeAll ({ frames := 3, cells := 13, slots := 156, locals := 73 } : Room) 13 156 [va_rf v0, .int v1, .int v2] K (retI post) (fun G => w_X3_removeAll K post v0 v1 v2 G) := by
  refine tc_of (cc := cX3_removeAll) (maxL := 3) (ret := (some .int)) (own := RX3) (plainFor_of_name (by decide)) rfl rfl hll [.inr (.inr v0), .inl v1, .inl v2] rfl (Nat.le_of_ble_eq_true rfl) ?_
  intro p e s m args below meth c D A G ls C hr hn ht hl hW hS hw
  exact s_X3_removeAll C hr hll post v0 v1 v2 _ _ _ _ hW hS hl hw

/-! X1_checkValue -/
def wz_X1_checkValue : List Cond := Cond.code yX1_checkValue cX1_checkValue 1 none :: w0
section Z_X1_checkValue
variable {p : Program} {l : Launch} {e : Env} {s : State} {m : MethodId} {args : Array Value} {below : List Frame} {meth : Method} {c : Code} {D : va_G} {A : Nat → Prop}
set_option maxHeartbeats 4000000 in
set_option maxRecDepth 100000 in
theorem s_X1_checkValue_15 {K : tK} (C : tc_B p l s m args meth c D K A wz_X1_checkValue RX1 cX1_checkValue 1) (hr : meth.sig.returnType = none) (ht : ∀ x ∈ c.exceptionTable.toList, False) (hll : l.stackTraces = false)  (post : tG → Prop) (postX : String → tG → Prop) : ∀ (G : tG) (H : Heap) (locs : List Loc) (ls : Array Slot), tg_W D A s H G → va_S A s.heap H locs → tl ls 1 [] → w_X1_checkValue_15 K post postX G → W p l e ({ frames := 7, cells := 1, slots := 6, locals := 104 } : Room) s m args below meth c H locs 1 6 (vx_MQ below (tc_Qc D A (retV post)) (tc_XC D A postX) args s 1 6 A) (F0 m 15 ls []) := by
  intro G H locs ls hW hS hl hw
  unfold w_X1_checkValue_15 at hw
  exact vx_ret (tr_vret C hr dX1_checkValue_15 (Nat.le_of_ble_eq_true rfl) (Nat.le_of_ble_eq_true rfl) hW hS hw)
set_option maxHeartbeats 4000000 in
set_option maxRecDepth 100000 in
theorem s_X1_checkValue {K : tK} (C : tc_B p l s m args meth c D K A wz_X1_checkValue RX1 cX1_checkValue 1) (hr : meth.sig.returnType = none) (ht : ∀ x ∈ c.exceptionTable.toList, False) (hll : l.stackTraces = false)  (post : tG → Prop) (postX : String → tG → Prop) (v0 : Int32) : ∀ (G : tG) (H : Heap) (locs : List Loc) (ls : Array Slot), tg_W D A s H G → va_S A s.heap H locs → tl ls 1 [(0, .inl v0)] → w_X1_checkValue K post postX v0 G → W p l e ({ frames := 7, cells := 1, slots := 6, locals := 104 } : Room) s m args below meth c H locs 0 0 (vx_MQ below (tc_Qc D A (retV post)) (tc_XC D A postX) args s 1 6 A) (F0 m 0 ls []) := by
  intro G H locs ls hW hS hl hw
  unfold w_X1_checkValue at hw
  refine tr_iload_n (k := 0) (x := v0) C hl 0 rfl dX1_checkValue_0 ?_
  refine lv_sipush (v := (-1000 : Int32)) C.1.1 C.1.2.1 dX1_checkValue_1 (by decide) ?_
  refine lv_icmp_eq (tgt := 15) C.1.1 C.1.2.1 dX1_checkValue_4 (by decide) (fun hc => ?_) (fun hc => ?_)
  · have hw := hw.1 hc
    refine W.widen (k := 1) (n := 6) (Nat.le_of_ble_eq_true rfl) (Nat.le_of_ble_eq_true rfl) ?_
    exact s_X1_checkValue_15 C hr ht hll post postX _ _ _ _ hW hS (tl_sub hl [] rfl) hw
  · have hw := hw.2 hc
    refine tr_iload_n (k := 0) (x := v0) C hl 0 rfl dX1_checkValue_7 ?_
    refine lv_bipush (v := (-99 : Int32)) C.1.1 C.1.2.1 dX1_checkValue_8 (by decide) ?_
    refine lv_bipush (v := (99 : Int32)) C.1.1 C.1.2.1 dX1_checkValue_10 (by decide) ?_
    refine tx_backV (tx_runS (As := [.int v0, .int ((-99 : Int32)), .int ((99 : Int32))]) C hl.1 (c_X1_checkNumber l hll K _ _ v0 ((-99 : Int32)) ((99 : Int32))) (va_cwS 3 C.1.2.2.2.2 (gi_S (zm kw_89) (zm kw_90) (zm kw_33) (zm kw_88)) rfl rfl rfl (by decide +kernel) ⟨(Nat.le_of_ble_eq_true rfl), (Nat.le_of_ble_eq_true rfl)⟩) rfl dX1_checkValue_12 ⟨(Nat.le_of_ble_eq_true rfl), (Nat.le_of_ble_eq_true rfl)⟩ [] rfl (Nat.le_of_ble_eq_true rfl) rfl hW hS hw) hS C.2.1 ht (Nat.le_of_ble_eq_true rfl) (Nat.le_of_ble_eq_true rfl) (fun G_12 H locs hw hW hS => ?_)
    exact s_X1_checkValue_15 C hr ht hll post postX _ _ _ _ hW hS (tl_sub hl [] rfl) hw
end Z_X1_checkValue
set_option maxHeartbeats 4000000 in
set_option maxRecDepth 100000 in
theorem c_X1_checkValue (l : Launch) (hll : l.stackTraces = false) (K : tK) (post : tG → Prop) (postX : String → tG → Prop) (v0 : Int32) : Cx l yX1_checkValue wz_X1_checkValue ({ frames := 7, cells := 1, slots := 6, locals := 104 } : Room) 1 6 [.int v0] K (retV post) postX (fun G => w_X1_checkValue K post postX v0 G) := by
  refine tx_of (cc := cX1_checkValue) (maxL := 1) (ret := none) (own := RX1) (by decide) rfl rfl hll [.inl v0] rfl (Nat.le_of_ble_eq_true rfl) ?_
  intro p e s m args below meth c D A G ls C hr hn ht hl hW hS hw
  exact s_X1_checkValue C hr ht hll post postX v0 _ _ _ _ hW hS hl hw

/-! X1_removeValue -/
def wz_X1_removeValue : List Cond := Cond.code yX1_removeValue cX1_removeValue 4 (some .int) :: w0
section Z_X1_removeValue
variable {p : Program} {l : Launch} {e : Env} {s : State} {m : MethodId} {args : Array Value} {below : List Frame} {meth : Method} {c : Code} {D : va_G} {A : Nat → Prop}
set_option maxHeartbeats 4000000 in
set_option maxRecDepth 100000 in
theorem s_X1_removeValue {K : tK} (C : tc_B p l s m args meth c D K A wz_X1_removeValue RX1 cX1_removeValue 4) (hr : meth.sig.returnType = (some .int)) (ht : ∀ x ∈ c.exceptionTable.toList, False) (hll : l.stackTraces = false)  (post : Int32 → tG → Prop) (postX : String → tG → Prop) (v0 : Option Nat) (v1 : Int32) (v2 : Int32) : ∀ (G : tG) (H : Heap) (locs : List Loc) (ls : Array Slot), tg_W D A s H G → va_S A s.heap H locs → tl ls 4 [(0, .inr (.inr v0)), (1, .inl v1), (2, .inl v2)] → w_X1_removeValue K post postX v0 v1 v2 G → W p l e ({ frames := 8, cells := 2, slots := 12, locals := 124 } : Room) s m args below meth c H locs 0 0 (vx_MQ below (tc_Qc D A (retI post)) (tc_XC D A postX) args s 2 12 A) (F0 m 0 ls []) := by
  intro G H locs ls hW hS hl hw
  unfold w_X1_removeValue at hw
  refine tr_aload_n (k := 0) (x := v0) C hl 0 rfl dX1_removeValue_0 ?_
  refine tr_iload_n (k := 1) (x := v1) C hl 1 rfl dX1_removeValue_1 ?_
  refine tx_backR (tx_runV (r := v0) (As := [.int v1]) C hl.1 (c_X1_listAt l hll K _ _ v0 v1) (cwV 1 C.1.2.2.2.2 (gi_V (zm kw_94) (zm kw_95) (zm kw_96) (zm kw_33) (zm kw_93)) rfl rfl rfl (by decide +kernel) ⟨(Nat.le_of_ble_eq_true rfl), (Nat.le_of_ble_eq_true rfl)⟩) rfl rfl dX1_removeValue_2 ⟨(Nat.le_of_ble_eq_true rfl), (Nat.le_of_ble_eq_true rfl)⟩ [] rfl (Nat.le_of_ble_eq_true rfl) rfl hW hS hw) hS C.2.1 ht (Nat.le_of_ble_eq_true rfl) (Nat.le_of_ble_eq_true rfl) (fun x_2 G_2 H locs hw hW hS => ?_)
  refine tr_astore_n (k := 3) (x := x_2) C hl [(3, .inr (.inr x_2)), (0, .inr (.inr v0)), (1, .inl v1), (2, .inl v2)] (by decide) rfl dX1_removeValue_5 (fun ls hl => ?_)
  refine tr_iload_n (k := 2) (x := v2) C hl 3 rfl dX1_removeValue_6 ?_
  refine tx_backV (tx_runS (As := [.int v2]) C hl.1 (c_X1_checkValue l hll K _ _ v2) (va_cwS 1 C.1.2.2.2.2 (gi_S (zm kw_269) (zm kw_270) (zm kw_33) (zm kw_268)) rfl rfl rfl (by decide +kernel) ⟨(Nat.le_of_ble_eq_true rfl), (Nat.le_of_ble_eq_true rfl)⟩) rfl dX1_removeValue_7 ⟨(Nat.le_of_ble_eq_true rfl), (Nat.le_of_ble_eq_true rfl)⟩ [] rfl (Nat.le_of_ble_eq_true rfl) rfl hW hS hw) hS C.2.1 ht (Nat.le_of_ble_eq_true rfl) (Nat.le_of_ble_eq_true rfl) (fun G_7 H locs hw hW hS => ?_)
  refine tr_aload_n (k := 0) (x := v0) C hl 1 rfl dX1_removeValue_10 ?_
  refine tr_aload_n (k := 3) (x := x_2) C hl 0 rfl dX1_removeValue_11 ?_
  refine tr_iload_n (k := 2) (x := v2) C hl 3 rfl dX1_removeValue_12 ?_
  refine tr_backI (tr_runS (As := [va_rf x_2, .int v2]) C hl.1 (c_X1_stands l hll K _ x_2 v2) (va_cwS 2 C.1.2.2.2.2 (gi_S (zm kw_244) (zm kw_245) (zm kw_33) (zm kw_243)) rfl rfl rfl (by decide +kernel) ⟨(Nat.le_of_ble_eq_true rfl), (Nat.le_of_ble_eq_true rfl)⟩) rfl dX1_removeValue_13 ⟨(Nat.le_of_ble_eq_true rfl), (Nat.le_of_ble_eq_true rfl)⟩ [.inr (.inr v0)] rfl (Nat.le_of_ble_eq_true rfl) rfl hW hS hw) hS (fun x_13 G_13 H locs hw hW hS => ?_)
  refine tr_backI (tr_runV (r := v0) (As := [.int x_13]) C hl.1 (c_X1_refuseIf l hll K _ v0 x_13) (cwV 1 C.1.2.2.2.2 (gi_V (zm kw_202) (zm kw_203) (zm kw_204) (zm kw_33) (zm kw_201)) rfl rfl rfl (by decide +kernel) ⟨(Nat.le_of_ble_eq_true rfl), (Nat.le_of_ble_eq_true rfl)⟩) rfl rfl dX1_removeValue_16 ⟨(Nat.le_of_ble_eq_true rfl), (Nat.le_of_ble_eq_true rfl)⟩ [] rfl (Nat.le_of_ble_eq_true rfl) rfl hW hS hw) hS (fun x_16 G_16 H locs hw hW hS => ?_)
  exact vx_ret (tr_iret C hr dX1_removeValue_19 (Nat.le_of_ble_eq_true rfl) (Nat.le_of_ble_eq_true rfl) hW hS hw)
end Z_X1_removeValue
set_option maxHeartbeats 4000000 in
set_option maxRecDepth 100000 in
theorem c_X1_removeValue (l : Launch) (hll : l.stackTraces = false) (K : tK) (post : Int32 → tG → Prop) (postX : String → tG → Prop) (v0 : Option Nat) (v1 : Int32) (v2 : Int32) : Cx l yX1_removeValue wz_X1_removeValue ({ frames := 8, cells := 2, slots := 12, locals := 124 } : Room) 2 12 [va_rf v0, .int v1, .int v2] K (retI post) postX (fun G => w_X1_removeValue K post postX v0 v1 v2 G) := by
  refine tx_of (cc := cX1_removeValue) (maxL := 4) (ret := (some .int)) (own := RX1) (by decide) rfl rfl hll [.inr (.inr v0), .inl v1, .inl v2] rfl (Nat.le_of_ble_eq_true rfl) ?_
  intro p e s m args below meth c D A G ls C hr hn ht hl hW hS hw
  exact s_X1_removeValue C hr ht hll post postX v0 v1 v2 _ _ _ _ hW hS hl hw

/-! L_removeValue -/
def wz_L_removeValue : List Cond := Cond.codeWith yL_removeValue cL_removeValue 5 (some .int) [(0, 11, 14, 19), (0, 11, 18, 21)] :: w0
section Z_L_removeValue
variable {p : Program} {l : Launch} {e : Env} {s : State} {m : MethodId} {args : Array Value} {below : List Frame} {meth : Method} {c : Code} {D : va_G} {A : Nat → Prop}
set_option maxHeartbeats 4000000 in
set_option maxRecDepth 100000 in
theorem s_L_removeValue {K : tK} (C : tc_B p l s m args meth c D K A wz_L_removeValue RL cL_removeValue 5) (hr : meth.sig.returnType = (some .int)) (htab : c.exceptionTable.toList = tableOf [(0, 11, 14, 19), (0, 11, 18, 21)]) (hcC : kx_C s) (hll : l.stackTraces = false)  (post : Int32 → tG → Prop) (v0 : Option Nat) (v1 : Int32) (v2 : Int32) (v3 : Option Nat) : ∀ (G : tG) (H : Heap) (locs : List Loc) (ls : Array Slot), tg_W D A s H G → va_S A s.heap H locs → tl ls 5 [(0, .inr (.inr v0)), (1, .inl v1), (2, .inl v2), (3, .inr (.inr v3))] → w_L_removeValue K post v0 v1 v2 v3 G → W p l e ({ frames := 9, cells := 2, slots := 12, locals := 147 } : Room) s m args below meth c H locs 0 0 (vx_MQ below (tc_Qc D A (retI post)) (tc_XC D A (fun _ _ => False)) args s 2 12 A) (F0 m 0 ls []) := by
  intro G H locs ls hW hS hl hw
  unfold w_L_removeValue at hw
  refine tr_aload_n (k := 3) (x := v3) C hl 3 rfl dL_removeValue_0 ?_
  refine tr_aload_n (k := 0) (x := v0) C hl 0 rfl dL_removeValue_1 ?_
  refine tr_iload_n (k := 1) (x := v1) C hl 1 rfl dL_removeValue_2 ?_
  refine tr_iload_n (k := 2) (x := v2) C hl 2 rfl dL_removeValue_3 ?_
  refine tx_backCI (tx_runV (r := v0) (As := [.int v1, .int v2]) C hl.1 (c_X1_removeValue l hll K _ _ v0 v1 v2) (cwV 2 C.1.2.2.2.2 (gi_V (zm kw_272) (zm kw_273) (zm kw_274) (zm kw_33) (zm kw_271)) rfl rfl rfl (by decide +kernel) ⟨(Nat.le_of_ble_eq_true rfl), (Nat.le_of_ble_eq_true rfl)⟩) rfl rfl dL_removeValue_4 ⟨(Nat.le_of_ble_eq_true rfl), (Nat.le_of_ble_eq_true rfl)⟩ [.inr (.inr v3)] rfl (Nat.le_of_ble_eq_true rfl) rfl hW hS hw) hS (fun E ce q9 GX H locs hw hW hS hce hcv hcl => ?_) (fun x_4 G_4 H locs hw hW hS => ?_)
  · by_cases hq0 : E = "java/lang/IndexOutOfBoundsException"
    · replace hw := hw.1 hq0
      subst hq0
      refine vx_catch (name := "java/lang/IndexOutOfBoundsException") C.1.2.2.2.1 [] (⟨0, 11, 14, 19⟩ : ExceptionTableEntry) [(⟨0, 11, 18, 21⟩ : ExceptionTableEntry)] (by rw [htab]; rfl) (fun z hz => nomatch hz) (by decide) (by decide) (C.1.2.2.2.2 _ (zm kw_209)) hcC.2.2.1 hce hcv hcl ?_
      refine tr_astore (x := (some q9)) C hl [(4, .inr (.inr (some q9))), (0, .inr (.inr v0)), (1, .inl v1), (2, .inl v2), (3, .inr (.inr v3))] (by decide) rfl dL_removeValue_14 (fun ls hl => ?_)
      refine lv_iconst (v := (1 : Int32)) C.1.1 C.1.2.1 dL_removeValue_16 (by decide) ?_
      exact vx_ret (tr_iret C hr dL_removeValue_17 (Nat.le_of_ble_eq_true rfl) (Nat.le_of_ble_eq_true rfl) hW hS hw)
    replace hw := hw.2 hq0
    by_cases hq1 : E = "java/lang/IllegalArgumentException"
    · replace hw := hw.1 hq1
      subst hq1
      refine vx_catch (name := "java/lang/IllegalArgumentException") C.1.2.2.2.1 [(⟨0, 11, 14, 19⟩ : ExceptionTableEntry)] (⟨0, 11, 18, 21⟩ : ExceptionTableEntry) [] (by rw [htab]; rfl) (kx_pass1 C hcC rfl (by decide) (zm kw_209)) (by decide) (by decide) (C.1.2.2.2.2 _ (zm kw_188)) hcC.2.2.2.1 hce hcv hcl ?_
      refine tr_astore (x := (some q9)) C hl [(4, .inr (.inr (some q9))), (0, .inr (.inr v0)), (1, .inl v1), (2, .inl v2), (3, .inr (.inr v3))] (by decide) rfl dL_removeValue_18 (fun ls hl => ?_)
      refine lv_iconst (v := (2 : Int32)) C.1.1 C.1.2.1 dL_removeValue_20 (by decide) ?_
      exact vx_ret (tr_iret C hr dL_removeValue_21 (Nat.le_of_ble_eq_true rfl) (Nat.le_of_ble_eq_true rfl) hW hS hw)
    replace hw := hw.2 hq1
    exact hw.elim
  · refine lv_i2l (v := ((x_4).toInt64)) C.1.1 C.1.2.1 dL_removeValue_7 rfl ?_
    refine tr_pfN (C0 := RX2) (T := TX2) (N := 2) (ci := 4) (ref := "TwinrowLaw$Out") (host := "TwinrowLaw") (k := 0) (ty := .long) (v := .long (((x_4).toInt64))) (r := v3) C (zh hw_X2) tyX2 tyX2_ok nmX2 rfl (by decide) hcC.1 rfl rfl (by decide +kernel) rfl rfl dL_removeValue_8 hW hS hw (fun G_8 H locs hw hW hS => ?_)
    refine lv_goto (tgt := 22) C.1.1 C.1.2.1 dL_removeValue_11 (by decide) ?_
    refine lv_iconst (v := (0 : Int32)) C.1.1 C.1.2.1 dL_removeValue_22 (by decide) ?_
    exact vx_ret (tr_iret C hr dL_removeValue_23 (Nat.le_of_ble_eq_true rfl) (Nat.le_of_ble_eq_true rfl) hW hS hw)
end Z_L_removeValue
set_option maxHeartbeats 4000000 in
set_option maxRecDepth 100000 in
theorem c_L_removeValue (l : Launch) (hll : l.stackTraces = false) (K : tK) (post : Int32 → tG → Prop) (v0 : Option Nat) (v1 : Int32) (v2 : Int32) (v3 : Option Nat) : Cx l yL_removeValue wz_L_removeValue ({ frames := 9, cells := 2, slots := 12, locals := 147 } : Room) 2 12 [va_rf v0, .int v1, .int v2, va_rf v3] K (retI post) (fun _ _ => False) (fun G => w_L_removeValue K post v0 v1 v2 v3 G) := by
  refine tx_ofH (cc := cL_removeValue) (maxL := 5) (ret := (some .int)) (own := RL) (hh := [(0, 11, 14, 19), (0, 11, 18, 21)]) (by decide) rfl rfl hll [.inr (.inr v0), .inl v1, .inl v2, .inr (.inr v3)] rfl (Nat.le_of_ble_eq_true rfl) ?_
  intro p e s m args below meth c D A G ls C hr htab hcC hl hW hS hw
  exact s_L_removeValue C hr htab hcC hll post v0 v1 v2 v3 _ _ _ _ hW hS hl hw

/-! X3_isNoValue -/
def wz_X3_isNoValue : List Cond := Cond.code yX3_isNoValue cX3_isNoValue 1 (some .boolean) :: w0
section Z_X3_isNoValue
variable {p : Program} {l : Launch} {e : Env} {s : State} {m : MethodId} {args : Array Value} {below : List Frame} {meth : Method} {c : Code} {D : va_G} {A : Nat → Prop}
set_option maxHeartbeats 4000000 in
set_option maxRecDepth 100000 in
theorem s_X3_isNoValue_23 {K : tK} (C : tc_B p l s m args meth c D K A wz_X3_isNoValue RX3 cX3_isNoValue 1) (hr : meth.sig.returnType = (some .boolean)) (hll : l.stackTraces = false)  (post : Int32 → tG → Prop) : ∀ (u0 : Int32) (G : tG) (H : Heap) (locs : List Loc) (ls : Array Slot), tg_W D A s H G → va_S A s.heap H locs → tl ls 1 [] → w_X3_isNoValue_23 K post u0 G → W p l e ({ frames := 1, cells := 0, slots := 0, locals := 22 } : Room) s m args below meth c H locs 0 0 (MQ below (tc_Qc D A (retI post)) args s 0 0 A) (F0 m 23 ls [.int u0]) := by
  intro u0 G H locs ls hW hS hl hw
  unfold w_X3_isNoValue_23 at hw
  exact tr_zret C hr dX3_isNoValue_23 (Nat.le_of_ble_eq_true rfl) (Nat.le_of_ble_eq_true rfl) hW hS hw
set_option maxHeartbeats 4000000 in
set_option maxRecDepth 100000 in
theorem s_X3_isNoValue_22 {K : tK} (C : tc_B p l s m args meth c D K A wz_X3_isNoValue RX3 cX3_isNoValue 1) (hr : meth.sig.returnType = (some .boolean)) (hll : l.stackTraces = false)  (post : Int32 → tG → Prop) : ∀ (G : tG) (H : Heap) (locs : List Loc) (ls : Array Slot), tg_W D A s H G → va_S A s.heap H locs → tl ls 1 [] → w_X3_isNoValue_22 K post G → W p l e ({ frames := 1, cells := 0, slots := 0, locals := 22 } : Room) s m args below meth c H locs 0 0 (MQ below (tc_Qc D A (retI post)) args s 0 0 A) (F0 m 22 ls []) := by
  intro G H locs ls hW hS hl hw
  unfold w_X3_isNoValue_22 at hw
  refine lv_iconst (v := (0 : Int32)) C.1.1 C.1.2.1 dX3_isNoValue_22 (by decide) ?_
  exact s_X3_isNoValue_23 C hr hll post ((0 : Int32)) _ _ _ _ hW hS (tl_sub hl [] rfl) hw
set_option maxHeartbeats 4000000 in
set_option maxRecDepth 100000 in
theorem s_X3_isNoValue {K : tK} (C : tc_B p l s m args meth c D K A wz_X3_isNoValue RX3 cX3_isNoValue 1) (hr : meth.sig.returnType = (some .boolean)) (hll : l.stackTraces = false)  (post : Int32 → tG → Prop) (v0 : Int32) : ∀ (G : tG) (H : Heap) (locs : List Loc) (ls : Array Slot), tg_W D A s H G → va_S A s.heap H locs → tl ls 1 [(0, .inl v0)] → w_X3_isNoValue K post v0 G → W p l e ({ frames := 1, cells := 0, slots := 0, locals := 22 } : Room) s m args below meth c H locs 0 0 (MQ below (tc_Qc D A (retI post)) args s 0 0 A) (F0 m 0 ls []) := by
  intro G H locs ls hW hS hl hw
  unfold w_X3_isNoValue at hw
  refine tr_iload_n (k := 0) (x := v0) C hl 0 rfl dX3_isNoValue_0 ?_
  refine lv_sipush (v := (-1000 : Int32)) C.1.1 C.1.2.1 dX3_isNoValue_1 (by decide) ?_
  refine lv_icmp_eq (tgt := 22) C.1.1 C.1.2.1 dX3_isNoValue_4 (by decide) (fun hc => ?_) (fun hc => ?_)
  · have hw := hw.1 hc
    exact s_X3_isNoValue_22 C hr hll post _ _ _ _ hW hS (tl_sub hl [] rfl) hw
  · have hw := hw.2 hc
    refine tr_iload_n (k := 0) (x := v0) C hl 0 rfl dX3_isNoValue_7 ?_
    refine lv_bipush (v := (-99 : Int32)) C.1.1 C.1.2.1 dX3_isNoValue_8 (by decide) ?_
    refine lv_bipush (v := (99 : Int32)) C.1.1 C.1.2.1 dX3_isNoValue_10 (by decide) ?_
    refine tr_backI (tr_runS (As := [.int v0, .int ((-99 : Int32)), .int ((99 : Int32))]) C hl.1 (c_X3_isIn l hll K _ v0 ((-99 : Int32)) ((99 : Int32))) (va_cwS 3 C.1.2.2.2.2 (gi_S (zm kw_194) (zm kw_195) (zm kw_155) (zm kw_193)) rfl rfl rfl (by decide +kernel) ⟨(Nat.le_of_ble_eq_true rfl), (Nat.le_of_ble_eq_true rfl)⟩) rfl dX3_isNoValue_12 ⟨(Nat.le_of_ble_eq_true rfl), (Nat.le_of_ble_eq_true rfl)⟩ [] rfl (Nat.le_of_ble_eq_true rfl) rfl hW hS hw) hS (fun x_12 G_12 H locs hw hW hS => ?_)
    refine lv_if_ne (tgt := 22) C.1.1 C.1.2.1 dX3_isNoValue_15 (by decide) (fun hc => ?_) (fun hc => ?_)
    · have hw := hw.1 hc
      exact s_X3_isNoValue_22 C hr hll post _ _ _ _ hW hS (tl_sub hl [] rfl) hw
    · have hw := hw.2 hc
      refine lv_iconst (v := (1 : Int32)) C.1.1 C.1.2.1 dX3_isNoValue_18 (by decide) ?_
      refine lv_goto (tgt := 23) C.1.1 C.1.2.1 dX3_isNoValue_19 (by decide) ?_
      exact s_X3_isNoValue_23 C hr hll post ((1 : Int32)) _ _ _ _ hW hS (tl_sub hl [] rfl) hw
end Z_X3_isNoValue
set_option maxHeartbeats 4000000 in
set_option maxRecDepth 100000 in
theorem c_X3_isNoValue (l : Launch) (hll : l.stackTraces = false) (K : tK) (post : Int32 → tG → Prop) (v0 : Int32) : Ct l yX3_isNoValue wz_X3_isNoValue ({ frames := 1, cells := 0, slots := 0, locals := 22 } : Room) 0 0 [.int v0] K (retI post) (fun G => w_X3_isNoValue K post v0 G) := by
  refine tc_of (cc := cX3_isNoValue) (maxL := 1) (ret := (some .boolean)) (own := RX3) (plainFor_of_name (by decide)) rfl rfl hll [.inl v0] rfl (Nat.le_of_ble_eq_true rfl) ?_
  intro p e s m args below meth c D A G ls C hr hn ht hl hW hS hw
  exact s_X3_isNoValue C hr hll post v0 _ _ _ _ hW hS hl hw

/-! X3_removeValue -/
def wz_X3_removeValue : List Cond := Cond.code yX3_removeValue cX3_removeValue 3 (some .int) :: w0
section Z_X3_removeValue
variable {p : Program} {l : Launch} {e : Env} {s : State} {m : MethodId} {args : Array Value} {below : List Frame} {meth : Method} {c : Code} {D : va_G} {A : Nat → Prop}
set_option maxHeartbeats 4000000 in
set_option maxRecDepth 100000 in
theorem s_X3_removeValue_41 {K : tK} (C : tc_B p l s m args meth c D K A wz_X3_removeValue RX3 cX3_removeValue 3) (hr : meth.sig.returnType = (some .int)) (hll : l.stackTraces = false)  (post : Int32 → tG → Prop) : ∀ (u0 : Int32) (G : tG) (H : Heap) (locs : List Loc) (ls : Array Slot), tg_W D A s H G → va_S A s.heap H locs → tl ls 3 [] → w_X3_removeValue_41 K post u0 G → W p l e ({ frames := 2, cells := 1, slots := 12, locals := 46 } : Room) s m args below meth c H locs 1 12 (MQ below (tc_Qc D A (retI post)) args s 1 12 A) (F0 m 41 ls [.int u0]) := by
  intro u0 G H locs ls hW hS hl hw
  unfold w_X3_removeValue_41 at hw
  exact tr_iret C hr dX3_removeValue_41 (Nat.le_of_ble_eq_true rfl) (Nat.le_of_ble_eq_true rfl) hW hS hw
set_option maxHeartbeats 4000000 in
set_option maxRecDepth 100000 in
theorem s_X3_removeValue_38 {K : tK} (C : tc_B p l s m args meth c D K A wz_X3_removeValue RX3 cX3_removeValue 3) (hr : meth.sig.returnType = (some .int)) (hll : l.stackTraces = false)  (post : Int32 → tG → Prop) : ∀ (u0 : Option Nat) (u1 : Int32) (G : tG) (H : Heap) (locs : List Loc) (ls : Array Slot), tg_W D A s H G → va_S A s.heap H locs → tl ls 3 [] → w_X3_removeValue_38 K post u0 u1 G → W p l e ({ frames := 2, cells := 1, slots := 12, locals := 46 } : Room) s m args below meth c H locs 1 12 (MQ below (tc_Qc D A (retI post)) args s 1 12 A) (F0 m 38 ls [.int u1, va_rf u0]) := by
  intro u0 u1 G H locs ls hW hS hl hw
  unfold w_X3_removeValue_38 at hw
  refine tr_backI (tr_runV (r := u0) (As := [.int u1]) C hl.1 (c_X3_refusedIf l hll K _ u0 u1) (cwV 1 C.1.2.2.2.2 (gi_V (zm kw_227) (zm kw_228) (zm kw_229) (zm kw_155) (zm kw_226)) rfl rfl rfl (by decide +kernel) ⟨(Nat.le_of_ble_eq_true rfl), (Nat.le_of_ble_eq_true rfl)⟩) rfl rfl dX3_removeValue_38 ⟨(Nat.le_of_ble_eq_true rfl), (Nat.le_of_ble_eq_true rfl)⟩ [] rfl (Nat.le_of_ble_eq_true rfl) rfl hW hS hw) hS (fun x_38 G_38 H locs hw hW hS => ?_)
  exact s_X3_removeValue_41 C hr hll post x_38 _ _ _ _ hW hS (tl_sub hl [] rfl) hw
set_option maxHeartbeats 4000000 in
set_option maxRecDepth 100000 in
theorem s_X3_removeValue {K : tK} (C : tc_B p l s m args meth c D K A wz_X3_removeValue RX3 cX3_removeValue 3) (hr : meth.sig.returnType = (some .int)) (hll : l.stackTraces = false)  (post : Int32 → tG → Prop) (v0 : Option Nat) (v1 : Int32) (v2 : Int32) : ∀ (G : tG) (H : Heap) (locs : List Loc) (ls : Array Slot), tg_W D A s H G → va_S A s.heap H locs → tl ls 3 [(0, .inr (.inr v0)), (1, .inl v1), (2, .inl v2)] → w_X3_removeValue K post v0 v1 v2 G → W p l e ({ frames := 2, cells := 1, slots := 12, locals := 46 } : Room) s m args below meth c H locs 0 0 (MQ below (tc_Qc D A (retI post)) args s 1 12 A) (F0 m 0 ls []) := by
  intro G H locs ls hW hS hl hw
  unfold w_X3_removeValue at hw
  refine tr_aload_n (k := 0) (x := v0) C hl 0 rfl dX3_removeValue_0 ?_
  refine tr_aload_n (k := 0) (x := v0) C hl 0 rfl dX3_removeValue_1 ?_
  refine tr_iload_n (k := 1) (x := v1) C hl 1 rfl dX3_removeValue_2 ?_
  refine tr_backI (tr_runV (r := v0) (As := [.int v1]) C hl.1 (c_X3_isNoList l hll K _ v0 v1) (cwV 1 C.1.2.2.2.2 (gi_V (zm kw_211) (zm kw_212) (zm kw_213) (zm kw_155) (zm kw_210)) rfl rfl rfl (by decide +kernel) ⟨(Nat.le_of_ble_eq_true rfl), (Nat.le_of_ble_eq_true rfl)⟩) rfl rfl dX3_removeValue_3 ⟨(Nat.le_of_ble_eq_true rfl), (Nat.le_of_ble_eq_true rfl)⟩ [.inr (.inr v0)] rfl (Nat.le_of_ble_eq_true rfl) rfl hW hS hw) hS (fun x_3 G_3 H locs hw hW hS => ?_)
  refine tr_iload_n (k := 2) (x := v2) C hl 2 rfl dX3_removeValue_6 ?_
  refine tr_backI (tr_runS (As := [.int v2]) C hl.1 (c_X3_isNoValue l hll K _ v2) (va_cwS 1 C.1.2.2.2.2 (gi_S (zm kw_276) (zm kw_277) (zm kw_155) (zm kw_275)) rfl rfl rfl (by decide +kernel) ⟨(Nat.le_of_ble_eq_true rfl), (Nat.le_of_ble_eq_true rfl)⟩) rfl dX3_removeValue_7 ⟨(Nat.le_of_ble_eq_true rfl), (Nat.le_of_ble_eq_true rfl)⟩ [.inl x_3, .inr (.inr v0)] rfl (Nat.le_of_ble_eq_true rfl) rfl hW hS hw) hS (fun x_7 G_7 H locs hw hW hS => ?_)
  refine tr_backI (tr_runV (r := v0) (As := [.int x_3, .int x_7]) C hl.1 (c_X3_fails l hll K _ v0 x_3 x_7) (cwV 2 C.1.2.2.2.2 (gi_V (zm kw_190) (zm kw_191) (zm kw_192) (zm kw_155) (zm kw_189)) rfl rfl rfl (by decide +kernel) ⟨(Nat.le_of_ble_eq_true rfl), (Nat.le_of_ble_eq_true rfl)⟩) rfl rfl dX3_removeValue_10 ⟨(Nat.le_of_ble_eq_true rfl), (Nat.le_of_ble_eq_true rfl)⟩ [] rfl (Nat.le_of_ble_eq_true rfl) rfl hW hS hw) hS (fun x_10 G_10 H locs hw hW hS => ?_)
  refine lv_if_eq (tgt := 20) C.1.1 C.1.2.1 dX3_removeValue_13 (by decide) (fun hc => ?_) (fun hc => ?_)
  · have hw := hw.1 hc
    refine tr_aload_n (k := 0) (x := v0) C hl 0 rfl dX3_removeValue_20 ?_
    refine tr_aload_n (k := 0) (x := v0) C hl 0 rfl dX3_removeValue_21 ?_
    refine tr_iload_n (k := 1) (x := v1) C hl 1 rfl dX3_removeValue_22 ?_
    refine tr_backR (tr_runV (r := v0) (As := [.int v1]) C hl.1 (c_X3_all l hll K _ v0 v1) (cwV 1 C.1.2.2.2.2 (gi_V (zm kw_157) (zm kw_158) (zm kw_159) (zm kw_155) (zm kw_156)) rfl rfl rfl (by decide +kernel) ⟨(Nat.le_of_ble_eq_true rfl), (Nat.le_of_ble_eq_true rfl)⟩) rfl rfl dX3_removeValue_23 ⟨(Nat.le_of_ble_eq_true rfl), (Nat.le_of_ble_eq_true rfl)⟩ [.inr (.inr v0)] rfl (Nat.le_of_ble_eq_true rfl) rfl hW hS hw) hS (fun x_23 G_23 H locs hw hW hS => ?_)
    refine tr_iload_n (k := 2) (x := v2) C hl 2 rfl dX3_removeValue_26 ?_
    refine tr_backI (tr_runS (As := [va_rf x_23, .int v2]) C hl.1 (c_X3_oftenIn l hll K _ x_23 v2) (va_cwS 2 C.1.2.2.2.2 (gi_S (zm kw_254) (zm kw_255) (zm kw_155) (zm kw_253)) rfl rfl rfl (by decide +kernel) ⟨(Nat.le_of_ble_eq_true rfl), (Nat.le_of_ble_eq_true rfl)⟩) rfl dX3_removeValue_27 ⟨(Nat.le_of_ble_eq_true rfl), (Nat.le_of_ble_eq_true rfl)⟩ [.inr (.inr v0)] rfl (Nat.le_of_ble_eq_true rfl) rfl hW hS hw) hS (fun x_27 G_27 H locs hw hW hS => ?_)
    refine lv_if_le (tgt := 37) C.1.1 C.1.2.1 dX3_removeValue_30 (by decide) (fun hc => ?_) (fun hc => ?_)
    · have hw := hw.1 hc
      refine lv_iconst (v := (0 : Int32)) C.1.1 C.1.2.1 dX3_removeValue_37 (by decide) ?_
      exact s_X3_removeValue_38 C hr hll post v0 ((0 : Int32)) _ _ _ _ hW hS (tl_sub hl [] rfl) hw
    · have hw := hw.2 hc
      refine lv_iconst (v := (1 : Int32)) C.1.1 C.1.2.1 dX3_removeValue_33 (by decide) ?_
      refine lv_goto (tgt := 38) C.1.1 C.1.2.1 dX3_removeValue_34 (by decide) ?_
      exact s_X3_removeValue_38 C hr hll post v0 ((1 : Int32)) _ _ _ _ hW hS (tl_sub hl [] rfl) hw
  · have hw := hw.2 hc
    refine lv_iconst (v := (0 : Int32)) C.1.1 C.1.2.1 dX3_removeValue_16 (by decide) ?_
    refine lv_goto (tgt := 41) C.1.1 C.1.2.1 dX3_removeValue_17 (by decide) ?_
    refine W.widen (k := 1) (n := 12) (Nat.le_of_ble_eq_true rfl) (Nat.le_of_ble_eq_true rfl) ?_
    exact s_X3_removeValue_41 C hr hll post ((0 : Int32)) _ _ _ _ hW hS (tl_sub hl [] rfl) hw
end Z_X3_removeValue
set_option maxHeartbeats 4000000 in
set_option maxRecDepth 100000 in
theorem c_X3_removeValue (l : Launch) (hll : l.stackTraces = false) (K : tK) (post : Int32 → tG → Prop) (v0 : Option Nat) (v1 : Int32) (v2 : Int32) : Ct l yX3_removeValue wz_X3_removeValue ({ frames := 2, cells := 1, slots := 12, locals := 46 } : Room) 1 12 [va_rf v0, .int v1, .int v2] K (retI post) (fun G => w_X3_removeValue K post v0 v1 v2 G) := by
  refine tc_of (cc := cX3_removeValue) (maxL := 3) (ret := (some .int)) (own := RX3) (plainFor_of_name (by decide)) rfl rfl hll [.inr (.inr v0), .inl v1, .inl v2] rfl (Nat.le_of_ble_eq_true rfl) ?_
  intro p e s m args below meth c D A G ls C hr hn ht hl hW hS hw
  exact s_X3_removeValue C hr hll post v0 v1 v2 _ _ _ _ hW hS hl hw

/-! X1_remove -/
def wz_X1_remove : List Cond := Cond.code yX1_remove cX1_remove 4 (some .int) :: w0
section Z_X1_remove
variable {p : Program} {l : Launch} {e : Env} {s : State} {m : MethodId} {args : Array Value} {below : List Frame} {meth : Method} {c : Code} {D : va_G} {A : Nat → Prop}
set_option maxHeartbeats 4000000 in
set_option maxRecDepth 100000 in
theorem s_X1_remove {K : tK} (C : tc_B p l s m args meth c D K A wz_X1_remove RX1 cX1_remove 4) (hr : meth.sig.returnType = (some .int)) (ht : ∀ x ∈ c.exceptionTable.toList, False) (hll : l.stackTraces = false)  (post : Int32 → tG → Prop) (postX : String → tG → Prop) (v0 : Option Nat) (v1 : Int32) (v2 : Int32) : ∀ (G : tG) (H : Heap) (locs : List Loc) (ls : Array Slot), tg_W D A s H G → va_S A s.heap H locs → tl ls 4 [(0, .inr (.inr v0)), (1, .inl v1), (2, .inl v2)] → w_X1_remove K post postX v0 v1 v2 G → W p l e ({ frames := 7, cells := 2, slots := 12, locals := 104 } : Room) s m args below meth c H locs 0 0 (vx_MQ below (tc_Qc D A (retI post)) (tc_XC D A postX) args s 2 12 A) (F0 m 0 ls []) := by
  intro G H locs ls hW hS hl hw
  unfold w_X1_remove at hw
  refine tr_aload_n (k := 0) (x := v0) C hl 0 rfl dX1_remove_0 ?_
  refine tr_iload_n (k := 1) (x := v1) C hl 1 rfl dX1_remove_1 ?_
  refine tx_backR (tx_runV (r := v0) (As := [.int v1]) C hl.1 (c_X1_listAt l hll K _ _ v0 v1) (cwV 1 C.1.2.2.2.2 (gi_V (zm kw_94) (zm kw_95) (zm kw_96) (zm kw_33) (zm kw_93)) rfl rfl rfl (by decide +kernel) ⟨(Nat.le_of_ble_eq_true rfl), (Nat.le_of_ble_eq_true rfl)⟩) rfl rfl dX1_remove_2 ⟨(Nat.le_of_ble_eq_true rfl), (Nat.le_of_ble_eq_true rfl)⟩ [] rfl (Nat.le_of_ble_eq_true rfl) rfl hW hS hw) hS C.2.1 ht (Nat.le_of_ble_eq_true rfl) (Nat.le_of_ble_eq_true rfl) (fun x_2 G_2 H locs hw hW hS => ?_)
  refine tr_astore_n (k := 3) (x := x_2) C hl [(3, .inr (.inr x_2)), (0, .inr (.inr v0)), (1, .inl v1), (2, .inl v2)] (by decide) rfl dX1_remove_5 (fun ls hl => ?_)
  refine tr_aload_n (k := 3) (x := x_2) C hl 0 rfl dX1_remove_6 ?_
  refine tr_iload_n (k := 2) (x := v2) C hl 3 rfl dX1_remove_7 ?_
  refine tx_backV (tx_runS (As := [va_rf x_2, .int v2]) C hl.1 (c_X1_checkPlace l hll K _ _ x_2 v2) (va_cwS 2 C.1.2.2.2.2 (gi_S (zm kw_199) (zm kw_200) (zm kw_33) (zm kw_198)) rfl rfl rfl (by decide +kernel) ⟨(Nat.le_of_ble_eq_true rfl), (Nat.le_of_ble_eq_true rfl)⟩) rfl dX1_remove_8 ⟨(Nat.le_of_ble_eq_true rfl), (Nat.le_of_ble_eq_true rfl)⟩ [] rfl (Nat.le_of_ble_eq_true rfl) rfl hW hS hw) hS C.2.1 ht (Nat.le_of_ble_eq_true rfl) (Nat.le_of_ble_eq_true rfl) (fun G_8 H locs hw hW hS => ?_)
  refine tr_aload_n (k := 0) (x := v0) C hl 1 rfl dX1_remove_11 ?_
  refine lv_iconst (v := (1 : Int32)) C.1.1 C.1.2.1 dX1_remove_12 (by decide) ?_
  refine tr_backI (tr_runV (r := v0) (As := [.int ((1 : Int32))]) C hl.1 (c_X1_refuseIf l hll K _ v0 ((1 : Int32))) (cwV 1 C.1.2.2.2.2 (gi_V (zm kw_202) (zm kw_203) (zm kw_204) (zm kw_33) (zm kw_201)) rfl rfl rfl (by decide +kernel) ⟨(Nat.le_of_ble_eq_true rfl), (Nat.le_of_ble_eq_true rfl)⟩) rfl rfl dX1_remove_13 ⟨(Nat.le_of_ble_eq_true rfl), (Nat.le_of_ble_eq_true rfl)⟩ [] rfl (Nat.le_of_ble_eq_true rfl) rfl hW hS hw) hS (fun x_13 G_13 H locs hw hW hS => ?_)
  exact vx_ret (tr_iret C hr dX1_remove_16 (Nat.le_of_ble_eq_true rfl) (Nat.le_of_ble_eq_true rfl) hW hS hw)
end Z_X1_remove
set_option maxHeartbeats 4000000 in
set_option maxRecDepth 100000 in
theorem c_X1_remove (l : Launch) (hll : l.stackTraces = false) (K : tK) (post : Int32 → tG → Prop) (postX : String → tG → Prop) (v0 : Option Nat) (v1 : Int32) (v2 : Int32) : Cx l yX1_remove wz_X1_remove ({ frames := 7, cells := 2, slots := 12, locals := 104 } : Room) 2 12 [va_rf v0, .int v1, .int v2] K (retI post) postX (fun G => w_X1_remove K post postX v0 v1 v2 G) := by
  refine tx_of (cc := cX1_remove) (maxL := 4) (ret := (some .int)) (own := RX1) (by decide) rfl rfl hll [.inr (.inr v0), .inl v1, .inl v2] rfl (Nat.le_of_ble_eq_true rfl) ?_
  intro p e s m args below meth c D A G ls C hr hn ht hl hW hS hw
  exact s_X1_remove C hr ht hll post postX v0 v1 v2 _ _ _ _ hW hS hl hw

/-! L_remove -/
def wz_L_remove : List Cond := Cond.codeWith yL_remove cL_remove 5 (some .int) [(0, 11, 14, 19)] :: w0
section Z_L_remove
variable {p : Program} {l : Launch} {e : Env} {s : State} {m : MethodId} {args : Array Value} {below : List Frame} {meth : Method} {c : Code} {D : va_G} {A : Nat → Prop}
set_option maxHeartbeats 4000000 in
set_option maxRecDepth 100000 in
theorem s_L_remove {K : tK} (C : tc_B p l s m args meth c D K A wz_L_remove RL cL_remove 5) (hr : meth.sig.returnType = (some .int)) (htab : c.exceptionTable.toList = tableOf [(0, 11, 14, 19)]) (hcC : kx_C s) (hll : l.stackTraces = false)  (post : Int32 → tG → Prop) (v0 : Option Nat) (v1 : Int32) (v2 : Int32) (v3 : Option Nat) : ∀ (G : tG) (H : Heap) (locs : List Loc) (ls : Array Slot), tg_W D A s H G → va_S A s.heap H locs → tl ls 5 [(0, .inr (.inr v0)), (1, .inl v1), (2, .inl v2), (3, .inr (.inr v3))] → w_L_remove K post v0 v1 v2 v3 G → W p l e ({ frames := 8, cells := 2, slots := 12, locals := 127 } : Room) s m args below meth c H locs 0 0 (vx_MQ below (tc_Qc D A (retI post)) (tc_XC D A (fun _ _ => False)) args s 2 12 A) (F0 m 0 ls []) := by
  intro G H locs ls hW hS hl hw
  unfold w_L_remove at hw
  refine tr_aload_n (k := 3) (x := v3) C hl 3 rfl dL_remove_0 ?_
  refine tr_aload_n (k := 0) (x := v0) C hl 0 rfl dL_remove_1 ?_
  refine tr_iload_n (k := 1) (x := v1) C hl 1 rfl dL_remove_2 ?_
  refine tr_iload_n (k := 2) (x := v2) C hl 2 rfl dL_remove_3 ?_
  refine tx_backCI (tx_runV (r := v0) (As := [.int v1, .int v2]) C hl.1 (c_X1_remove l hll K _ _ v0 v1 v2) (cwV 2 C.1.2.2.2.2 (gi_V (zm kw_279) (zm kw_280) (zm kw_281) (zm kw_33) (zm kw_278)) rfl rfl rfl (by decide +kernel) ⟨(Nat.le_of_ble_eq_true rfl), (Nat.le_of_ble_eq_true rfl)⟩) rfl rfl dL_remove_4 ⟨(Nat.le_of_ble_eq_true rfl), (Nat.le_of_ble_eq_true rfl)⟩ [.inr (.inr v3)] rfl (Nat.le_of_ble_eq_true rfl) rfl hW hS hw) hS (fun E ce q9 GX H locs hw hW hS hce hcv hcl => ?_) (fun x_4 G_4 H locs hw hW hS => ?_)
  · by_cases hq0 : E = "java/lang/IndexOutOfBoundsException"
    · replace hw := hw.1 hq0
      subst hq0
      refine vx_catch (name := "java/lang/IndexOutOfBoundsException") C.1.2.2.2.1 [] (⟨0, 11, 14, 19⟩ : ExceptionTableEntry) [] (by rw [htab]; rfl) (fun z hz => nomatch hz) (by decide) (by decide) (C.1.2.2.2.2 _ (zm kw_209)) hcC.2.2.1 hce hcv hcl ?_
      refine tr_astore (x := (some q9)) C hl [(4, .inr (.inr (some q9))), (0, .inr (.inr v0)), (1, .inl v1), (2, .inl v2), (3, .inr (.inr v3))] (by decide) rfl dL_remove_14 (fun ls hl => ?_)
      refine lv_iconst (v := (1 : Int32)) C.1.1 C.1.2.1 dL_remove_16 (by decide) ?_
      exact vx_ret (tr_iret C hr dL_remove_17 (Nat.le_of_ble_eq_true rfl) (Nat.le_of_ble_eq_true rfl) hW hS hw)
    replace hw := hw.2 hq0
    exact hw.elim
  · refine lv_i2l (v := ((x_4).toInt64)) C.1.1 C.1.2.1 dL_remove_7 rfl ?_
    refine tr_pfN (C0 := RX2) (T := TX2) (N := 2) (ci := 4) (ref := "TwinrowLaw$Out") (host := "TwinrowLaw") (k := 0) (ty := .long) (v := .long (((x_4).toInt64))) (r := v3) C (zh hw_X2) tyX2 tyX2_ok nmX2 rfl (by decide) hcC.1 rfl rfl (by decide +kernel) rfl rfl dL_remove_8 hW hS hw (fun G_8 H locs hw hW hS => ?_)
    refine lv_goto (tgt := 18) C.1.1 C.1.2.1 dL_remove_11 (by decide) ?_
    refine lv_iconst (v := (0 : Int32)) C.1.1 C.1.2.1 dL_remove_18 (by decide) ?_
    exact vx_ret (tr_iret C hr dL_remove_19 (Nat.le_of_ble_eq_true rfl) (Nat.le_of_ble_eq_true rfl) hW hS hw)
end Z_L_remove
set_option maxHeartbeats 4000000 in
set_option maxRecDepth 100000 in
theorem c_L_remove (l : Launch) (hll : l.stackTraces = false) (K : tK) (post : Int32 → tG → Prop) (v0 : Option Nat) (v1 : Int32) (v2 : Int32) (v3 : Option Nat) : Cx l yL_remove wz_L_remove ({ frames := 8, cells := 2, slots := 12, locals := 127 } : Room) 2 12 [va_rf v0, .int v1, .int v2, va_rf v3] K (retI post) (fun _ _ => False) (fun G => w_L_remove K post v0 v1 v2 v3 G) := by
  refine tx_ofH (cc := cL_remove) (maxL := 5) (ret := (some .int)) (own := RL) (hh := [(0, 11, 14, 19)]) (by decide) rfl rfl hll [.inr (.inr v0), .inl v1, .inl v2, .inr (.inr v3)] rfl (Nat.le_of_ble_eq_true rfl) ?_
  intro p e s m args below meth c D A G ls C hr htab hcC hl hW hS hw
  exact s_L_remove C hr htab hcC hll post v0 v1 v2 v3 _ _ _ _ hW hS hl hw

/-! X3_remove -/
def wz_X3_remove : List Cond := Cond.code yX3_remove cX3_remove 3 (some .int) :: w0
section Z_X3_remove
variable {p : Program} {l : Launch} {e : Env} {s : State} {m : MethodId} {args : Array Value} {below : List Frame} {meth : Method} {c : Code} {D : va_G} {A : Nat → Prop}
set_option maxHeartbeats 4000000 in
set_option maxRecDepth 100000 in
theorem s_X3_remove_22 {K : tK} (C : tc_B p l s m args meth c D K A wz_X3_remove RX3 cX3_remove 3) (hr : meth.sig.returnType = (some .int)) (hll : l.stackTraces = false)  (post : Int32 → tG → Prop) : ∀ (u0 : Int32) (G : tG) (H : Heap) (locs : List Loc) (ls : Array Slot), tg_W D A s H G → va_S A s.heap H locs → tl ls 3 [] → w_X3_remove_22 K post u0 G → W p l e ({ frames := 3, cells := 0, slots := 0, locals := 65 } : Room) s m args below meth c H locs 0 0 (MQ below (tc_Qc D A (retI post)) args s 0 0 A) (F0 m 22 ls [.int u0]) := by
  intro u0 G H locs ls hW hS hl hw
  unfold w_X3_remove_22 at hw
  exact tr_iret C hr dX3_remove_22 (Nat.le_of_ble_eq_true rfl) (Nat.le_of_ble_eq_true rfl) hW hS hw
set_option maxHeartbeats 4000000 in
set_option maxRecDepth 100000 in
theorem s_X3_remove {K : tK} (C : tc_B p l s m args meth c D K A wz_X3_remove RX3 cX3_remove 3) (hr : meth.sig.returnType = (some .int)) (hll : l.stackTraces = false)  (post : Int32 → tG → Prop) (v0 : Option Nat) (v1 : Int32) (v2 : Int32) : ∀ (G : tG) (H : Heap) (locs : List Loc) (ls : Array Slot), tg_W D A s H G → va_S A s.heap H locs → tl ls 3 [(0, .inr (.inr v0)), (1, .inl v1), (2, .inl v2)] → w_X3_remove K post v0 v1 v2 G → W p l e ({ frames := 3, cells := 0, slots := 0, locals := 65 } : Room) s m args below meth c H locs 0 0 (MQ below (tc_Qc D A (retI post)) args s 0 0 A) (F0 m 0 ls []) := by
  intro G H locs ls hW hS hl hw
  unfold w_X3_remove at hw
  refine tr_aload_n (k := 0) (x := v0) C hl 0 rfl dX3_remove_0 ?_
  refine tr_aload_n (k := 0) (x := v0) C hl 0 rfl dX3_remove_1 ?_
  refine tr_iload_n (k := 1) (x := v1) C hl 1 rfl dX3_remove_2 ?_
  refine tr_iload_n (k := 2) (x := v2) C hl 2 rfl dX3_remove_3 ?_
  refine tr_backI (tr_runV (r := v0) (As := [.int v1, .int v2]) C hl.1 (c_X3_isNoPlace l hll K _ v0 v1 v2) (cwV 2 C.1.2.2.2.2 (gi_V (zm kw_219) (zm kw_220) (zm kw_221) (zm kw_155) (zm kw_218)) rfl rfl rfl (by decide +kernel) ⟨(Nat.le_of_ble_eq_true rfl), (Nat.le_of_ble_eq_true rfl)⟩) rfl rfl dX3_remove_4 ⟨(Nat.le_of_ble_eq_true rfl), (Nat.le_of_ble_eq_true rfl)⟩ [.inr (.inr v0)] rfl (Nat.le_of_ble_eq_true rfl) rfl hW hS hw) hS (fun x_4 G_4 H locs hw hW hS => ?_)
  refine lv_iconst (v := (0 : Int32)) C.1.1 C.1.2.1 dX3_remove_7 (by decide) ?_
  refine tr_backI (tr_runV (r := v0) (As := [.int x_4, .int ((0 : Int32))]) C hl.1 (c_X3_fails l hll K _ v0 x_4 ((0 : Int32))) (cwV 2 C.1.2.2.2.2 (gi_V (zm kw_190) (zm kw_191) (zm kw_192) (zm kw_155) (zm kw_189)) rfl rfl rfl (by decide +kernel) ⟨(Nat.le_of_ble_eq_true rfl), (Nat.le_of_ble_eq_true rfl)⟩) rfl rfl dX3_remove_8 ⟨(Nat.le_of_ble_eq_true rfl), (Nat.le_of_ble_eq_true rfl)⟩ [] rfl (Nat.le_of_ble_eq_true rfl) rfl hW hS hw) hS (fun x_8 G_8 H locs hw hW hS => ?_)
  refine lv_if_eq (tgt := 18) C.1.1 C.1.2.1 dX3_remove_11 (by decide) (fun hc => ?_) (fun hc => ?_)
  · have hw := hw.1 hc
    refine tr_aload_n (k := 0) (x := v0) C hl 0 rfl dX3_remove_18 ?_
    refine tr_backI (tr_runV (r := v0) (As := []) C hl.1 (c_X3_refused l hll K _ v0) (cwV 0 C.1.2.2.2.2 (gi_V (zm kw_215) (zm kw_216) (zm kw_217) (zm kw_155) (zm kw_214)) rfl rfl rfl (by decide +kernel) ⟨(Nat.le_of_ble_eq_true rfl), (Nat.le_of_ble_eq_true rfl)⟩) rfl rfl dX3_remove_19 ⟨(Nat.le_of_ble_eq_true rfl), (Nat.le_of_ble_eq_true rfl)⟩ [] rfl (Nat.le_of_ble_eq_true rfl) rfl hW hS hw) hS (fun x_19 G_19 H locs hw hW hS => ?_)
    exact s_X3_remove_22 C hr hll post x_19 _ _ _ _ hW hS (tl_sub hl [] rfl) hw
  · have hw := hw.2 hc
    refine lv_iconst (v := (0 : Int32)) C.1.1 C.1.2.1 dX3_remove_14 (by decide) ?_
    refine lv_goto (tgt := 22) C.1.1 C.1.2.1 dX3_remove_15 (by decide) ?_
    exact s_X3_remove_22 C hr hll post ((0 : Int32)) _ _ _ _ hW hS (tl_sub hl [] rfl) hw
end Z_X3_remove
set_option maxHeartbeats 4000000 in
set_option maxRecDepth 100000 in
theorem c_X3_remove (l : Launch) (hll : l.stackTraces = false) (K : tK) (post : Int32 → tG → Prop) (v0 : Option Nat) (v1 : Int32) (v2 : Int32) : Ct l yX3_remove wz_X3_remove ({ frames := 3, cells := 0, slots := 0, locals := 65 } : Room) 0 0 [va_rf v0, .int v1, .int v2] K (retI post) (fun G => w_X3_remove K post v0 v1 v2 G) := by
  refine tc_of (cc := cX3_remove) (maxL := 3) (ret := (some .int)) (own := RX3) (plainFor_of_name (by decide)) rfl rfl hll [.inr (.inr v0), .inl v1, .inl v2] rfl (Nat.le_of_ble_eq_true rfl) ?_
  intro p e s m args below meth c D A G ls C hr hn ht hl hW hS hw
  exact s_X3_remove C hr hll post v0 v1 v2 _ _ _ _ hW hS hl hw

/-! X1_addAll -/
def wz_X1_addAll : List Cond := Cond.code yX1_addAll cX1_addAll 3 (some .int) :: w0
section Z_X1_addAll
variable {p : Program} {l : Launch} {e : Env} {s : State} {m : MethodId} {args : Array Value} {below : List Frame} {meth : Method} {c : Code} {D : va_G} {A : Nat → Prop}
set_option maxHeartbeats 4000000 in
set_option maxRecDepth 100000 in
theorem s_X1_addAll_23 {K : tK} (C : tc_B p l s m args meth c D K A wz_X1_addAll RX1 cX1_addAll 3) (hr : meth.sig.returnType = (some .int)) (ht : ∀ x ∈ c.exceptionTable.toList, False) (hll : l.stackTraces = false)  (post : Int32 → tG → Prop) (postX : String → tG → Prop) : ∀ (u0 : Option Nat) (u1 : Int32) (G : tG) (H : Heap) (locs : List Loc) (ls : Array Slot), tg_W D A s H G → va_S A s.heap H locs → tl ls 3 [] → w_X1_addAll_23 K post postX u0 u1 G → W p l e ({ frames := 7, cells := 2, slots := 12, locals := 104 } : Room) s m args below meth c H locs 2 12 (vx_MQ below (tc_Qc D A (retI post)) (tc_XC D A postX) args s 2 12 A) (F0 m 23 ls [.int u1, va_rf u0]) := by
  intro u0 u1 G H locs ls hW hS hl hw
  unfold w_X1_addAll_23 at hw
  refine tr_backI (tr_runV (r := u0) (As := [.int u1]) C hl.1 (c_X1_refuseIf l hll K _ u0 u1) (cwV 1 C.1.2.2.2.2 (gi_V (zm kw_202) (zm kw_203) (zm kw_204) (zm kw_33) (zm kw_201)) rfl rfl rfl (by decide +kernel) ⟨(Nat.le_of_ble_eq_true rfl), (Nat.le_of_ble_eq_true rfl)⟩) rfl rfl dX1_addAll_23 ⟨(Nat.le_of_ble_eq_true rfl), (Nat.le_of_ble_eq_true rfl)⟩ [] rfl (Nat.le_of_ble_eq_true rfl) rfl hW hS hw) hS (fun x_23 G_23 H locs hw hW hS => ?_)
  exact vx_ret (tr_iret C hr dX1_addAll_26 (Nat.le_of_ble_eq_true rfl) (Nat.le_of_ble_eq_true rfl) hW hS hw)
set_option maxHeartbeats 4000000 in
set_option maxRecDepth 100000 in
theorem s_X1_addAll {K : tK} (C : tc_B p l s m args meth c D K A wz_X1_addAll RX1 cX1_addAll 3) (hr : meth.sig.returnType = (some .int)) (ht : ∀ x ∈ c.exceptionTable.toList, False) (hll : l.stackTraces = false)  (post : Int32 → tG → Prop) (postX : String → tG → Prop) (v0 : Option Nat) (v1 : Int32) (v2 : Int32) : ∀ (G : tG) (H : Heap) (locs : List Loc) (ls : Array Slot), tg_W D A s H G → va_S A s.heap H locs → tl ls 3 [(0, .inr (.inr v0)), (1, .inl v1), (2, .inl v2)] → w_X1_addAll K post postX v0 v1 v2 G → W p l e ({ frames := 7, cells := 2, slots := 12, locals := 104 } : Room) s m args below meth c H locs 0 0 (vx_MQ below (tc_Qc D A (retI post)) (tc_XC D A postX) args s 2 12 A) (F0 m 0 ls []) := by
  intro G H locs ls hW hS hl hw
  unfold w_X1_addAll at hw
  refine tr_aload_n (k := 0) (x := v0) C hl 0 rfl dX1_addAll_0 ?_
  refine tr_iload_n (k := 1) (x := v1) C hl 1 rfl dX1_addAll_1 ?_
  refine tx_backR (tx_runV (r := v0) (As := [.int v1]) C hl.1 (c_X1_listAt l hll K _ _ v0 v1) (cwV 1 C.1.2.2.2.2 (gi_V (zm kw_94) (zm kw_95) (zm kw_96) (zm kw_33) (zm kw_93)) rfl rfl rfl (by decide +kernel) ⟨(Nat.le_of_ble_eq_true rfl), (Nat.le_of_ble_eq_true rfl)⟩) rfl rfl dX1_addAll_2 ⟨(Nat.le_of_ble_eq_true rfl), (Nat.le_of_ble_eq_true rfl)⟩ [] rfl (Nat.le_of_ble_eq_true rfl) rfl hW hS hw) hS C.2.1 ht (Nat.le_of_ble_eq_true rfl) (Nat.le_of_ble_eq_true rfl) (fun x_2 G_2 H locs hw hW hS => ?_)
  refine lv_pop C.1.1 C.1.2.1 dX1_addAll_5 (va_rf_cat _) ?_
  refine tr_aload_n (k := 0) (x := v0) C hl 0 rfl dX1_addAll_6 ?_
  refine tr_aload_n (k := 0) (x := v0) C hl 0 rfl dX1_addAll_7 ?_
  refine tr_iload_n (k := 2) (x := v2) C hl 2 rfl dX1_addAll_8 ?_
  refine tx_backR (tx_runV (r := v0) (As := [.int v2]) C hl.1 (c_X1_listAt l hll K _ _ v0 v2) (cwV 1 C.1.2.2.2.2 (gi_V (zm kw_94) (zm kw_95) (zm kw_96) (zm kw_33) (zm kw_93)) rfl rfl rfl (by decide +kernel) ⟨(Nat.le_of_ble_eq_true rfl), (Nat.le_of_ble_eq_true rfl)⟩) rfl rfl dX1_addAll_9 ⟨(Nat.le_of_ble_eq_true rfl), (Nat.le_of_ble_eq_true rfl)⟩ [.inr (.inr v0)] rfl (Nat.le_of_ble_eq_true rfl) rfl hW hS hw) hS C.2.1 ht (Nat.le_of_ble_eq_true rfl) (Nat.le_of_ble_eq_true rfl) (fun x_9 G_9 H locs hw hW hS => ?_)
  refine tr_gfI (C0 := RX0) (T := TX0) (N := 4) (ci := 2) (ref := "Twinrow$RowList") (k := 3) (r := x_9) C (zh hw_X0) rfl (by decide) (zm kw_34) rfl dX1_addAll_12 hW hw (fun x_12 hw => ?_)
  refine lv_if_le (tgt := 22) C.1.1 C.1.2.1 dX1_addAll_15 (by decide) (fun hc => ?_) (fun hc => ?_)
  · have hw := hw.1 hc
    refine lv_iconst (v := (0 : Int32)) C.1.1 C.1.2.1 dX1_addAll_22 (by decide) ?_
    exact s_X1_addAll_23 C hr ht hll post postX v0 ((0 : Int32)) _ _ _ _ hW hS (tl_sub hl [] rfl) hw
  · have hw := hw.2 hc
    refine lv_iconst (v := (1 : Int32)) C.1.1 C.1.2.1 dX1_addAll_18 (by decide) ?_
    refine lv_goto (tgt := 23) C.1.1 C.1.2.1 dX1_addAll_19 (by decide) ?_
    exact s_X1_addAll_23 C hr ht hll post postX v0 ((1 : Int32)) _ _ _ _ hW hS (tl_sub hl [] rfl) hw
end Z_X1_addAll
set_option maxHeartbeats 4000000 in
set_option maxRecDepth 100000 in
theorem c_X1_addAll (l : Launch) (hll : l.stackTraces = false) (K : tK) (post : Int32 → tG → Prop) (postX : String → tG → Prop) (v0 : Option Nat) (v1 : Int32) (v2 : Int32) : Cx l yX1_addAll wz_X1_addAll ({ frames := 7, cells := 2, slots := 12, locals := 104 } : Room) 2 12 [va_rf v0, .int v1, .int v2] K (retI post) postX (fun G => w_X1_addAll K post postX v0 v1 v2 G) := by
  refine tx_of (cc := cX1_addAll) (maxL := 3) (ret := (some .int)) (own := RX1) (by decide) rfl rfl hll [.inr (.inr v0), .inl v1, .inl v2] rfl (Nat.le_of_ble_eq_true rfl) ?_
  intro p e s m args below meth c D A G ls C hr hn ht hl hW hS hw
  exact s_X1_addAll C hr ht hll post postX v0 v1 v2 _ _ _ _ hW hS hl hw

/-! L_addAll -/
def wz_L_addAll : List Cond := Cond.codeWith yL_addAll cL_addAll 5 (some .int) [(0, 11, 14, 19)] :: w0
section Z_L_addAll
variable {p : Program} {l : Launch} {e : Env} {s : State} {m : MethodId} {args : Array Value} {below : List Frame} {meth : Method} {c : Code} {D : va_G} {A : Nat → Prop}
set_option maxHeartbeats 4000000 in
set_option maxRecDepth 100000 in
theorem s_L_addAll {K : tK} (C : tc_B p l s m args meth c D K A wz_L_addAll RL cL_addAll 5) (hr : meth.sig.returnType = (some .int)) (htab : c.exceptionTable.toList = tableOf [(0, 11, 14, 19)]) (hcC : kx_C s) (hll : l.stackTraces = false)  (post : Int32 → tG → Prop) (v0 : Option Nat) (v1 : Int32) (v2 : Int32) (v3 : Option Nat) : ∀ (G : tG) (H : Heap) (locs : List Loc) (ls : Array Slot), tg_W D A s H G → va_S A s.heap H locs → tl ls 5 [(0, .inr (.inr v0)), (1, .inl v1), (2, .inl v2), (3, .inr (.inr v3))] → w_L_addAll K post v0 v1 v2 v3 G → W p l e ({ frames := 8, cells := 2, slots := 12, locals := 126 } : Room) s m args below meth c H locs 0 0 (vx_MQ below (tc_Qc D A (retI post)) (tc_XC D A (fun _ _ => False)) args s 2 12 A) (F0 m 0 ls []) := by
  intro G H locs ls hW hS hl hw
  unfold w_L_addAll at hw
  refine tr_aload_n (k := 3) (x := v3) C hl 3 rfl dL_addAll_0 ?_
  refine tr_aload_n (k := 0) (x := v0) C hl 0 rfl dL_addAll_1 ?_
  refine tr_iload_n (k := 1) (x := v1) C hl 1 rfl dL_addAll_2 ?_
  refine tr_iload_n (k := 2) (x := v2) C hl 2 rfl dL_addAll_3 ?_
  refine tx_backCI (tx_runV (r := v0) (As := [.int v1, .int v2]) C hl.1 (c_X1_addAll l hll K _ _ v0 v1 v2) (cwV 2 C.1.2.2.2.2 (gi_V (zm kw_283) (zm kw_284) (zm kw_285) (zm kw_33) (zm kw_282)) rfl rfl rfl (by decide +kernel) ⟨(Nat.le_of_ble_eq_true rfl), (Nat.le_of_ble_eq_true rfl)⟩) rfl rfl dL_addAll_4 ⟨(Nat.le_of_ble_eq_true rfl), (Nat.le_of_ble_eq_true rfl)⟩ [.inr (.inr v3)] rfl (Nat.le_of_ble_eq_true rfl) rfl hW hS hw) hS (fun E ce q9 GX H locs hw hW hS hce hcv hcl => ?_) (fun x_4 G_4 H locs hw hW hS => ?_)
  · by_cases hq0 : E = "java/lang/IndexOutOfBoundsException"
    · replace hw := hw.1 hq0
      subst hq0
      refine vx_catch (name := "java/lang/IndexOutOfBoundsException") C.1.2.2.2.1 [] (⟨0, 11, 14, 19⟩ : ExceptionTableEntry) [] (by rw [htab]; rfl) (fun z hz => nomatch hz) (by decide) (by decide) (C.1.2.2.2.2 _ (zm kw_209)) hcC.2.2.1 hce hcv hcl ?_
      refine tr_astore (x := (some q9)) C hl [(4, .inr (.inr (some q9))), (0, .inr (.inr v0)), (1, .inl v1), (2, .inl v2), (3, .inr (.inr v3))] (by decide) rfl dL_addAll_14 (fun ls hl => ?_)
      refine lv_iconst (v := (1 : Int32)) C.1.1 C.1.2.1 dL_addAll_16 (by decide) ?_
      exact vx_ret (tr_iret C hr dL_addAll_17 (Nat.le_of_ble_eq_true rfl) (Nat.le_of_ble_eq_true rfl) hW hS hw)
    replace hw := hw.2 hq0
    exact hw.elim
  · refine lv_i2l (v := ((x_4).toInt64)) C.1.1 C.1.2.1 dL_addAll_7 rfl ?_
    refine tr_pfN (C0 := RX2) (T := TX2) (N := 2) (ci := 4) (ref := "TwinrowLaw$Out") (host := "TwinrowLaw") (k := 0) (ty := .long) (v := .long (((x_4).toInt64))) (r := v3) C (zh hw_X2) tyX2 tyX2_ok nmX2 rfl (by decide) hcC.1 rfl rfl (by decide +kernel) rfl rfl dL_addAll_8 hW hS hw (fun G_8 H locs hw hW hS => ?_)
    refine lv_goto (tgt := 18) C.1.1 C.1.2.1 dL_addAll_11 (by decide) ?_
    refine lv_iconst (v := (0 : Int32)) C.1.1 C.1.2.1 dL_addAll_18 (by decide) ?_
    exact vx_ret (tr_iret C hr dL_addAll_19 (Nat.le_of_ble_eq_true rfl) (Nat.le_of_ble_eq_true rfl) hW hS hw)
end Z_L_addAll
set_option maxHeartbeats 4000000 in
set_option maxRecDepth 100000 in
theorem c_L_addAll (l : Launch) (hll : l.stackTraces = false) (K : tK) (post : Int32 → tG → Prop) (v0 : Option Nat) (v1 : Int32) (v2 : Int32) (v3 : Option Nat) : Cx l yL_addAll wz_L_addAll ({ frames := 8, cells := 2, slots := 12, locals := 126 } : Room) 2 12 [va_rf v0, .int v1, .int v2, va_rf v3] K (retI post) (fun _ _ => False) (fun G => w_L_addAll K post v0 v1 v2 v3 G) := by
  refine tx_ofH (cc := cL_addAll) (maxL := 5) (ret := (some .int)) (own := RL) (hh := [(0, 11, 14, 19)]) (by decide) rfl rfl hll [.inr (.inr v0), .inl v1, .inl v2, .inr (.inr v3)] rfl (Nat.le_of_ble_eq_true rfl) ?_
  intro p e s m args below meth c D A G ls C hr htab hcC hl hW hS hw
  exact s_L_addAll C hr htab hcC hll post v0 v1 v2 v3 _ _ _ _ hW hS hl hw

/-! X3_addAll -/
def wz_X3_addAll : List Cond := Cond.code yX3_addAll cX3_addAll 3 (some .int) :: w0
section Z_X3_addAll
variable {p : Program} {l : Launch} {e : Env} {s : State} {m : MethodId} {args : Array Value} {below : List Frame} {meth : Method} {c : Code} {D : va_G} {A : Nat → Prop}
set_option maxHeartbeats 4000000 in
set_option maxRecDepth 100000 in
theorem s_X3_addAll_36 {K : tK} (C : tc_B p l s m args meth c D K A wz_X3_addAll RX3 cX3_addAll 3) (hr : meth.sig.returnType = (some .int)) (hll : l.stackTraces = false)  (post : Int32 → tG → Prop) : ∀ (u0 : Int32) (G : tG) (H : Heap) (locs : List Loc) (ls : Array Slot), tg_W D A s H G → va_S A s.heap H locs → tl ls 3 [] → w_X3_addAll_36 K post u0 G → W p l e ({ frames := 3, cells := 0, slots := 0, locals := 65 } : Room) s m args below meth c H locs 0 0 (MQ below (tc_Qc D A (retI post)) args s 0 0 A) (F0 m 36 ls [.int u0]) := by
  intro u0 G H locs ls hW hS hl hw
  unfold w_X3_addAll_36 at hw
  exact tr_iret C hr dX3_addAll_36 (Nat.le_of_ble_eq_true rfl) (Nat.le_of_ble_eq_true rfl) hW hS hw
set_option maxHeartbeats 4000000 in
set_option maxRecDepth 100000 in
theorem s_X3_addAll_33 {K : tK} (C : tc_B p l s m args meth c D K A wz_X3_addAll RX3 cX3_addAll 3) (hr : meth.sig.returnType = (some .int)) (hll : l.stackTraces = false)  (post : Int32 → tG → Prop) : ∀ (u0 : Option Nat) (u1 : Int32) (G : tG) (H : Heap) (locs : List Loc) (ls : Array Slot), tg_W D A s H G → va_S A s.heap H locs → tl ls 3 [] → w_X3_addAll_33 K post u0 u1 G → W p l e ({ frames := 3, cells := 0, slots := 0, locals := 65 } : Room) s m args below meth c H locs 0 0 (MQ below (tc_Qc D A (retI post)) args s 0 0 A) (F0 m 33 ls [.int u1, va_rf u0]) := by
  intro u0 u1 G H locs ls hW hS hl hw
  unfold w_X3_addAll_33 at hw
  refine tr_backI (tr_runV (r := u0) (As := [.int u1]) C hl.1 (c_X3_refusedIf l hll K _ u0 u1) (cwV 1 C.1.2.2.2.2 (gi_V (zm kw_227) (zm kw_228) (zm kw_229) (zm kw_155) (zm kw_226)) rfl rfl rfl (by decide +kernel) ⟨(Nat.le_of_ble_eq_true rfl), (Nat.le_of_ble_eq_true rfl)⟩) rfl rfl dX3_addAll_33 ⟨(Nat.le_of_ble_eq_true rfl), (Nat.le_of_ble_eq_true rfl)⟩ [] rfl (Nat.le_of_ble_eq_true rfl) rfl hW hS hw) hS (fun x_33 G_33 H locs hw hW hS => ?_)
  exact s_X3_addAll_36 C hr hll post x_33 _ _ _ _ hW hS (tl_sub hl [] rfl) hw
set_option maxHeartbeats 4000000 in
set_option maxRecDepth 100000 in
theorem s_X3_addAll {K : tK} (C : tc_B p l s m args meth c D K A wz_X3_addAll RX3 cX3_addAll 3) (hr : meth.sig.returnType = (some .int)) (hll : l.stackTraces = false)  (post : Int32 → tG → Prop) (v0 : Option Nat) (v1 : Int32) (v2 : Int32) : ∀ (G : tG) (H : Heap) (locs : List Loc) (ls : Array Slot), tg_W D A s H G → va_S A s.heap H locs → tl ls 3 [(0, .inr (.inr v0)), (1, .inl v1), (2, .inl v2)] → w_X3_addAll K post v0 v1 v2 G → W p l e ({ frames := 3, cells := 0, slots := 0, locals := 65 } : Room) s m args below meth c H locs 0 0 (MQ below (tc_Qc D A (retI post)) args s 0 0 A) (F0 m 0 ls []) := by
  intro G H locs ls hW hS hl hw
  unfold w_X3_addAll at hw
  refine tr_aload_n (k := 0) (x := v0) C hl 0 rfl dX3_addAll_0 ?_
  refine tr_aload_n (k := 0) (x := v0) C hl 0 rfl dX3_addAll_1 ?_
  refine tr_iload_n (k := 1) (x := v1) C hl 1 rfl dX3_addAll_2 ?_
  refine tr_iload_n (k := 2) (x := v2) C hl 2 rfl dX3_addAll_3 ?_
  refine tr_backI (tr_runV (r := v0) (As := [.int v1, .int v2]) C hl.1 (c_X3_isNoPair l hll K _ v0 v1 v2) (cwV 2 C.1.2.2.2.2 (gi_V (zm kw_257) (zm kw_258) (zm kw_259) (zm kw_155) (zm kw_256)) rfl rfl rfl (by decide +kernel) ⟨(Nat.le_of_ble_eq_true rfl), (Nat.le_of_ble_eq_true rfl)⟩) rfl rfl dX3_addAll_4 ⟨(Nat.le_of_ble_eq_true rfl), (Nat.le_of_ble_eq_true rfl)⟩ [.inr (.inr v0)] rfl (Nat.le_of_ble_eq_true rfl) rfl hW hS hw) hS (fun x_4 G_4 H locs hw hW hS => ?_)
  refine lv_iconst (v := (0 : Int32)) C.1.1 C.1.2.1 dX3_addAll_7 (by decide) ?_
  refine tr_backI (tr_runV (r := v0) (As := [.int x_4, .int ((0 : Int32))]) C hl.1 (c_X3_fails l hll K _ v0 x_4 ((0 : Int32))) (cwV 2 C.1.2.2.2.2 (gi_V (zm kw_190) (zm kw_191) (zm kw_192) (zm kw_155) (zm kw_189)) rfl rfl rfl (by decide +kernel) ⟨(Nat.le_of_ble_eq_true rfl), (Nat.le_of_ble_eq_true rfl)⟩) rfl rfl dX3_addAll_8 ⟨(Nat.le_of_ble_eq_true rfl), (Nat.le_of_ble_eq_true rfl)⟩ [] rfl (Nat.le_of_ble_eq_true rfl) rfl hW hS hw) hS (fun x_8 G_8 H locs hw hW hS => ?_)
  refine lv_if_eq (tgt := 18) C.1.1 C.1.2.1 dX3_addAll_11 (by decide) (fun hc => ?_) (fun hc => ?_)
  · have hw := hw.1 hc
    refine tr_aload_n (k := 0) (x := v0) C hl 0 rfl dX3_addAll_18 ?_
    refine tr_aload_n (k := 0) (x := v0) C hl 0 rfl dX3_addAll_19 ?_
    refine tr_gfR (C0 := RX3) (T := TX3) (N := 8) (ci := 5) (ref := "TwinrowModel") (k := 3) (r := v0) C (zh hw_X3) rfl (by decide) (zm kw_24) rfl dX3_addAll_20 hW hw (fun x_20 hw => ?_)
    refine tr_iload_n (k := 2) (x := v2) C hl 2 rfl dX3_addAll_23 ?_
    refine tr_alI (r := x_20) C dX3_addAll_24 hW hw (fun x_24 hw => ?_)
    refine lv_if_le (tgt := 32) C.1.1 C.1.2.1 dX3_addAll_25 (by decide) (fun hc => ?_) (fun hc => ?_)
    · have hw := hw.1 hc
      refine lv_iconst (v := (0 : Int32)) C.1.1 C.1.2.1 dX3_addAll_32 (by decide) ?_
      exact s_X3_addAll_33 C hr hll post v0 ((0 : Int32)) _ _ _ _ hW hS (tl_sub hl [] rfl) hw
    · have hw := hw.2 hc
      refine lv_iconst (v := (1 : Int32)) C.1.1 C.1.2.1 dX3_addAll_28 (by decide) ?_
      refine lv_goto (tgt := 33) C.1.1 C.1.2.1 dX3_addAll_29 (by decide) ?_
      exact s_X3_addAll_33 C hr hll post v0 ((1 : Int32)) _ _ _ _ hW hS (tl_sub hl [] rfl) hw
  · have hw := hw.2 hc
    refine lv_iconst (v := (0 : Int32)) C.1.1 C.1.2.1 dX3_addAll_14 (by decide) ?_
    refine lv_goto (tgt := 36) C.1.1 C.1.2.1 dX3_addAll_15 (by decide) ?_
    exact s_X3_addAll_36 C hr hll post ((0 : Int32)) _ _ _ _ hW hS (tl_sub hl [] rfl) hw
end Z_X3_addAll
set_option maxHeartbeats 4000000 in
set_option maxRecDepth 100000 in
theorem c_X3_addAll (l : Launch) (hll : l.stackTraces = false) (K : tK) (post : Int32 → tG → Prop) (v0 : Option Nat) (v1 : Int32) (v2 : Int32) : Ct l yX3_addAll wz_X3_addAll ({ frames := 3, cells := 0, slots := 0, locals := 65 } : Room) 0 0 [va_rf v0, .int v1, .int v2] K (retI post) (fun G => w_X3_addAll K post v0 v1 v2 G) := by
  refine tc_of (cc := cX3_addAll) (maxL := 3) (ret := (some .int)) (own := RX3) (plainFor_of_name (by decide)) rfl rfl hll [.inr (.inr v0), .inl v1, .inl v2] rfl (Nat.le_of_ble_eq_true rfl) ?_
  intro p e s m args below meth c D A G ls C hr hn ht hl hW hS hw
  exact s_X3_addAll C hr hll post v0 v1 v2 _ _ _ _ hW hS hl hw

/-! X1_addAt -/
def wz_X1_addAt : List Cond := Cond.code yX1_addAt cX1_addAt 5 (some .int) :: w0
section Z_X1_addAt
variable {p : Program} {l : Launch} {e : Env} {s : State} {m : MethodId} {args : Array Value} {below : List Frame} {meth : Method} {c : Code} {D : va_G} {A : Nat → Prop}
set_option maxHeartbeats 4000000 in
set_option maxRecDepth 100000 in
theorem s_X1_addAt {K : tK} (C : tc_B p l s m args meth c D K A wz_X1_addAt RX1 cX1_addAt 5) (hr : meth.sig.returnType = (some .int)) (ht : ∀ x ∈ c.exceptionTable.toList, False) (hll : l.stackTraces = false)  (post : Int32 → tG → Prop) (postX : String → tG → Prop) (v0 : Option Nat) (v1 : Int32) (v2 : Int32) (v3 : Int32) : ∀ (G : tG) (H : Heap) (locs : List Loc) (ls : Array Slot), tg_W D A s H G → va_S A s.heap H locs → tl ls 5 [(0, .inr (.inr v0)), (1, .inl v1), (2, .inl v2), (3, .inl v3)] → w_X1_addAt K post postX v0 v1 v2 v3 G → W p l e ({ frames := 8, cells := 3, slots := 18, locals := 124 } : Room) s m args below meth c H locs 0 0 (vx_MQ below (tc_Qc D A (retI post)) (tc_XC D A postX) args s 3 18 A) (F0 m 0 ls []) := by
  intro G H locs ls hW hS hl hw
  unfold w_X1_addAt at hw
  refine tr_aload_n (k := 0) (x := v0) C hl 0 rfl dX1_addAt_0 ?_
  refine tr_iload_n (k := 1) (x := v1) C hl 1 rfl dX1_addAt_1 ?_
  refine tx_backR (tx_runV (r := v0) (As := [.int v1]) C hl.1 (c_X1_listAt l hll K _ _ v0 v1) (cwV 1 C.1.2.2.2.2 (gi_V (zm kw_94) (zm kw_95) (zm kw_96) (zm kw_33) (zm kw_93)) rfl rfl rfl (by decide +kernel) ⟨(Nat.le_of_ble_eq_true rfl), (Nat.le_of_ble_eq_true rfl)⟩) rfl rfl dX1_addAt_2 ⟨(Nat.le_of_ble_eq_true rfl), (Nat.le_of_ble_eq_true rfl)⟩ [] rfl (Nat.le_of_ble_eq_true rfl) rfl hW hS hw) hS C.2.1 ht (Nat.le_of_ble_eq_true rfl) (Nat.le_of_ble_eq_true rfl) (fun x_2 G_2 H locs hw hW hS => ?_)
  refine tr_astore (x := x_2) C hl [(4, .inr (.inr x_2)), (0, .inr (.inr v0)), (1, .inl v1), (2, .inl v2), (3, .inl v3)] (by decide) rfl dX1_addAt_5 (fun ls hl => ?_)
  refine tr_iload_n (k := 2) (x := v2) C hl 3 rfl dX1_addAt_7 ?_
  refine lv_iconst (v := (0 : Int32)) C.1.1 C.1.2.1 dX1_addAt_8 (by decide) ?_
  refine tr_aload (x := x_2) C hl 0 rfl dX1_addAt_9 ?_
  refine tr_gfI (C0 := RX0) (T := TX0) (N := 4) (ci := 2) (ref := "Twinrow$RowList") (k := 3) (r := x_2) C (zh hw_X0) rfl (by decide) (zm kw_34) rfl dX1_addAt_11 hW hw (fun x_11 hw => ?_)
  refine tx_backV (tx_runS (As := [.int v2, .int ((0 : Int32)), .int x_11]) C hl.1 (c_X1_checkNumber l hll K _ _ v2 ((0 : Int32)) x_11) (va_cwS 3 C.1.2.2.2.2 (gi_S (zm kw_89) (zm kw_90) (zm kw_33) (zm kw_88)) rfl rfl rfl (by decide +kernel) ⟨(Nat.le_of_ble_eq_true rfl), (Nat.le_of_ble_eq_true rfl)⟩) rfl dX1_addAt_14 ⟨(Nat.le_of_ble_eq_true rfl), (Nat.le_of_ble_eq_true rfl)⟩ [] rfl (Nat.le_of_ble_eq_true rfl) rfl hW hS hw) hS C.2.1 ht (Nat.le_of_ble_eq_true rfl) (Nat.le_of_ble_eq_true rfl) (fun G_14 H locs hw hW hS => ?_)
  refine tr_iload_n (k := 3) (x := v3) C hl 4 rfl dX1_addAt_17 ?_
  refine tx_backV (tx_runS (As := [.int v3]) C hl.1 (c_X1_checkValue l hll K _ _ v3) (va_cwS 1 C.1.2.2.2.2 (gi_S (zm kw_269) (zm kw_270) (zm kw_33) (zm kw_268)) rfl rfl rfl (by decide +kernel) ⟨(Nat.le_of_ble_eq_true rfl), (Nat.le_of_ble_eq_true rfl)⟩) rfl dX1_addAt_18 ⟨(Nat.le_of_ble_eq_true rfl), (Nat.le_of_ble_eq_true rfl)⟩ [] rfl (Nat.le_of_ble_eq_true rfl) rfl hW hS hw) hS C.2.1 ht (Nat.le_of_ble_eq_true rfl) (Nat.le_of_ble_eq_true rfl) (fun G_18 H locs hw hW hS => ?_)
  refine tr_aload_n (k := 0) (x := v0) C hl 1 rfl dX1_addAt_21 ?_
  refine lv_iconst (v := (1 : Int32)) C.1.1 C.1.2.1 dX1_addAt_22 (by decide) ?_
  refine tr_backI (tr_runV (r := v0) (As := [.int ((1 : Int32))]) C hl.1 (c_X1_refuseIf l hll K _ v0 ((1 : Int32))) (cwV 1 C.1.2.2.2.2 (gi_V (zm kw_202) (zm kw_203) (zm kw_204) (zm kw_33) (zm kw_201)) rfl rfl rfl (by decide +kernel) ⟨(Nat.le_of_ble_eq_true rfl), (Nat.le_of_ble_eq_true rfl)⟩) rfl rfl dX1_addAt_23 ⟨(Nat.le_of_ble_eq_true rfl), (Nat.le_of_ble_eq_true rfl)⟩ [] rfl (Nat.le_of_ble_eq_true rfl) rfl hW hS hw) hS (fun x_23 G_23 H locs hw hW hS => ?_)
  exact vx_ret (tr_iret C hr dX1_addAt_26 (Nat.le_of_ble_eq_true rfl) (Nat.le_of_ble_eq_true rfl) hW hS hw)
end Z_X1_addAt
set_option maxHeartbeats 4000000 in
set_option maxRecDepth 100000 in
theorem c_X1_addAt (l : Launch) (hll : l.stackTraces = false) (K : tK) (post : Int32 → tG → Prop) (postX : String → tG → Prop) (v0 : Option Nat) (v1 : Int32) (v2 : Int32) (v3 : Int32) : Cx l yX1_addAt wz_X1_addAt ({ frames := 8, cells := 3, slots := 18, locals := 124 } : Room) 3 18 [va_rf v0, .int v1, .int v2, .int v3] K (retI post) postX (fun G => w_X1_addAt K post postX v0 v1 v2 v3 G) := by
  refine tx_of (cc := cX1_addAt) (maxL := 5) (ret := (some .int)) (own := RX1) (by decide) rfl rfl hll [.inr (.inr v0), .inl v1, .inl v2, .inl v3] rfl (Nat.le_of_ble_eq_true rfl) ?_
  intro p e s m args below meth c D A G ls C hr hn ht hl hW hS hw
  exact s_X1_addAt C hr ht hll post postX v0 v1 v2 v3 _ _ _ _ hW hS hl hw

/-! L_addAt -/
def wz_L_addAt : List Cond := Cond.codeWith yL_addAt cL_addAt 6 (some .int) [(0, 13, 16, 19), (0, 13, 20, 21)] :: w0
section Z_L_addAt
variable {p : Program} {l : Launch} {e : Env} {s : State} {m : MethodId} {args : Array Value} {below : List Frame} {meth : Method} {c : Code} {D : va_G} {A : Nat → Prop}
set_option maxHeartbeats 4000000 in
set_option maxRecDepth 100000 in
theorem s_L_addAt {K : tK} (C : tc_B p l s m args meth c D K A wz_L_addAt RL cL_addAt 6) (hr : meth.sig.returnType = (some .int)) (htab : c.exceptionTable.toList = tableOf [(0, 13, 16, 19), (0, 13, 20, 21)]) (hcC : kx_C s) (hll : l.stackTraces = false)  (post : Int32 → tG → Prop) (v0 : Option Nat) (v1 : Int32) (v2 : Int32) (v3 : Int32) (v4 : Option Nat) : ∀ (G : tG) (H : Heap) (locs : List Loc) (ls : Array Slot), tg_W D A s H G → va_S A s.heap H locs → tl ls 6 [(0, .inr (.inr v0)), (1, .inl v1), (2, .inl v2), (3, .inl v3), (4, .inr (.inr v4))] → w_L_addAt K post v0 v1 v2 v3 v4 G → W p l e ({ frames := 9, cells := 3, slots := 18, locals := 148 } : Room) s m args below meth c H locs 0 0 (vx_MQ below (tc_Qc D A (retI post)) (tc_XC D A (fun _ _ => False)) args s 3 18 A) (F0 m 0 ls []) := by
  intro G H locs ls hW hS hl hw
  unfold w_L_addAt at hw
  refine tr_aload (x := v4) C hl 4 rfl dL_addAt_0 ?_
  refine tr_aload_n (k := 0) (x := v0) C hl 0 rfl dL_addAt_2 ?_
  refine tr_iload_n (k := 1) (x := v1) C hl 1 rfl dL_addAt_3 ?_
  refine tr_iload_n (k := 2) (x := v2) C hl 2 rfl dL_addAt_4 ?_
  refine tr_iload_n (k := 3) (x := v3) C hl 3 rfl dL_addAt_5 ?_
  refine tx_backCI (tx_runV (r := v0) (As := [.int v1, .int v2, .int v3]) C hl.1 (c_X1_addAt l hll K _ _ v0 v1 v2 v3) (cwV 3 C.1.2.2.2.2 (gi_V (zm kw_287) (zm kw_288) (zm kw_289) (zm kw_33) (zm kw_286)) rfl rfl rfl (by decide +kernel) ⟨(Nat.le_of_ble_eq_true rfl), (Nat.le_of_ble_eq_true rfl)⟩) rfl rfl dL_addAt_6 ⟨(Nat.le_of_ble_eq_true rfl), (Nat.le_of_ble_eq_true rfl)⟩ [.inr (.inr v4)] rfl (Nat.le_of_ble_eq_true rfl) rfl hW hS hw) hS (fun E ce q9 GX H locs hw hW hS hce hcv hcl => ?_) (fun x_6 G_6 H locs hw hW hS => ?_)
  · by_cases hq0 : E = "java/lang/IndexOutOfBoundsException"
    · replace hw := hw.1 hq0
      subst hq0
      refine vx_catch (name := "java/lang/IndexOutOfBoundsException") C.1.2.2.2.1 [] (⟨0, 13, 16, 19⟩ : ExceptionTableEntry) [(⟨0, 13, 20, 21⟩ : ExceptionTableEntry)] (by rw [htab]; rfl) (fun z hz => nomatch hz) (by decide) (by decide) (C.1.2.2.2.2 _ (zm kw_209)) hcC.2.2.1 hce hcv hcl ?_
      refine tr_astore (x := (some q9)) C hl [(5, .inr (.inr (some q9))), (0, .inr (.inr v0)), (1, .inl v1), (2, .inl v2), (3, .inl v3), (4, .inr (.inr v4))] (by decide) rfl dL_addAt_16 (fun ls hl => ?_)
      refine lv_iconst (v := (1 : Int32)) C.1.1 C.1.2.1 dL_addAt_18 (by decide) ?_
      exact vx_ret (tr_iret C hr dL_addAt_19 (Nat.le_of_ble_eq_true rfl) (Nat.le_of_ble_eq_true rfl) hW hS hw)
    replace hw := hw.2 hq0
    by_cases hq1 : E = "java/lang/IllegalArgumentException"
    · replace hw := hw.1 hq1
      subst hq1
      refine vx_catch (name := "java/lang/IllegalArgumentException") C.1.2.2.2.1 [(⟨0, 13, 16, 19⟩ : ExceptionTableEntry)] (⟨0, 13, 20, 21⟩ : ExceptionTableEntry) [] (by rw [htab]; rfl) (kx_pass1 C hcC rfl (by decide) (zm kw_209)) (by decide) (by decide) (C.1.2.2.2.2 _ (zm kw_188)) hcC.2.2.2.1 hce hcv hcl ?_
      refine tr_astore (x := (some q9)) C hl [(5, .inr (.inr (some q9))), (0, .inr (.inr v0)), (1, .inl v1), (2, .inl v2), (3, .inl v3), (4, .inr (.inr v4))] (by decide) rfl dL_addAt_20 (fun ls hl => ?_)
      refine lv_iconst (v := (2 : Int32)) C.1.1 C.1.2.1 dL_addAt_22 (by decide) ?_
      exact vx_ret (tr_iret C hr dL_addAt_23 (Nat.le_of_ble_eq_true rfl) (Nat.le_of_ble_eq_true rfl) hW hS hw)
    replace hw := hw.2 hq1
    exact hw.elim
  · refine lv_i2l (v := ((x_6).toInt64)) C.1.1 C.1.2.1 dL_addAt_9 rfl ?_
    refine tr_pfN (C0 := RX2) (T := TX2) (N := 2) (ci := 4) (ref := "TwinrowLaw$Out") (host := "TwinrowLaw") (k := 0) (ty := .long) (v := .long (((x_6).toInt64))) (r := v4) C (zh hw_X2) tyX2 tyX2_ok nmX2 rfl (by decide) hcC.1 rfl rfl (by decide +kernel) rfl rfl dL_addAt_10 hW hS hw (fun G_10 H locs hw hW hS => ?_)
    refine lv_goto (tgt := 24) C.1.1 C.1.2.1 dL_addAt_13 (by decide) ?_
    refine lv_iconst (v := (0 : Int32)) C.1.1 C.1.2.1 dL_addAt_24 (by decide) ?_
    exact vx_ret (tr_iret C hr dL_addAt_25 (Nat.le_of_ble_eq_true rfl) (Nat.le_of_ble_eq_true rfl) hW hS hw)
end Z_L_addAt
set_option maxHeartbeats 4000000 in
set_option maxRecDepth 100000 in
theorem c_L_addAt (l : Launch) (hll : l.stackTraces = false) (K : tK) (post : Int32 → tG → Prop) (v0 : Option Nat) (v1 : Int32) (v2 : Int32) (v3 : Int32) (v4 : Option Nat) : Cx l yL_addAt wz_L_addAt ({ frames := 9, cells := 3, slots := 18, locals := 148 } : Room) 3 18 [va_rf v0, .int v1, .int v2, .int v3, va_rf v4] K (retI post) (fun _ _ => False) (fun G => w_L_addAt K post v0 v1 v2 v3 v4 G) := by
  refine tx_ofH (cc := cL_addAt) (maxL := 6) (ret := (some .int)) (own := RL) (hh := [(0, 13, 16, 19), (0, 13, 20, 21)]) (by decide) rfl rfl hll [.inr (.inr v0), .inl v1, .inl v2, .inl v3, .inr (.inr v4)] rfl (Nat.le_of_ble_eq_true rfl) ?_
  intro p e s m args below meth c D A G ls C hr htab hcC hl hW hS hw
  exact s_L_addAt C hr htab hcC hll post v0 v1 v2 v3 v4 _ _ _ _ hW hS hl hw

/-! X3_isBeyond -/
def wz_X3_isBeyond : List Cond := Cond.code yX3_isBeyond cX3_isBeyond 3 (some .boolean) :: w0
section Z_X3_isBeyond
variable {p : Program} {l : Launch} {e : Env} {s : State} {m : MethodId} {args : Array Value} {below : List Frame} {meth : Method} {c : Code} {D : va_G} {A : Nat → Prop}
set_option maxHeartbeats 4000000 in
set_option maxRecDepth 100000 in
theorem s_X3_isBeyond_27 {K : tK} (C : tc_B p l s m args meth c D K A wz_X3_isBeyond RX3 cX3_isBeyond 3) (hr : meth.sig.returnType = (some .boolean)) (hll : l.stackTraces = false)  (post : Int32 → tG → Prop) : ∀ (u0 : Int32) (G : tG) (H : Heap) (locs : List Loc) (ls : Array Slot), tg_W D A s H G → va_S A s.heap H locs → tl ls 3 [] → w_X3_isBeyond_27 K post u0 G → W p l e ({ frames := 2, cells := 0, slots := 0, locals := 43 } : Room) s m args below meth c H locs 0 0 (MQ below (tc_Qc D A (retI post)) args s 0 0 A) (F0 m 27 ls [.int u0]) := by
  intro u0 G H locs ls hW hS hl hw
  unfold w_X3_isBeyond_27 at hw
  exact tr_zret C hr dX3_isBeyond_27 (Nat.le_of_ble_eq_true rfl) (Nat.le_of_ble_eq_true rfl) hW hS hw
set_option maxHeartbeats 4000000 in
set_option maxRecDepth 100000 in
theorem s_X3_isBeyond_26 {K : tK} (C : tc_B p l s m args meth c D K A wz_X3_isBeyond RX3 cX3_isBeyond 3) (hr : meth.sig.returnType = (some .boolean)) (hll : l.stackTraces = false)  (post : Int32 → tG → Prop) : ∀ (G : tG) (H : Heap) (locs : List Loc) (ls : Array Slot), tg_W D A s H G → va_S A s.heap H locs → tl ls 3 [] → w_X3_isBeyond_26 K post G → W p l e ({ frames := 2, cells := 0, slots := 0, locals := 43 } : Room) s m args below meth c H locs 0 0 (MQ below (tc_Qc D A (retI post)) args s 0 0 A) (F0 m 26 ls []) := by
  intro G H locs ls hW hS hl hw
  unfold w_X3_isBeyond_26 at hw
  refine lv_iconst (v := (0 : Int32)) C.1.1 C.1.2.1 dX3_isBeyond_26 (by decide) ?_
  exact s_X3_isBeyond_27 C hr hll post ((0 : Int32)) _ _ _ _ hW hS (tl_sub hl [] rfl) hw
set_option maxHeartbeats 4000000 in
set_option maxRecDepth 100000 in
theorem s_X3_isBeyond {K : tK} (C : tc_B p l s m args meth c D K A wz_X3_isBeyond RX3 cX3_isBeyond 3) (hr : meth.sig.returnType = (some .boolean)) (hll : l.stackTraces = false)  (post : Int32 → tG → Prop) (v0 : Option Nat) (v1 : Int32) (v2 : Int32) : ∀ (G : tG) (H : Heap) (locs : List Loc) (ls : Array Slot), tg_W D A s H G → va_S A s.heap H locs → tl ls 3 [(0, .inr (.inr v0)), (1, .inl v1), (2, .inl v2)] → w_X3_isBeyond K post v0 v1 v2 G → W p l e ({ frames := 2, cells := 0, slots := 0, locals := 43 } : Room) s m args below meth c H locs 0 0 (MQ below (tc_Qc D A (retI post)) args s 0 0 A) (F0 m 0 ls []) := by
  intro G H locs ls hW hS hl hw
  unfold w_X3_isBeyond at hw
  refine tr_aload_n (k := 0) (x := v0) C hl 0 rfl dX3_isBeyond_0 ?_
  refine tr_iload_n (k := 1) (x := v1) C hl 1 rfl dX3_isBeyond_1 ?_
  refine tr_backI (tr_runV (r := v0) (As := [.int v1]) C hl.1 (c_X3_isNoList l hll K _ v0 v1) (cwV 1 C.1.2.2.2.2 (gi_V (zm kw_211) (zm kw_212) (zm kw_213) (zm kw_155) (zm kw_210)) rfl rfl rfl (by decide +kernel) ⟨(Nat.le_of_ble_eq_true rfl), (Nat.le_of_ble_eq_true rfl)⟩) rfl rfl dX3_isBeyond_2 ⟨(Nat.le_of_ble_eq_true rfl), (Nat.le_of_ble_eq_true rfl)⟩ [] rfl (Nat.le_of_ble_eq_true rfl) rfl hW hS hw) hS (fun x_2 G_2 H locs hw hW hS => ?_)
  refine lv_if_ne (tgt := 26) C.1.1 C.1.2.1 dX3_isBeyond_5 (by decide) (fun hc => ?_) (fun hc => ?_)
  · have hw := hw.1 hc
    exact s_X3_isBeyond_26 C hr hll post _ _ _ _ hW hS (tl_sub hl [] rfl) hw
  · have hw := hw.2 hc
    refine tr_iload_n (k := 2) (x := v2) C hl 2 rfl dX3_isBeyond_8 ?_
    refine lv_iconst (v := (0 : Int32)) C.1.1 C.1.2.1 dX3_isBeyond_9 (by decide) ?_
    refine tr_aload_n (k := 0) (x := v0) C hl 0 rfl dX3_isBeyond_10 ?_
    refine tr_gfR (C0 := RX3) (T := TX3) (N := 8) (ci := 5) (ref := "TwinrowModel") (k := 3) (r := v0) C (zh hw_X3) rfl (by decide) (zm kw_24) rfl dX3_isBeyond_11 hW hw (fun x_11 hw => ?_)
    refine tr_iload_n (k := 1) (x := v1) C hl 1 rfl dX3_isBeyond_14 ?_
    refine tr_alI (r := x_11) C dX3_isBeyond_15 hW hw (fun x_15 hw => ?_)
    refine tr_backI (tr_runS (As := [.int v2, .int ((0 : Int32)), .int x_15]) C hl.1 (c_X3_isIn l hll K _ v2 ((0 : Int32)) x_15) (va_cwS 3 C.1.2.2.2.2 (gi_S (zm kw_194) (zm kw_195) (zm kw_155) (zm kw_193)) rfl rfl rfl (by decide +kernel) ⟨(Nat.le_of_ble_eq_true rfl), (Nat.le_of_ble_eq_true rfl)⟩) rfl dX3_isBeyond_16 ⟨(Nat.le_of_ble_eq_true rfl), (Nat.le_of_ble_eq_true rfl)⟩ [] rfl (Nat.le_of_ble_eq_true rfl) rfl hW hS hw) hS (fun x_16 G_16 H locs hw hW hS => ?_)
    refine lv_if_ne (tgt := 26) C.1.1 C.1.2.1 dX3_isBeyond_19 (by decide) (fun hc => ?_) (fun hc => ?_)
    · have hw := hw.1 hc
      exact s_X3_isBeyond_26 C hr hll post _ _ _ _ hW hS (tl_sub hl [] rfl) hw
    · have hw := hw.2 hc
      refine lv_iconst (v := (1 : Int32)) C.1.1 C.1.2.1 dX3_isBeyond_22 (by decide) ?_
      refine lv_goto (tgt := 27) C.1.1 C.1.2.1 dX3_isBeyond_23 (by decide) ?_
      exact s_X3_isBeyond_27 C hr hll post ((1 : Int32)) _ _ _ _ hW hS (tl_sub hl [] rfl) hw
end Z_X3_isBeyond
set_option maxHeartbeats 4000000 in
set_option maxRecDepth 100000 in
theorem c_X3_isBeyond (l : Launch) (hll : l.stackTraces = false) (K : tK) (post : Int32 → tG → Prop) (v0 : Option Nat) (v1 : Int32) (v2 : Int32) : Ct l yX3_isBeyond wz_X3_isBeyond ({ frames := 2, cells := 0, slots := 0, locals := 43 } : Room) 0 0 [va_rf v0, .int v1, .int v2] K (retI post) (fun G => w_X3_isBeyond K post v0 v1 v2 G) := by
  refine tc_of (cc := cX3_isBeyond) (maxL := 3) (ret := (some .boolean)) (own := RX3) (plainFor_of_name (by decide)) rfl rfl hll [.inr (.inr v0), .inl v1, .inl v2] rfl (Nat.le_of_ble_eq_true rfl) ?_
  intro p e s m args below meth c D A G ls C hr hn ht hl hW hS hw
  exact s_X3_isBeyond C hr hll post v0 v1 v2 _ _ _ _ hW hS hl hw

/-! X3_addAt -/
def wz_X3_addAt : List Cond := Cond.code yX3_addAt cX3_addAt 4 (some .int) :: w0
section Z_X3_addAt
variable {p : Program} {l : Launch} {e : Env} {s : State} {m : MethodId} {args : Array Value} {below : List Frame} {meth : Method} {c : Code} {D : va_G} {A : Nat → Prop}
set_option maxHeartbeats 4000000 in
set_option maxRecDepth 100000 in
theorem s_X3_addAt_41 {K : tK} (C : tc_B p l s m args meth c D K A wz_X3_addAt RX3 cX3_addAt 4) (hr : meth.sig.returnType = (some .int)) (hll : l.stackTraces = false)  (post : Int32 → tG → Prop) : ∀ (u0 : Int32) (G : tG) (H : Heap) (locs : List Loc) (ls : Array Slot), tg_W D A s H G → va_S A s.heap H locs → tl ls 4 [] → w_X3_addAt_41 K post u0 G → W p l e ({ frames := 3, cells := 0, slots := 0, locals := 65 } : Room) s m args below meth c H locs 0 0 (MQ below (tc_Qc D A (retI post)) args s 0 0 A) (F0 m 41 ls [.int u0]) := by
  intro u0 G H locs ls hW hS hl hw
  unfold w_X3_addAt_41 at hw
  exact tr_iret C hr dX3_addAt_41 (Nat.le_of_ble_eq_true rfl) (Nat.le_of_ble_eq_true rfl) hW hS hw
set_option maxHeartbeats 4000000 in
set_option maxRecDepth 100000 in
theorem s_X3_addAt_27 {K : tK} (C : tc_B p l s m args meth c D K A wz_X3_addAt RX3 cX3_addAt 4) (hr : meth.sig.returnType = (some .int)) (hll : l.stackTraces = false)  (post : Int32 → tG → Prop) : ∀ (v0 : Option Nat) (u0 : Option Nat) (u1 : Int32) (u2 : Int32) (G : tG) (H : Heap) (locs : List Loc) (ls : Array Slot), tg_W D A s H G → va_S A s.heap H locs → tl ls 4 [(0, .inr (.inr v0))] → w_X3_addAt_27 K post v0 u0 u1 u2 G → W p l e ({ frames := 3, cells := 0, slots := 0, locals := 65 } : Room) s m args below meth c H locs 0 0 (MQ below (tc_Qc D A (retI post)) args s 0 0 A) (F0 m 27 ls [.int u2, .int u1, va_rf u0]) := by
  intro v0 u0 u1 u2 G H locs ls hW hS hl hw
  unfold w_X3_addAt_27 at hw
  refine tr_backI (tr_runV (r := u0) (As := [.int u1, .int u2]) C hl.1 (c_X3_fails l hll K _ u0 u1 u2) (cwV 2 C.1.2.2.2.2 (gi_V (zm kw_190) (zm kw_191) (zm kw_192) (zm kw_155) (zm kw_189)) rfl rfl rfl (by decide +kernel) ⟨(Nat.le_of_ble_eq_true rfl), (Nat.le_of_ble_eq_true rfl)⟩) rfl rfl dX3_addAt_27 ⟨(Nat.le_of_ble_eq_true rfl), (Nat.le_of_ble_eq_true rfl)⟩ [] rfl (Nat.le_of_ble_eq_true rfl) rfl hW hS hw) hS (fun x_27 G_27 H locs hw hW hS => ?_)
  refine lv_if_eq (tgt := 37) C.1.1 C.1.2.1 dX3_addAt_30 (by decide) (fun hc => ?_) (fun hc => ?_)
  · have hw := hw.1 hc
    refine tr_aload_n (k := 0) (x := v0) C hl 0 rfl dX3_addAt_37 ?_
    refine tr_backI (tr_runV (r := v0) (As := []) C hl.1 (c_X3_refused l hll K _ v0) (cwV 0 C.1.2.2.2.2 (gi_V (zm kw_215) (zm kw_216) (zm kw_217) (zm kw_155) (zm kw_214)) rfl rfl rfl (by decide +kernel) ⟨(Nat.le_of_ble_eq_true rfl), (Nat.le_of_ble_eq_true rfl)⟩) rfl rfl dX3_addAt_38 ⟨(Nat.le_of_ble_eq_true rfl), (Nat.le_of_ble_eq_true rfl)⟩ [] rfl (Nat.le_of_ble_eq_true rfl) rfl hW hS hw) hS (fun x_38 G_38 H locs hw hW hS => ?_)
    exact s_X3_addAt_41 C hr hll post x_38 _ _ _ _ hW hS (tl_sub hl [] rfl) hw
  · have hw := hw.2 hc
    refine lv_iconst (v := (0 : Int32)) C.1.1 C.1.2.1 dX3_addAt_33 (by decide) ?_
    refine lv_goto (tgt := 41) C.1.1 C.1.2.1 dX3_addAt_34 (by decide) ?_
    exact s_X3_addAt_41 C hr hll post ((0 : Int32)) _ _ _ _ hW hS (tl_sub hl [] rfl) hw
set_option maxHeartbeats 4000000 in
set_option maxRecDepth 100000 in
theorem s_X3_addAt_22 {K : tK} (C : tc_B p l s m args meth c D K A wz_X3_addAt RX3 cX3_addAt 4) (hr : meth.sig.returnType = (some .int)) (hll : l.stackTraces = false)  (post : Int32 → tG → Prop) : ∀ (v0 : Option Nat) (u0 : Option Nat) (u1 : Int32) (G : tG) (H : Heap) (locs : List Loc) (ls : Array Slot), tg_W D A s H G → va_S A s.heap H locs → tl ls 4 [(0, .inr (.inr v0))] → w_X3_addAt_22 K post v0 u0 u1 G → W p l e ({ frames := 3, cells := 0, slots := 0, locals := 65 } : Room) s m args below meth c H locs 0 0 (MQ below (tc_Qc D A (retI post)) args s 0 0 A) (F0 m 22 ls [.int u1, va_rf u0]) := by
  intro v0 u0 u1 G H locs ls hW hS hl hw
  unfold w_X3_addAt_22 at hw
  refine lv_iconst (v := (1 : Int32)) C.1.1 C.1.2.1 dX3_addAt_22 (by decide) ?_
  refine lv_goto (tgt := 27) C.1.1 C.1.2.1 dX3_addAt_23 (by decide) ?_
  exact s_X3_addAt_27 C hr hll post v0 u0 u1 ((1 : Int32)) _ _ _ _ hW hS (tl_sub hl [0] rfl) hw
set_option maxHeartbeats 4000000 in
set_option maxRecDepth 100000 in
theorem s_X3_addAt {K : tK} (C : tc_B p l s m args meth c D K A wz_X3_addAt RX3 cX3_addAt 4) (hr : meth.sig.returnType = (some .int)) (hll : l.stackTraces = false)  (post : Int32 → tG → Prop) (v0 : Option Nat) (v1 : Int32) (v2 : Int32) (v3 : Int32) : ∀ (G : tG) (H : Heap) (locs : List Loc) (ls : Array Slot), tg_W D A s H G → va_S A s.heap H locs → tl ls 4 [(0, .inr (.inr v0)), (1, .inl v1), (2, .inl v2), (3, .inl v3)] → w_X3_addAt K post v0 v1 v2 v3 G → W p l e ({ frames := 3, cells := 0, slots := 0, locals := 65 } : Room) s m args below meth c H locs 0 0 (MQ below (tc_Qc D A (retI post)) args s 0 0 A) (F0 m 0 ls []) := by
  intro G H locs ls hW hS hl hw
  unfold w_X3_addAt at hw
  refine tr_aload_n (k := 0) (x := v0) C hl 0 rfl dX3_addAt_0 ?_
  refine tr_aload_n (k := 0) (x := v0) C hl 0 rfl dX3_addAt_1 ?_
  refine tr_iload_n (k := 1) (x := v1) C hl 1 rfl dX3_addAt_2 ?_
  refine tr_backI (tr_runV (r := v0) (As := [.int v1]) C hl.1 (c_X3_isNoList l hll K _ v0 v1) (cwV 1 C.1.2.2.2.2 (gi_V (zm kw_211) (zm kw_212) (zm kw_213) (zm kw_155) (zm kw_210)) rfl rfl rfl (by decide +kernel) ⟨(Nat.le_of_ble_eq_true rfl), (Nat.le_of_ble_eq_true rfl)⟩) rfl rfl dX3_addAt_3 ⟨(Nat.le_of_ble_eq_true rfl), (Nat.le_of_ble_eq_true rfl)⟩ [.inr (.inr v0)] rfl (Nat.le_of_ble_eq_true rfl) rfl hW hS hw) hS (fun x_3 G_3 H locs hw hW hS => ?_)
  refine tr_aload_n (k := 0) (x := v0) C hl 0 rfl dX3_addAt_6 ?_
  refine tr_iload_n (k := 1) (x := v1) C hl 1 rfl dX3_addAt_7 ?_
  refine tr_iload_n (k := 2) (x := v2) C hl 2 rfl dX3_addAt_8 ?_
  refine tr_backI (tr_runV (r := v0) (As := [.int v1, .int v2]) C hl.1 (c_X3_isBeyond l hll K _ v0 v1 v2) (cwV 2 C.1.2.2.2.2 (gi_V (zm kw_291) (zm kw_292) (zm kw_293) (zm kw_155) (zm kw_290)) rfl rfl rfl (by decide +kernel) ⟨(Nat.le_of_ble_eq_true rfl), (Nat.le_of_ble_eq_true rfl)⟩) rfl rfl dX3_addAt_9 ⟨(Nat.le_of_ble_eq_true rfl), (Nat.le_of_ble_eq_true rfl)⟩ [.inl x_3, .inr (.inr v0)] rfl (Nat.le_of_ble_eq_true rfl) rfl hW hS hw) hS (fun x_9 G_9 H locs hw hW hS => ?_)
  refine lv_if_ne (tgt := 22) C.1.1 C.1.2.1 dX3_addAt_12 (by decide) (fun hc => ?_) (fun hc => ?_)
  · have hw := hw.1 hc
    exact s_X3_addAt_22 C hr hll post v0 v0 x_3 _ _ _ _ hW hS (tl_sub hl [0] rfl) hw
  · have hw := hw.2 hc
    refine tr_iload_n (k := 3) (x := v3) C hl 3 rfl dX3_addAt_15 ?_
    refine tr_backI (tr_runS (As := [.int v3]) C hl.1 (c_X3_isNoValue l hll K _ v3) (va_cwS 1 C.1.2.2.2.2 (gi_S (zm kw_276) (zm kw_277) (zm kw_155) (zm kw_275)) rfl rfl rfl (by decide +kernel) ⟨(Nat.le_of_ble_eq_true rfl), (Nat.le_of_ble_eq_true rfl)⟩) rfl dX3_addAt_16 ⟨(Nat.le_of_ble_eq_true rfl), (Nat.le_of_ble_eq_true rfl)⟩ [.inl x_3, .inr (.inr v0)] rfl (Nat.le_of_ble_eq_true rfl) rfl hW hS hw) hS (fun x_16 G_16 H locs hw hW hS => ?_)
    refine lv_if_eq (tgt := 26) C.1.1 C.1.2.1 dX3_addAt_19 (by decide) (fun hc => ?_) (fun hc => ?_)
    · have hw := hw.1 hc
      refine lv_iconst (v := (0 : Int32)) C.1.1 C.1.2.1 dX3_addAt_26 (by decide) ?_
      exact s_X3_addAt_27 C hr hll post v0 v0 x_3 ((0 : Int32)) _ _ _ _ hW hS (tl_sub hl [0] rfl) hw
    · have hw := hw.2 hc
      exact s_X3_addAt_22 C hr hll post v0 v0 x_3 _ _ _ _ hW hS (tl_sub hl [0] rfl) hw
end Z_X3_addAt
set_option maxHeartbeats 4000000 in
set_option maxRecDepth 100000 in
theorem c_X3_addAt (l : Launch) (hll : l.stackTraces = false) (K : tK) (post : Int32 → tG → Prop) (v0 : Option Nat) (v1 : Int32) (v2 : Int32) (v3 : Int32) : Ct l yX3_addAt wz_X3_addAt ({ frames := 3, cells := 0, slots := 0, locals := 65 } : Room) 0 0 [va_rf v0, .int v1, .int v2, .int v3] K (retI post) (fun G => w_X3_addAt K post v0 v1 v2 v3 G) := by
  refine tc_of (cc := cX3_addAt) (maxL := 4) (ret := (some .int)) (own := RX3) (plainFor_of_name (by decide)) rfl rfl hll [.inr (.inr v0), .inl v1, .inl v2, .inl v3] rfl (Nat.le_of_ble_eq_true rfl) ?_
  intro p e s m args below meth c D A G ls C hr hn ht hl hW hS hw
  exact s_X3_addAt C hr hll post v0 v1 v2 v3 _ _ _ _ hW hS hl hw

/-! X1_add -/
def wz_X1_add : List Cond := Cond.code yX1_add cX1_add 3 (some .int) :: w0
section Z_X1_add
variable {p : Program} {l : Launch} {e : Env} {s : State} {m : MethodId} {args : Array Value} {below : List Frame} {meth : Method} {c : Code} {D : va_G} {A : Nat → Prop}
set_option maxHeartbeats 4000000 in
set_option maxRecDepth 100000 in
theorem s_X1_add {K : tK} (C : tc_B p l s m args meth c D K A wz_X1_add RX1 cX1_add 3) (hr : meth.sig.returnType = (some .int)) (ht : ∀ x ∈ c.exceptionTable.toList, False) (hll : l.stackTraces = false)  (post : Int32 → tG → Prop) (postX : String → tG → Prop) (v0 : Option Nat) (v1 : Int32) (v2 : Int32) : ∀ (G : tG) (H : Heap) (locs : List Loc) (ls : Array Slot), tg_W D A s H G → va_S A s.heap H locs → tl ls 3 [(0, .inr (.inr v0)), (1, .inl v1), (2, .inl v2)] → w_X1_add K post postX v0 v1 v2 G → W p l e ({ frames := 8, cells := 2, slots := 12, locals := 124 } : Room) s m args below meth c H locs 0 0 (vx_MQ below (tc_Qc D A (retI post)) (tc_XC D A postX) args s 2 12 A) (F0 m 0 ls []) := by
  intro G H locs ls hW hS hl hw
  unfold w_X1_add at hw
  refine tr_aload_n (k := 0) (x := v0) C hl 0 rfl dX1_add_0 ?_
  refine tr_iload_n (k := 1) (x := v1) C hl 1 rfl dX1_add_1 ?_
  refine tx_backR (tx_runV (r := v0) (As := [.int v1]) C hl.1 (c_X1_listAt l hll K _ _ v0 v1) (cwV 1 C.1.2.2.2.2 (gi_V (zm kw_94) (zm kw_95) (zm kw_96) (zm kw_33) (zm kw_93)) rfl rfl rfl (by decide +kernel) ⟨(Nat.le_of_ble_eq_true rfl), (Nat.le_of_ble_eq_true rfl)⟩) rfl rfl dX1_add_2 ⟨(Nat.le_of_ble_eq_true rfl), (Nat.le_of_ble_eq_true rfl)⟩ [] rfl (Nat.le_of_ble_eq_true rfl) rfl hW hS hw) hS C.2.1 ht (Nat.le_of_ble_eq_true rfl) (Nat.le_of_ble_eq_true rfl) (fun x_2 G_2 H locs hw hW hS => ?_)
  refine lv_pop C.1.1 C.1.2.1 dX1_add_5 (va_rf_cat _) ?_
  refine tr_iload_n (k := 2) (x := v2) C hl 2 rfl dX1_add_6 ?_
  refine tx_backV (tx_runS (As := [.int v2]) C hl.1 (c_X1_checkValue l hll K _ _ v2) (va_cwS 1 C.1.2.2.2.2 (gi_S (zm kw_269) (zm kw_270) (zm kw_33) (zm kw_268)) rfl rfl rfl (by decide +kernel) ⟨(Nat.le_of_ble_eq_true rfl), (Nat.le_of_ble_eq_true rfl)⟩) rfl dX1_add_7 ⟨(Nat.le_of_ble_eq_true rfl), (Nat.le_of_ble_eq_true rfl)⟩ [] rfl (Nat.le_of_ble_eq_true rfl) rfl hW hS hw) hS C.2.1 ht (Nat.le_of_ble_eq_true rfl) (Nat.le_of_ble_eq_true rfl) (fun G_7 H locs hw hW hS => ?_)
  refine tr_aload_n (k := 0) (x := v0) C hl 0 rfl dX1_add_10 ?_
  refine lv_iconst (v := (1 : Int32)) C.1.1 C.1.2.1 dX1_add_11 (by decide) ?_
  refine tr_backI (tr_runV (r := v0) (As := [.int ((1 : Int32))]) C hl.1 (c_X1_refuseIf l hll K _ v0 ((1 : Int32))) (cwV 1 C.1.2.2.2.2 (gi_V (zm kw_202) (zm kw_203) (zm kw_204) (zm kw_33) (zm kw_201)) rfl rfl rfl (by decide +kernel) ⟨(Nat.le_of_ble_eq_true rfl), (Nat.le_of_ble_eq_true rfl)⟩) rfl rfl dX1_add_12 ⟨(Nat.le_of_ble_eq_true rfl), (Nat.le_of_ble_eq_true rfl)⟩ [] rfl (Nat.le_of_ble_eq_true rfl) rfl hW hS hw) hS (fun x_12 G_12 H locs hw hW hS => ?_)
  exact vx_ret (tr_iret C hr dX1_add_15 (Nat.le_of_ble_eq_true rfl) (Nat.le_of_ble_eq_true rfl) hW hS hw)
end Z_X1_add
set_option maxHeartbeats 4000000 in
set_option maxRecDepth 100000 in
theorem c_X1_add (l : Launch) (hll : l.stackTraces = false) (K : tK) (post : Int32 → tG → Prop) (postX : String → tG → Prop) (v0 : Option Nat) (v1 : Int32) (v2 : Int32) : Cx l yX1_add wz_X1_add ({ frames := 8, cells := 2, slots := 12, locals := 124 } : Room) 2 12 [va_rf v0, .int v1, .int v2] K (retI post) postX (fun G => w_X1_add K post postX v0 v1 v2 G) := by
  refine tx_of (cc := cX1_add) (maxL := 3) (ret := (some .int)) (own := RX1) (by decide) rfl rfl hll [.inr (.inr v0), .inl v1, .inl v2] rfl (Nat.le_of_ble_eq_true rfl) ?_
  intro p e s m args below meth c D A G ls C hr hn ht hl hW hS hw
  exact s_X1_add C hr ht hll post postX v0 v1 v2 _ _ _ _ hW hS hl hw

/-! L_add -/
def wz_L_add : List Cond := Cond.codeWith yL_add cL_add 5 (some .int) [(0, 11, 14, 19), (0, 11, 18, 21)] :: w0
section Z_L_add
variable {p : Program} {l : Launch} {e : Env} {s : State} {m : MethodId} {args : Array Value} {below : List Frame} {meth : Method} {c : Code} {D : va_G} {A : Nat → Prop}
set_option maxHeartbeats 4000000 in
set_option maxRecDepth 100000 in
theorem s_L_add {K : tK} (C : tc_B p l s m args meth c D K A wz_L_add RL cL_add 5) (hr : meth.sig.returnType = (some .int)) (htab : c.exceptionTable.toList = tableOf [(0, 11, 14, 19), (0, 11, 18, 21)]) (hcC : kx_C s) (hll : l.stackTraces = false)  (post : Int32 → tG → Prop) (v0 : Option Nat) (v1 : Int32) (v2 : Int32) (v3 : Option Nat) : ∀ (G : tG) (H : Heap) (locs : List Loc) (ls : Array Slot), tg_W D A s H G → va_S A s.heap H locs → tl ls 5 [(0, .inr (.inr v0)), (1, .inl v1), (2, .inl v2), (3, .inr (.inr v3))] → w_L_add K post v0 v1 v2 v3 G → W p l e ({ frames := 9, cells := 2, slots := 12, locals := 146 } : Room) s m args below meth c H locs 0 0 (vx_MQ below (tc_Qc D A (retI post)) (tc_XC D A (fun _ _ => False)) args s 2 12 A) (F0 m 0 ls []) := by
  intro G H locs ls hW hS hl hw
  unfold w_L_add at hw
  refine tr_aload_n (k := 3) (x := v3) C hl 3 rfl dL_add_0 ?_
  refine tr_aload_n (k := 0) (x := v0) C hl 0 rfl dL_add_1 ?_
  refine tr_iload_n (k := 1) (x := v1) C hl 1 rfl dL_add_2 ?_
  refine tr_iload_n (k := 2) (x := v2) C hl 2 rfl dL_add_3 ?_
  refine tx_backCI (tx_runV (r := v0) (As := [.int v1, .int v2]) C hl.1 (c_X1_add l hll K _ _ v0 v1 v2) (cwV 2 C.1.2.2.2.2 (gi_V (zm kw_295) (zm kw_296) (zm kw_297) (zm kw_33) (zm kw_294)) rfl rfl rfl (by decide +kernel) ⟨(Nat.le_of_ble_eq_true rfl), (Nat.le_of_ble_eq_true rfl)⟩) rfl rfl dL_add_4 ⟨(Nat.le_of_ble_eq_true rfl), (Nat.le_of_ble_eq_true rfl)⟩ [.inr (.inr v3)] rfl (Nat.le_of_ble_eq_true rfl) rfl hW hS hw) hS (fun E ce q9 GX H locs hw hW hS hce hcv hcl => ?_) (fun x_4 G_4 H locs hw hW hS => ?_)
  · by_cases hq0 : E = "java/lang/IndexOutOfBoundsException"
    · replace hw := hw.1 hq0
      subst hq0
      refine vx_catch (name := "java/lang/IndexOutOfBoundsException") C.1.2.2.2.1 [] (⟨0, 11, 14, 19⟩ : ExceptionTableEntry) [(⟨0, 11, 18, 21⟩ : ExceptionTableEntry)] (by rw [htab]; rfl) (fun z hz => nomatch hz) (by decide) (by decide) (C.1.2.2.2.2 _ (zm kw_209)) hcC.2.2.1 hce hcv hcl ?_
      refine tr_astore (x := (some q9)) C hl [(4, .inr (.inr (some q9))), (0, .inr (.inr v0)), (1, .inl v1), (2, .inl v2), (3, .inr (.inr v3))] (by decide) rfl dL_add_14 (fun ls hl => ?_)
      refine lv_iconst (v := (1 : Int32)) C.1.1 C.1.2.1 dL_add_16 (by decide) ?_
      exact vx_ret (tr_iret C hr dL_add_17 (Nat.le_of_ble_eq_true rfl) (Nat.le_of_ble_eq_true rfl) hW hS hw)
    replace hw := hw.2 hq0
    by_cases hq1 : E = "java/lang/IllegalArgumentException"
    · replace hw := hw.1 hq1
      subst hq1
      refine vx_catch (name := "java/lang/IllegalArgumentException") C.1.2.2.2.1 [(⟨0, 11, 14, 19⟩ : ExceptionTableEntry)] (⟨0, 11, 18, 21⟩ : ExceptionTableEntry) [] (by rw [htab]; rfl) (kx_pass1 C hcC rfl (by decide) (zm kw_209)) (by decide) (by decide) (C.1.2.2.2.2 _ (zm kw_188)) hcC.2.2.2.1 hce hcv hcl ?_
      refine tr_astore (x := (some q9)) C hl [(4, .inr (.inr (some q9))), (0, .inr (.inr v0)), (1, .inl v1), (2, .inl v2), (3, .inr (.inr v3))] (by decide) rfl dL_add_18 (fun ls hl => ?_)
      refine lv_iconst (v := (2 : Int32)) C.1.1 C.1.2.1 dL_add_20 (by decide) ?_
      exact vx_ret (tr_iret C hr dL_add_21 (Nat.le_of_ble_eq_true rfl) (Nat.le_of_ble_eq_true rfl) hW hS hw)
    replace hw := hw.2 hq1
    exact hw.elim
  · refine lv_i2l (v := ((x_4).toInt64)) C.1.1 C.1.2.1 dL_add_7 rfl ?_
    refine tr_pfN (C0 := RX2) (T := TX2) (N := 2) (ci := 4) (ref := "TwinrowLaw$Out") (host := "TwinrowLaw") (k := 0) (ty := .long) (v := .long (((x_4).toInt64))) (r := v3) C (zh hw_X2) tyX2 tyX2_ok nmX2 rfl (by decide) hcC.1 rfl rfl (by decide +kernel) rfl rfl dL_add_8 hW hS hw (fun G_8 H locs hw hW hS => ?_)
    refine lv_goto (tgt := 22) C.1.1 C.1.2.1 dL_add_11 (by decide) ?_
    refine lv_iconst (v := (0 : Int32)) C.1.1 C.1.2.1 dL_add_22 (by decide) ?_
    exact vx_ret (tr_iret C hr dL_add_23 (Nat.le_of_ble_eq_true rfl) (Nat.le_of_ble_eq_true rfl) hW hS hw)
end Z_L_add
set_option maxHeartbeats 4000000 in
set_option maxRecDepth 100000 in
theorem c_L_add (l : Launch) (hll : l.stackTraces = false) (K : tK) (post : Int32 → tG → Prop) (v0 : Option Nat) (v1 : Int32) (v2 : Int32) (v3 : Option Nat) : Cx l yL_add wz_L_add ({ frames := 9, cells := 2, slots := 12, locals := 146 } : Room) 2 12 [va_rf v0, .int v1, .int v2, va_rf v3] K (retI post) (fun _ _ => False) (fun G => w_L_add K post v0 v1 v2 v3 G) := by
  refine tx_ofH (cc := cL_add) (maxL := 5) (ret := (some .int)) (own := RL) (hh := [(0, 11, 14, 19), (0, 11, 18, 21)]) (by decide) rfl rfl hll [.inr (.inr v0), .inl v1, .inl v2, .inr (.inr v3)] rfl (Nat.le_of_ble_eq_true rfl) ?_
  intro p e s m args below meth c D A G ls C hr htab hcC hl hW hS hw
  exact s_L_add C hr htab hcC hll post v0 v1 v2 v3 _ _ _ _ hW hS hl hw

/-! X3_add -/
def wz_X3_add : List Cond := Cond.code yX3_add cX3_add 3 (some .int) :: w0
section Z_X3_add
variable {p : Program} {l : Launch} {e : Env} {s : State} {m : MethodId} {args : Array Value} {below : List Frame} {meth : Method} {c : Code} {D : va_G} {A : Nat → Prop}
set_option maxHeartbeats 4000000 in
set_option maxRecDepth 100000 in
theorem s_X3_add_24 {K : tK} (C : tc_B p l s m args meth c D K A wz_X3_add RX3 cX3_add 3) (hr : meth.sig.returnType = (some .int)) (hll : l.stackTraces = false)  (post : Int32 → tG → Prop) : ∀ (u0 : Int32) (G : tG) (H : Heap) (locs : List Loc) (ls : Array Slot), tg_W D A s H G → va_S A s.heap H locs → tl ls 3 [] → w_X3_add_24 K post u0 G → W p l e ({ frames := 2, cells := 0, slots := 0, locals := 43 } : Room) s m args below meth c H locs 0 0 (MQ below (tc_Qc D A (retI post)) args s 0 0 A) (F0 m 24 ls [.int u0]) := by
  intro u0 G H locs ls hW hS hl hw
  unfold w_X3_add_24 at hw
  exact tr_iret C hr dX3_add_24 (Nat.le_of_ble_eq_true rfl) (Nat.le_of_ble_eq_true rfl) hW hS hw
set_option maxHeartbeats 4000000 in
set_option maxRecDepth 100000 in
theorem s_X3_add {K : tK} (C : tc_B p l s m args meth c D K A wz_X3_add RX3 cX3_add 3) (hr : meth.sig.returnType = (some .int)) (hll : l.stackTraces = false)  (post : Int32 → tG → Prop) (v0 : Option Nat) (v1 : Int32) (v2 : Int32) : ∀ (G : tG) (H : Heap) (locs : List Loc) (ls : Array Slot), tg_W D A s H G → va_S A s.heap H locs → tl ls 3 [(0, .inr (.inr v0)), (1, .inl v1), (2, .inl v2)] → w_X3_add K post v0 v1 v2 G → W p l e ({ frames := 2, cells := 0, slots := 0, locals := 43 } : Room) s m args below meth c H locs 0 0 (MQ below (tc_Qc D A (retI post)) args s 0 0 A) (F0 m 0 ls []) := by
  intro G H locs ls hW hS hl hw
  unfold w_X3_add at hw
  refine tr_aload_n (k := 0) (x := v0) C hl 0 rfl dX3_add_0 ?_
  refine tr_aload_n (k := 0) (x := v0) C hl 0 rfl dX3_add_1 ?_
  refine tr_iload_n (k := 1) (x := v1) C hl 1 rfl dX3_add_2 ?_
  refine tr_backI (tr_runV (r := v0) (As := [.int v1]) C hl.1 (c_X3_isNoList l hll K _ v0 v1) (cwV 1 C.1.2.2.2.2 (gi_V (zm kw_211) (zm kw_212) (zm kw_213) (zm kw_155) (zm kw_210)) rfl rfl rfl (by decide +kernel) ⟨(Nat.le_of_ble_eq_true rfl), (Nat.le_of_ble_eq_true rfl)⟩) rfl rfl dX3_add_3 ⟨(Nat.le_of_ble_eq_true rfl), (Nat.le_of_ble_eq_true rfl)⟩ [.inr (.inr v0)] rfl (Nat.le_of_ble_eq_true rfl) rfl hW hS hw) hS (fun x_3 G_3 H locs hw hW hS => ?_)
  refine tr_iload_n (k := 2) (x := v2) C hl 2 rfl dX3_add_6 ?_
  refine tr_backI (tr_runS (As := [.int v2]) C hl.1 (c_X3_isNoValue l hll K _ v2) (va_cwS 1 C.1.2.2.2.2 (gi_S (zm kw_276) (zm kw_277) (zm kw_155) (zm kw_275)) rfl rfl rfl (by decide +kernel) ⟨(Nat.le_of_ble_eq_true rfl), (Nat.le_of_ble_eq_true rfl)⟩) rfl dX3_add_7 ⟨(Nat.le_of_ble_eq_true rfl), (Nat.le_of_ble_eq_true rfl)⟩ [.inl x_3, .inr (.inr v0)] rfl (Nat.le_of_ble_eq_true rfl) rfl hW hS hw) hS (fun x_7 G_7 H locs hw hW hS => ?_)
  refine tr_backI (tr_runV (r := v0) (As := [.int x_3, .int x_7]) C hl.1 (c_X3_fails l hll K _ v0 x_3 x_7) (cwV 2 C.1.2.2.2.2 (gi_V (zm kw_190) (zm kw_191) (zm kw_192) (zm kw_155) (zm kw_189)) rfl rfl rfl (by decide +kernel) ⟨(Nat.le_of_ble_eq_true rfl), (Nat.le_of_ble_eq_true rfl)⟩) rfl rfl dX3_add_10 ⟨(Nat.le_of_ble_eq_true rfl), (Nat.le_of_ble_eq_true rfl)⟩ [] rfl (Nat.le_of_ble_eq_true rfl) rfl hW hS hw) hS (fun x_10 G_10 H locs hw hW hS => ?_)
  refine lv_if_eq (tgt := 20) C.1.1 C.1.2.1 dX3_add_13 (by decide) (fun hc => ?_) (fun hc => ?_)
  · have hw := hw.1 hc
    refine tr_aload_n (k := 0) (x := v0) C hl 0 rfl dX3_add_20 ?_
    refine tr_backI (tr_runV (r := v0) (As := []) C hl.1 (c_X3_refused l hll K _ v0) (cwV 0 C.1.2.2.2.2 (gi_V (zm kw_215) (zm kw_216) (zm kw_217) (zm kw_155) (zm kw_214)) rfl rfl rfl (by decide +kernel) ⟨(Nat.le_of_ble_eq_true rfl), (Nat.le_of_ble_eq_true rfl)⟩) rfl rfl dX3_add_21 ⟨(Nat.le_of_ble_eq_true rfl), (Nat.le_of_ble_eq_true rfl)⟩ [] rfl (Nat.le_of_ble_eq_true rfl) rfl hW hS hw) hS (fun x_21 G_21 H locs hw hW hS => ?_)
    exact s_X3_add_24 C hr hll post x_21 _ _ _ _ hW hS (tl_sub hl [] rfl) hw
  · have hw := hw.2 hc
    refine lv_iconst (v := (0 : Int32)) C.1.1 C.1.2.1 dX3_add_16 (by decide) ?_
    refine lv_goto (tgt := 24) C.1.1 C.1.2.1 dX3_add_17 (by decide) ?_
    exact s_X3_add_24 C hr hll post ((0 : Int32)) _ _ _ _ hW hS (tl_sub hl [] rfl) hw
end Z_X3_add
set_option maxHeartbeats 4000000 in
set_option maxRecDepth 100000 in
theorem c_X3_add (l : Launch) (hll : l.stackTraces = false) (K : tK) (post : Int32 → tG → Prop) (v0 : Option Nat) (v1 : Int32) (v2 : Int32) : Ct l yX3_add wz_X3_add ({ frames := 2, cells := 0, slots := 0, locals := 43 } : Room) 0 0 [va_rf v0, .int v1, .int v2] K (retI post) (fun G => w_X3_add K post v0 v1 v2 G) := by
  refine tc_of (cc := cX3_add) (maxL := 3) (ret := (some .int)) (own := RX3) (plainFor_of_name (by decide)) rfl rfl hll [.inr (.inr v0), .inl v1, .inl v2] rfl (Nat.le_of_ble_eq_true rfl) ?_
  intro p e s m args below meth c D A G ls C hr hn ht hl hW hS hw
  exact s_X3_add C hr hll post v0 v1 v2 _ _ _ _ hW hS hl hw

/-! X0_exchange -/
def wz_X0_exchange : List Cond := Cond.code yX0_exchange cX0_exchange 3 none :: w0
section Z_X0_exchange
variable {p : Program} {l : Launch} {e : Env} {s : State} {m : MethodId} {args : Array Value} {below : List Frame} {meth : Method} {c : Code} {D : va_G} {A : Nat → Prop}
set_option maxHeartbeats 4000000 in
set_option maxRecDepth 100000 in
theorem s_X0_exchange {K : tK} (C : tc_B p l s m args meth c D K A wz_X0_exchange RX0 cX0_exchange 3) (hr : meth.sig.returnType = none) (hll : l.stackTraces = false)  (post : tG → Prop) (v0 : Option Nat) (v1 : Int32) (v2 : Int32) : ∀ (G : tG) (H : Heap) (locs : List Loc) (ls : Array Slot), tg_W D A s H G → va_S A s.heap H locs → tl ls 3 [(0, .inr (.inr v0)), (1, .inl v1), (2, .inl v2)] → w_X0_exchange K post v0 v1 v2 G → W p l e ({ frames := 2, cells := 0, slots := 0, locals := 46 } : Room) s m args below meth c H locs 0 0 (MQ below (tc_Qc D A (retV post)) args s 0 0 A) (F0 m 0 ls []) := by
  intro G H locs ls hW hS hl hw
  unfold w_X0_exchange at hw
  refine tr_aload_n (k := 0) (x := v0) C hl 0 rfl dX0_exchange_0 ?_
  refine tr_iload_n (k := 2) (x := v2) C hl 2 rfl dX0_exchange_1 ?_
  refine tr_aload_n (k := 0) (x := v0) C hl 0 rfl dX0_exchange_2 ?_
  refine tr_iload_n (k := 1) (x := v1) C hl 1 rfl dX0_exchange_3 ?_
  refine tr_aload_n (k := 0) (x := v0) C hl 0 rfl dX0_exchange_4 ?_
  refine tr_iload_n (k := 2) (x := v2) C hl 2 rfl dX0_exchange_5 ?_
  refine tr_backI (tr_runV (r := v0) (As := [.int v2]) C hl.1 (c_X0_read l hll K _ v0 v2) (cwV 1 C.1.2.2.2.2 (gi_V (zm kw_42) (zm kw_28) (zm kw_29) (zm kw_10) (zm kw_26)) rfl rfl rfl (by decide +kernel) ⟨(Nat.le_of_ble_eq_true rfl), (Nat.le_of_ble_eq_true rfl)⟩) rfl rfl dX0_exchange_6 ⟨(Nat.le_of_ble_eq_true rfl), (Nat.le_of_ble_eq_true rfl)⟩ [.inl v1, .inr (.inr v0), .inl v2, .inr (.inr v0)] rfl (Nat.le_of_ble_eq_true rfl) rfl hW hS hw) hS (fun x_6 G_6 H locs hw hW hS => ?_)
  refine tr_backI (tr_runV (r := v0) (As := [.int v1, .int x_6]) C hl.1 (c_X0_write l hll K _ v0 v1 x_6) (cwV 2 C.1.2.2.2.2 (gi_V (zm kw_298) (zm kw_48) (zm kw_49) (zm kw_10) (zm kw_46)) rfl rfl rfl (by decide +kernel) ⟨(Nat.le_of_ble_eq_true rfl), (Nat.le_of_ble_eq_true rfl)⟩) rfl rfl dX0_exchange_9 ⟨(Nat.le_of_ble_eq_true rfl), (Nat.le_of_ble_eq_true rfl)⟩ [.inl v2, .inr (.inr v0)] rfl (Nat.le_of_ble_eq_true rfl) rfl hW hS hw) hS (fun x_9 G_9 H locs hw hW hS => ?_)
  refine tr_backI (tr_runV (r := v0) (As := [.int v2, .int x_9]) C hl.1 (c_X0_write l hll K _ v0 v2 x_9) (cwV 2 C.1.2.2.2.2 (gi_V (zm kw_298) (zm kw_48) (zm kw_49) (zm kw_10) (zm kw_46)) rfl rfl rfl (by decide +kernel) ⟨(Nat.le_of_ble_eq_true rfl), (Nat.le_of_ble_eq_true rfl)⟩) rfl rfl dX0_exchange_12 ⟨(Nat.le_of_ble_eq_true rfl), (Nat.le_of_ble_eq_true rfl)⟩ [] rfl (Nat.le_of_ble_eq_true rfl) rfl hW hS hw) hS (fun x_12 G_12 H locs hw hW hS => ?_)
  refine lv_pop C.1.1 C.1.2.1 dX0_exchange_15 rfl ?_
  exact tr_vret C hr dX0_exchange_16 (Nat.le_of_ble_eq_true rfl) (Nat.le_of_ble_eq_true rfl) hW hS hw
end Z_X0_exchange
set_option maxHeartbeats 4000000 in
set_option maxRecDepth 100000 in
theorem c_X0_exchange (l : Launch) (hll : l.stackTraces = false) (K : tK) (post : tG → Prop) (v0 : Option Nat) (v1 : Int32) (v2 : Int32) : Ct l yX0_exchange wz_X0_exchange ({ frames := 2, cells := 0, slots := 0, locals := 46 } : Room) 0 0 [va_rf v0, .int v1, .int v2] K (retV post) (fun G => w_X0_exchange K post v0 v1 v2 G) := by
  refine tc_of (cc := cX0_exchange) (maxL := 3) (ret := none) (own := RX0) (plainFor_of_name (by decide)) rfl rfl hll [.inr (.inr v0), .inl v1, .inl v2] rfl (Nat.le_of_ble_eq_true rfl) ?_
  intro p e s m args below meth c D A G ls C hr hn ht hl hW hS hw
  exact s_X0_exchange C hr hll post v0 v1 v2 _ _ _ _ hW hS hl hw

/-! X1_swap -/
def wz_X1_swap : List Cond := Cond.code yX1_swap cX1_swap 6 (some .int) :: w0
section Z_X1_swap
variable {p : Program} {l : Launch} {e : Env} {s : State} {m : MethodId} {args : Array Value} {below : List Frame} {meth : Method} {c : Code} {D : va_G} {A : Nat → Prop}
set_option maxHeartbeats 4000000 in
set_option maxRecDepth 100000 in
theorem s_X1_swap_39 {K : tK} (C : tc_B p l s m args meth c D K A wz_X1_swap RX1 cX1_swap 6) (hr : meth.sig.returnType = (some .int)) (ht : ∀ x ∈ c.exceptionTable.toList, False) (hll : l.stackTraces = false)  (post : Int32 → tG → Prop) (postX : String → tG → Prop) : ∀ (v2 : Int32) (v3 : Int32) (v4 : Option Nat) (u0 : Int32) (G : tG) (H : Heap) (locs : List Loc) (ls : Array Slot), tg_W D A s H G → va_S A s.heap H locs → tl ls 6 [(2, .inl v2), (3, .inl v3), (4, .inr (.inr v4))] → w_X1_swap_39 K post postX v2 v3 v4 u0 G → W p l e ({ frames := 7, cells := 3, slots := 18, locals := 104 } : Room) s m args below meth c H locs 3 18 (vx_MQ below (tc_Qc D A (retI post)) (tc_XC D A postX) args s 3 18 A) (F0 m 39 ls [.int u0]) := by
  intro v2 v3 v4 u0 G H locs ls hW hS hl hw
  unfold w_X1_swap_39 at hw
  refine tr_istore (x := u0) C hl [(5, .inl u0), (2, .inl v2), (3, .inl v3), (4, .inr (.inr v4))] (by decide) rfl dX1_swap_39 (fun ls hl => ?_)
  refine tr_aload (x := v4) C hl 3 rfl dX1_swap_41 ?_
  refine tr_iload_n (k := 2) (x := v2) C hl 1 rfl dX1_swap_43 ?_
  refine tr_iload_n (k := 3) (x := v3) C hl 2 rfl dX1_swap_44 ?_
  refine tr_backV (tr_runV (r := v4) (As := [.int v2, .int v3]) C hl.1 (c_X0_exchange l hll K _ v4 v2 v3) (cwV 2 C.1.2.2.2.2 (gi_V (zm kw_300) (zm kw_301) (zm kw_302) (zm kw_10) (zm kw_299)) rfl rfl rfl (by decide +kernel) ⟨(Nat.le_of_ble_eq_true rfl), (Nat.le_of_ble_eq_true rfl)⟩) rfl rfl dX1_swap_45 ⟨(Nat.le_of_ble_eq_true rfl), (Nat.le_of_ble_eq_true rfl)⟩ [] rfl (Nat.le_of_ble_eq_true rfl) rfl hW hS hw) hS (fun G_45 H locs hw hW hS => ?_)
  refine tr_iload (x := u0) C hl 0 rfl dX1_swap_48 ?_
  exact vx_ret (tr_iret C hr dX1_swap_50 (Nat.le_of_ble_eq_true rfl) (Nat.le_of_ble_eq_true rfl) hW hS hw)
set_option maxHeartbeats 4000000 in
set_option maxRecDepth 100000 in
theorem s_X1_swap {K : tK} (C : tc_B p l s m args meth c D K A wz_X1_swap RX1 cX1_swap 6) (hr : meth.sig.returnType = (some .int)) (ht : ∀ x ∈ c.exceptionTable.toList, False) (hll : l.stackTraces = false)  (post : Int32 → tG → Prop) (postX : String → tG → Prop) (v0 : Option Nat) (v1 : Int32) (v2 : Int32) (v3 : Int32) : ∀ (G : tG) (H : Heap) (locs : List Loc) (ls : Array Slot), tg_W D A s H G → va_S A s.heap H locs → tl ls 6 [(0, .inr (.inr v0)), (1, .inl v1), (2, .inl v2), (3, .inl v3)] → w_X1_swap K post postX v0 v1 v2 v3 G → W p l e ({ frames := 7, cells := 3, slots := 18, locals := 104 } : Room) s m args below meth c H locs 0 0 (vx_MQ below (tc_Qc D A (retI post)) (tc_XC D A postX) args s 3 18 A) (F0 m 0 ls []) := by
  intro G H locs ls hW hS hl hw
  unfold w_X1_swap at hw
  refine tr_aload_n (k := 0) (x := v0) C hl 0 rfl dX1_swap_0 ?_
  refine tr_iload_n (k := 1) (x := v1) C hl 1 rfl dX1_swap_1 ?_
  refine tx_backR (tx_runV (r := v0) (As := [.int v1]) C hl.1 (c_X1_listAt l hll K _ _ v0 v1) (cwV 1 C.1.2.2.2.2 (gi_V (zm kw_94) (zm kw_95) (zm kw_96) (zm kw_33) (zm kw_93)) rfl rfl rfl (by decide +kernel) ⟨(Nat.le_of_ble_eq_true rfl), (Nat.le_of_ble_eq_true rfl)⟩) rfl rfl dX1_swap_2 ⟨(Nat.le_of_ble_eq_true rfl), (Nat.le_of_ble_eq_true rfl)⟩ [] rfl (Nat.le_of_ble_eq_true rfl) rfl hW hS hw) hS C.2.1 ht (Nat.le_of_ble_eq_true rfl) (Nat.le_of_ble_eq_true rfl) (fun x_2 G_2 H locs hw hW hS => ?_)
  refine tr_astore (x := x_2) C hl [(4, .inr (.inr x_2)), (0, .inr (.inr v0)), (1, .inl v1), (2, .inl v2), (3, .inl v3)] (by decide) rfl dX1_swap_5 (fun ls hl => ?_)
  refine tr_aload (x := x_2) C hl 0 rfl dX1_swap_7 ?_
  refine tr_iload_n (k := 2) (x := v2) C hl 3 rfl dX1_swap_9 ?_
  refine tx_backV (tx_runS (As := [va_rf x_2, .int v2]) C hl.1 (c_X1_checkPlace l hll K _ _ x_2 v2) (va_cwS 2 C.1.2.2.2.2 (gi_S (zm kw_199) (zm kw_200) (zm kw_33) (zm kw_198)) rfl rfl rfl (by decide +kernel) ⟨(Nat.le_of_ble_eq_true rfl), (Nat.le_of_ble_eq_true rfl)⟩) rfl dX1_swap_10 ⟨(Nat.le_of_ble_eq_true rfl), (Nat.le_of_ble_eq_true rfl)⟩ [] rfl (Nat.le_of_ble_eq_true rfl) rfl hW hS hw) hS C.2.1 ht (Nat.le_of_ble_eq_true rfl) (Nat.le_of_ble_eq_true rfl) (fun G_10 H locs hw hW hS => ?_)
  refine tr_aload (x := x_2) C hl 0 rfl dX1_swap_13 ?_
  refine tr_iload_n (k := 3) (x := v3) C hl 4 rfl dX1_swap_15 ?_
  refine tx_backV (tx_runS (As := [va_rf x_2, .int v3]) C hl.1 (c_X1_checkPlace l hll K _ _ x_2 v3) (va_cwS 2 C.1.2.2.2.2 (gi_S (zm kw_199) (zm kw_200) (zm kw_33) (zm kw_198)) rfl rfl rfl (by decide +kernel) ⟨(Nat.le_of_ble_eq_true rfl), (Nat.le_of_ble_eq_true rfl)⟩) rfl dX1_swap_16 ⟨(Nat.le_of_ble_eq_true rfl), (Nat.le_of_ble_eq_true rfl)⟩ [] rfl (Nat.le_of_ble_eq_true rfl) rfl hW hS hw) hS C.2.1 ht (Nat.le_of_ble_eq_true rfl) (Nat.le_of_ble_eq_true rfl) (fun G_16 H locs hw hW hS => ?_)
  refine tr_aload (x := x_2) C hl 0 rfl dX1_swap_19 ?_
  refine tr_iload_n (k := 2) (x := v2) C hl 3 rfl dX1_swap_21 ?_
  refine tr_backI (tr_runV (r := x_2) (As := [.int v2]) C hl.1 (c_X0_read l hll K _ x_2 v2) (cwV 1 C.1.2.2.2.2 (gi_V (zm kw_27) (zm kw_28) (zm kw_29) (zm kw_10) (zm kw_26)) rfl rfl rfl (by decide +kernel) ⟨(Nat.le_of_ble_eq_true rfl), (Nat.le_of_ble_eq_true rfl)⟩) rfl rfl dX1_swap_22 ⟨(Nat.le_of_ble_eq_true rfl), (Nat.le_of_ble_eq_true rfl)⟩ [] rfl (Nat.le_of_ble_eq_true rfl) rfl hW hS hw) hS (fun x_22 G_22 H locs hw hW hS => ?_)
  refine tr_aload (x := x_2) C hl 0 rfl dX1_swap_25 ?_
  refine tr_iload_n (k := 3) (x := v3) C hl 4 rfl dX1_swap_27 ?_
  refine tr_backI (tr_runV (r := x_2) (As := [.int v3]) C hl.1 (c_X0_read l hll K _ x_2 v3) (cwV 1 C.1.2.2.2.2 (gi_V (zm kw_27) (zm kw_28) (zm kw_29) (zm kw_10) (zm kw_26)) rfl rfl rfl (by decide +kernel) ⟨(Nat.le_of_ble_eq_true rfl), (Nat.le_of_ble_eq_true rfl)⟩) rfl rfl dX1_swap_28 ⟨(Nat.le_of_ble_eq_true rfl), (Nat.le_of_ble_eq_true rfl)⟩ [.inl x_22] rfl (Nat.le_of_ble_eq_true rfl) rfl hW hS hw) hS (fun x_28 G_28 H locs hw hW hS => ?_)
  refine lv_icmp_ne (tgt := 38) C.1.1 C.1.2.1 dX1_swap_31 (by decide) (fun hc => ?_) (fun hc => ?_)
  · have hw := hw.1 hc
    refine lv_iconst (v := (1 : Int32)) C.1.1 C.1.2.1 dX1_swap_38 (by decide) ?_
    exact s_X1_swap_39 C hr ht hll post postX v2 v3 x_2 ((1 : Int32)) _ _ _ _ hW hS (tl_sub hl [3, 4, 0] rfl) hw
  · have hw := hw.2 hc
    refine lv_iconst (v := (0 : Int32)) C.1.1 C.1.2.1 dX1_swap_34 (by decide) ?_
    refine lv_goto (tgt := 39) C.1.1 C.1.2.1 dX1_swap_35 (by decide) ?_
    exact s_X1_swap_39 C hr ht hll post postX v2 v3 x_2 ((0 : Int32)) _ _ _ _ hW hS (tl_sub hl [3, 4, 0] rfl) hw
end Z_X1_swap
set_option maxHeartbeats 4000000 in
set_option maxRecDepth 100000 in
theorem c_X1_swap (l : Launch) (hll : l.stackTraces = false) (K : tK) (post : Int32 → tG → Prop) (postX : String → tG → Prop) (v0 : Option Nat) (v1 : Int32) (v2 : Int32) (v3 : Int32) : Cx l yX1_swap wz_X1_swap ({ frames := 7, cells := 3, slots := 18, locals := 104 } : Room) 3 18 [va_rf v0, .int v1, .int v2, .int v3] K (retI post) postX (fun G => w_X1_swap K post postX v0 v1 v2 v3 G) := by
  refine tx_of (cc := cX1_swap) (maxL := 6) (ret := (some .int)) (own := RX1) (by decide) rfl rfl hll [.inr (.inr v0), .inl v1, .inl v2, .inl v3] rfl (Nat.le_of_ble_eq_true rfl) ?_
  intro p e s m args below meth c D A G ls C hr hn ht hl hW hS hw
  exact s_X1_swap C hr ht hll post postX v0 v1 v2 v3 _ _ _ _ hW hS hl hw

/-! L_swap -/
def wz_L_swap : List Cond := Cond.codeWith yL_swap cL_swap 6 (some .int) [(0, 13, 16, 19)] :: w0
section Z_L_swap
variable {p : Program} {l : Launch} {e : Env} {s : State} {m : MethodId} {args : Array Value} {below : List Frame} {meth : Method} {c : Code} {D : va_G} {A : Nat → Prop}
set_option maxHeartbeats 4000000 in
set_option maxRecDepth 100000 in
theorem s_L_swap {K : tK} (C : tc_B p l s m args meth c D K A wz_L_swap RL cL_swap 6) (hr : meth.sig.returnType = (some .int)) (htab : c.exceptionTable.toList = tableOf [(0, 13, 16, 19)]) (hcC : kx_C s) (hll : l.stackTraces = false)  (post : Int32 → tG → Prop) (v0 : Option Nat) (v1 : Int32) (v2 : Int32) (v3 : Int32) (v4 : Option Nat) : ∀ (G : tG) (H : Heap) (locs : List Loc) (ls : Array Slot), tg_W D A s H G → va_S A s.heap H locs → tl ls 6 [(0, .inr (.inr v0)), (1, .inl v1), (2, .inl v2), (3, .inl v3), (4, .inr (.inr v4))] → w_L_swap K post v0 v1 v2 v3 v4 G → W p l e ({ frames := 8, cells := 3, slots := 18, locals := 129 } : Room) s m args below meth c H locs 0 0 (vx_MQ below (tc_Qc D A (retI post)) (tc_XC D A (fun _ _ => False)) args s 3 18 A) (F0 m 0 ls []) := by
  intro G H locs ls hW hS hl hw
  unfold w_L_swap at hw
  refine tr_aload (x := v4) C hl 4 rfl dL_swap_0 ?_
  refine tr_aload_n (k := 0) (x := v0) C hl 0 rfl dL_swap_2 ?_
  refine tr_iload_n (k := 1) (x := v1) C hl 1 rfl dL_swap_3 ?_
  refine tr_iload_n (k := 2) (x := v2) C hl 2 rfl dL_swap_4 ?_
  refine tr_iload_n (k := 3) (x := v3) C hl 3 rfl dL_swap_5 ?_
  refine tx_backCI (tx_runV (r := v0) (As := [.int v1, .int v2, .int v3]) C hl.1 (c_X1_swap l hll K _ _ v0 v1 v2 v3) (cwV 3 C.1.2.2.2.2 (gi_V (zm kw_304) (zm kw_305) (zm kw_306) (zm kw_33) (zm kw_303)) rfl rfl rfl (by decide +kernel) ⟨(Nat.le_of_ble_eq_true rfl), (Nat.le_of_ble_eq_true rfl)⟩) rfl rfl dL_swap_6 ⟨(Nat.le_of_ble_eq_true rfl), (Nat.le_of_ble_eq_true rfl)⟩ [.inr (.inr v4)] rfl (Nat.le_of_ble_eq_true rfl) rfl hW hS hw) hS (fun E ce q9 GX H locs hw hW hS hce hcv hcl => ?_) (fun x_6 G_6 H locs hw hW hS => ?_)
  · by_cases hq0 : E = "java/lang/IndexOutOfBoundsException"
    · replace hw := hw.1 hq0
      subst hq0
      refine vx_catch (name := "java/lang/IndexOutOfBoundsException") C.1.2.2.2.1 [] (⟨0, 13, 16, 19⟩ : ExceptionTableEntry) [] (by rw [htab]; rfl) (fun z hz => nomatch hz) (by decide) (by decide) (C.1.2.2.2.2 _ (zm kw_209)) hcC.2.2.1 hce hcv hcl ?_
      refine tr_astore (x := (some q9)) C hl [(5, .inr (.inr (some q9))), (0, .inr (.inr v0)), (1, .inl v1), (2, .inl v2), (3, .inl v3), (4, .inr (.inr v4))] (by decide) rfl dL_swap_16 (fun ls hl => ?_)
      refine lv_iconst (v := (1 : Int32)) C.1.1 C.1.2.1 dL_swap_18 (by decide) ?_
      exact vx_ret (tr_iret C hr dL_swap_19 (Nat.le_of_ble_eq_true rfl) (Nat.le_of_ble_eq_true rfl) hW hS hw)
    replace hw := hw.2 hq0
    exact hw.elim
  · refine lv_i2l (v := ((x_6).toInt64)) C.1.1 C.1.2.1 dL_swap_9 rfl ?_
    refine tr_pfN (C0 := RX2) (T := TX2) (N := 2) (ci := 4) (ref := "TwinrowLaw$Out") (host := "TwinrowLaw") (k := 0) (ty := .long) (v := .long (((x_6).toInt64))) (r := v4) C (zh hw_X2) tyX2 tyX2_ok nmX2 rfl (by decide) hcC.1 rfl rfl (by decide +kernel) rfl rfl dL_swap_10 hW hS hw (fun G_10 H locs hw hW hS => ?_)
    refine lv_goto (tgt := 20) C.1.1 C.1.2.1 dL_swap_13 (by decide) ?_
    refine lv_iconst (v := (0 : Int32)) C.1.1 C.1.2.1 dL_swap_20 (by decide) ?_
    exact vx_ret (tr_iret C hr dL_swap_21 (Nat.le_of_ble_eq_true rfl) (Nat.le_of_ble_eq_true rfl) hW hS hw)
end Z_L_swap
set_option maxHeartbeats 4000000 in
set_option maxRecDepth 100000 in
theorem c_L_swap (l : Launch) (hll : l.stackTraces = false) (K : tK) (post : Int32 → tG → Prop) (v0 : Option Nat) (v1 : Int32) (v2 : Int32) (v3 : Int32) (v4 : Option Nat) : Cx l yL_swap wz_L_swap ({ frames := 8, cells := 3, slots := 18, locals := 129 } : Room) 3 18 [va_rf v0, .int v1, .int v2, .int v3, va_rf v4] K (retI post) (fun _ _ => False) (fun G => w_L_swap K post v0 v1 v2 v3 v4 G) := by
  refine tx_ofH (cc := cL_swap) (maxL := 6) (ret := (some .int)) (own := RL) (hh := [(0, 13, 16, 19)]) (by decide) rfl rfl hll [.inr (.inr v0), .inl v1, .inl v2, .inl v3, .inr (.inr v4)] rfl (Nat.le_of_ble_eq_true rfl) ?_
  intro p e s m args below meth c D A G ls C hr htab hcC hl hW hS hw
  exact s_L_swap C hr htab hcC hll post v0 v1 v2 v3 v4 _ _ _ _ hW hS hl hw

/-! X3_write -/
def wz_X3_write : List Cond := Cond.code yX3_write cX3_write 4 none :: w0
section Z_X3_write
variable {p : Program} {l : Launch} {e : Env} {s : State} {m : MethodId} {args : Array Value} {below : List Frame} {meth : Method} {c : Code} {D : va_G} {A : Nat → Prop}
set_option maxHeartbeats 4000000 in
set_option maxRecDepth 100000 in
theorem s_X3_write {K : tK} (C : tc_B p l s m args meth c D K A wz_X3_write RX3 cX3_write 4) (hr : meth.sig.returnType = none) (hll : l.stackTraces = false)  (post : tG → Prop) (v0 : Option Nat) (v1 : Int32) (v2 : Int32) (v3 : Int32) : ∀ (G : tG) (H : Heap) (locs : List Loc) (ls : Array Slot), tg_W D A s H G → va_S A s.heap H locs → tl ls 4 [(0, .inr (.inr v0)), (1, .inl v1), (2, .inl v2), (3, .inl v3)] → w_X3_write K post v0 v1 v2 v3 G → W p l e ({ frames := 0, cells := 0, slots := 0, locals := 0 } : Room) s m args below meth c H locs 0 0 (MQ below (tc_Qc D A (retV post)) args s 0 0 A) (F0 m 0 ls []) := by
  intro G H locs ls hW hS hl hw
  unfold w_X3_write at hw
  refine tr_aload_n (k := 0) (x := v0) C hl 0 rfl dX3_write_0 ?_
  refine tr_gfR (C0 := RX3) (T := TX3) (N := 8) (ci := 5) (ref := "TwinrowModel") (k := 0) (r := v0) C (zh hw_X3) rfl (by decide) (zm kw_21) rfl dX3_write_1 hW hw (fun x_1 hw => ?_)
  refine tr_aload_n (k := 0) (x := v0) C hl 0 rfl dX3_write_4 ?_
  refine tr_gfR (C0 := RX3) (T := TX3) (N := 8) (ci := 5) (ref := "TwinrowModel") (k := 1) (r := v0) C (zh hw_X3) rfl (by decide) (zm kw_22) rfl dX3_write_5 hW hw (fun x_5 hw => ?_)
  refine tr_iload_n (k := 1) (x := v1) C hl 1 rfl dX3_write_8 ?_
  refine tr_alI (r := x_5) C dX3_write_9 hW hw (fun x_9 hw => ?_)
  refine tr_alR (ty := .array .int) C dX3_write_10 hW rfl hw (fun x_10 hw => ?_)
  refine tr_aload_n (k := 0) (x := v0) C hl 0 rfl dX3_write_11 ?_
  refine tr_gfR (C0 := RX3) (T := TX3) (N := 8) (ci := 5) (ref := "TwinrowModel") (k := 2) (r := v0) C (zh hw_X3) rfl (by decide) (zm kw_23) rfl dX3_write_12 hW hw (fun x_12 hw => ?_)
  refine tr_iload_n (k := 1) (x := v1) C hl 1 rfl dX3_write_15 ?_
  refine tr_alI (r := x_12) C dX3_write_16 hW hw (fun x_16 hw => ?_)
  refine tr_iload_n (k := 2) (x := v2) C hl 2 rfl dX3_write_17 ?_
  refine lv_iadd C.1.1 C.1.2.1 dX3_write_18 ?_
  refine tr_iload_n (k := 3) (x := v3) C hl 3 rfl dX3_write_19 ?_
  refine tr_asI (r := x_10) C dX3_write_20 hW hS hw (fun G_20 H locs hw hW hS => ?_)
  exact tr_vret C hr dX3_write_21 (Nat.le_of_ble_eq_true rfl) (Nat.le_of_ble_eq_true rfl) hW hS hw
end Z_X3_write
set_option maxHeartbeats 4000000 in
set_option maxRecDepth 100000 in
theorem c_X3_write (l : Launch) (hll : l.stackTraces = false) (K : tK) (post : tG → Prop) (v0 : Option Nat) (v1 : Int32) (v2 : Int32) (v3 : Int32) : Ct l yX3_write wz_X3_write ({ frames := 0, cells := 0, slots := 0, locals := 0 } : Room) 0 0 [va_rf v0, .int v1, .int v2, .int v3] K (retV post) (fun G => w_X3_write K post v0 v1 v2 v3 G) := by
  refine tc_of (cc := cX3_write) (maxL := 4) (ret := none) (own := RX3) (plainFor_of_name (by decide)) rfl rfl hll [.inr (.inr v0), .inl v1, .inl v2, .inl v3] rfl (Nat.le_of_ble_eq_true rfl) ?_
  intro p e s m args below meth c D A G ls C hr hn ht hl hW hS hw
  exact s_X3_write C hr hll post v0 v1 v2 v3 _ _ _ _ hW hS hl hw

/-! X3_swap -/
def wz_X3_swap : List Cond := Cond.code yX3_swap cX3_swap 6 (some .int) :: w0
section Z_X3_swap
variable {p : Program} {l : Launch} {e : Env} {s : State} {m : MethodId} {args : Array Value} {below : List Frame} {meth : Method} {c : Code} {D : va_G} {A : Nat → Prop}
set_option maxHeartbeats 4000000 in
set_option maxRecDepth 100000 in
theorem s_X3_swap_77 {K : tK} (C : tc_B p l s m args meth c D K A wz_X3_swap RX3 cX3_swap 6) (hr : meth.sig.returnType = (some .int)) (hll : l.stackTraces = false)  (post : Int32 → tG → Prop) : ∀ (u0 : Int32) (G : tG) (H : Heap) (locs : List Loc) (ls : Array Slot), tg_W D A s H G → va_S A s.heap H locs → tl ls 6 [] → w_X3_swap_77 K post u0 G → W p l e ({ frames := 3, cells := 0, slots := 0, locals := 65 } : Room) s m args below meth c H locs 0 0 (MQ below (tc_Qc D A (retI post)) args s 0 0 A) (F0 m 77 ls [.int u0]) := by
  intro u0 G H locs ls hW hS hl hw
  unfold w_X3_swap_77 at hw
  refine tr_backI (tr_runS (As := [.int u0]) C hl.1 (c_X3_one l hll K _ u0) (va_cwS 1 C.1.2.2.2.2 (gi_S (zm kw_161) (zm kw_162) (zm kw_155) (zm kw_160)) rfl rfl rfl (by decide +kernel) ⟨(Nat.le_of_ble_eq_true rfl), (Nat.le_of_ble_eq_true rfl)⟩) rfl dX3_swap_77 ⟨(Nat.le_of_ble_eq_true rfl), (Nat.le_of_ble_eq_true rfl)⟩ [] rfl (Nat.le_of_ble_eq_true rfl) rfl hW hS hw) hS (fun x_77 G_77 H locs hw hW hS => ?_)
  exact tr_iret C hr dX3_swap_80 (Nat.le_of_ble_eq_true rfl) (Nat.le_of_ble_eq_true rfl) hW hS hw
set_option maxHeartbeats 4000000 in
set_option maxRecDepth 100000 in
theorem s_X3_swap_24 {K : tK} (C : tc_B p l s m args meth c D K A wz_X3_swap RX3 cX3_swap 6) (hr : meth.sig.returnType = (some .int)) (hll : l.stackTraces = false)  (post : Int32 → tG → Prop) : ∀ (v0 : Option Nat) (v1 : Int32) (v2 : Int32) (v3 : Int32) (u0 : Option Nat) (u1 : Int32) (G : tG) (H : Heap) (locs : List Loc) (ls : Array Slot), tg_W D A s H G → va_S A s.heap H locs → tl ls 6 [(0, .inr (.inr v0)), (1, .inl v1), (2, .inl v2), (3, .inl v3)] → w_X3_swap_24 K post v0 v1 v2 v3 u0 u1 G → W p l e ({ frames := 3, cells := 0, slots := 0, locals := 65 } : Room) s m args below meth c H locs 0 0 (MQ below (tc_Qc D A (retI post)) args s 0 0 A) (F0 m 24 ls [.int u1, va_rf u0]) := by
  intro v0 v1 v2 v3 u0 u1 G H locs ls hW hS hl hw
  unfold w_X3_swap_24 at hw
  refine lv_iconst (v := (0 : Int32)) C.1.1 C.1.2.1 dX3_swap_24 (by decide) ?_
  refine tr_backI (tr_runV (r := u0) (As := [.int u1, .int ((0 : Int32))]) C hl.1 (c_X3_fails l hll K _ u0 u1 ((0 : Int32))) (cwV 2 C.1.2.2.2.2 (gi_V (zm kw_190) (zm kw_191) (zm kw_192) (zm kw_155) (zm kw_189)) rfl rfl rfl (by decide +kernel) ⟨(Nat.le_of_ble_eq_true rfl), (Nat.le_of_ble_eq_true rfl)⟩) rfl rfl dX3_swap_25 ⟨(Nat.le_of_ble_eq_true rfl), (Nat.le_of_ble_eq_true rfl)⟩ [] rfl (Nat.le_of_ble_eq_true rfl) rfl hW hS hw) hS (fun x_25 G_25 H locs hw hW hS => ?_)
  refine lv_if_eq (tgt := 33) C.1.1 C.1.2.1 dX3_swap_28 (by decide) (fun hc => ?_) (fun hc => ?_)
  · have hw := hw.1 hc
    refine tr_aload_n (k := 0) (x := v0) C hl 0 rfl dX3_swap_33 ?_
    refine tr_iload_n (k := 1) (x := v1) C hl 1 rfl dX3_swap_34 ?_
    refine tr_iload_n (k := 2) (x := v2) C hl 2 rfl dX3_swap_35 ?_
    refine tr_backI (tr_runV (r := v0) (As := [.int v1, .int v2]) C hl.1 (c_X3_value l hll K _ v0 v1 v2) (cwV 2 C.1.2.2.2.2 (gi_V (zm kw_152) (zm kw_153) (zm kw_154) (zm kw_155) (zm kw_151)) rfl rfl rfl (by decide +kernel) ⟨(Nat.le_of_ble_eq_true rfl), (Nat.le_of_ble_eq_true rfl)⟩) rfl rfl dX3_swap_36 ⟨(Nat.le_of_ble_eq_true rfl), (Nat.le_of_ble_eq_true rfl)⟩ [] rfl (Nat.le_of_ble_eq_true rfl) rfl hW hS hw) hS (fun x_36 G_36 H locs hw hW hS => ?_)
    refine tr_istore (x := x_36) C hl [(4, .inl x_36), (0, .inr (.inr v0)), (1, .inl v1), (2, .inl v2), (3, .inl v3)] (by decide) rfl dX3_swap_39 (fun ls hl => ?_)
    refine tr_aload_n (k := 0) (x := v0) C hl 1 rfl dX3_swap_41 ?_
    refine tr_iload_n (k := 1) (x := v1) C hl 2 rfl dX3_swap_42 ?_
    refine tr_iload_n (k := 3) (x := v3) C hl 4 rfl dX3_swap_43 ?_
    refine tr_backI (tr_runV (r := v0) (As := [.int v1, .int v3]) C hl.1 (c_X3_value l hll K _ v0 v1 v3) (cwV 2 C.1.2.2.2.2 (gi_V (zm kw_152) (zm kw_153) (zm kw_154) (zm kw_155) (zm kw_151)) rfl rfl rfl (by decide +kernel) ⟨(Nat.le_of_ble_eq_true rfl), (Nat.le_of_ble_eq_true rfl)⟩) rfl rfl dX3_swap_44 ⟨(Nat.le_of_ble_eq_true rfl), (Nat.le_of_ble_eq_true rfl)⟩ [] rfl (Nat.le_of_ble_eq_true rfl) rfl hW hS hw) hS (fun x_44 G_44 H locs hw hW hS => ?_)
    refine tr_istore (x := x_44) C hl [(5, .inl x_44), (4, .inl x_36), (0, .inr (.inr v0)), (1, .inl v1), (2, .inl v2), (3, .inl v3)] (by decide) rfl dX3_swap_47 (fun ls hl => ?_)
    refine tr_aload_n (k := 0) (x := v0) C hl 2 rfl dX3_swap_49 ?_
    refine tr_iload_n (k := 1) (x := v1) C hl 3 rfl dX3_swap_50 ?_
    refine tr_iload_n (k := 2) (x := v2) C hl 4 rfl dX3_swap_51 ?_
    refine tr_iload (x := x_44) C hl 0 rfl dX3_swap_52 ?_
    refine tr_backV (tr_runV (r := v0) (As := [.int v1, .int v2, .int x_44]) C hl.1 (c_X3_write l hll K _ v0 v1 v2 x_44) (cwV 3 C.1.2.2.2.2 (gi_V (zm kw_308) (zm kw_309) (zm kw_310) (zm kw_155) (zm kw_307)) rfl rfl rfl (by decide +kernel) ⟨(Nat.le_of_ble_eq_true rfl), (Nat.le_of_ble_eq_true rfl)⟩) rfl rfl dX3_swap_54 ⟨(Nat.le_of_ble_eq_true rfl), (Nat.le_of_ble_eq_true rfl)⟩ [] rfl (Nat.le_of_ble_eq_true rfl) rfl hW hS hw) hS (fun G_54 H locs hw hW hS => ?_)
    refine tr_aload_n (k := 0) (x := v0) C hl 2 rfl dX3_swap_57 ?_
    refine tr_iload_n (k := 1) (x := v1) C hl 3 rfl dX3_swap_58 ?_
    refine tr_iload_n (k := 3) (x := v3) C hl 5 rfl dX3_swap_59 ?_
    refine tr_iload (x := x_36) C hl 1 rfl dX3_swap_60 ?_
    refine tr_backV (tr_runV (r := v0) (As := [.int v1, .int v3, .int x_36]) C hl.1 (c_X3_write l hll K _ v0 v1 v3 x_36) (cwV 3 C.1.2.2.2.2 (gi_V (zm kw_308) (zm kw_309) (zm kw_310) (zm kw_155) (zm kw_307)) rfl rfl rfl (by decide +kernel) ⟨(Nat.le_of_ble_eq_true rfl), (Nat.le_of_ble_eq_true rfl)⟩) rfl rfl dX3_swap_62 ⟨(Nat.le_of_ble_eq_true rfl), (Nat.le_of_ble_eq_true rfl)⟩ [] rfl (Nat.le_of_ble_eq_true rfl) rfl hW hS hw) hS (fun G_62 H locs hw hW hS => ?_)
    refine tr_iload (x := x_36) C hl 1 rfl dX3_swap_65 ?_
    refine tr_iload (x := x_44) C hl 0 rfl dX3_swap_67 ?_
    refine lv_icmp_eq (tgt := 76) C.1.1 C.1.2.1 dX3_swap_69 (by decide) (fun hc => ?_) (fun hc => ?_)
    · have hw := hw.1 hc
      refine lv_iconst (v := (0 : Int32)) C.1.1 C.1.2.1 dX3_swap_76 (by decide) ?_
      exact s_X3_swap_77 C hr hll post ((0 : Int32)) _ _ _ _ hW hS (tl_sub hl [] rfl) hw
    · have hw := hw.2 hc
      refine lv_iconst (v := (1 : Int32)) C.1.1 C.1.2.1 dX3_swap_72 (by decide) ?_
      refine lv_goto (tgt := 77) C.1.1 C.1.2.1 dX3_swap_73 (by decide) ?_
      exact s_X3_swap_77 C hr hll post ((1 : Int32)) _ _ _ _ hW hS (tl_sub hl [] rfl) hw
  · have hw := hw.2 hc
    refine lv_iconst (v := (0 : Int32)) C.1.1 C.1.2.1 dX3_swap_31 (by decide) ?_
    exact tr_iret C hr dX3_swap_32 (Nat.le_of_ble_eq_true rfl) (Nat.le_of_ble_eq_true rfl) hW hS hw
set_option maxHeartbeats 4000000 in
set_option maxRecDepth 100000 in
theorem s_X3_swap_19 {K : tK} (C : tc_B p l s m args meth c D K A wz_X3_swap RX3 cX3_swap 6) (hr : meth.sig.returnType = (some .int)) (hll : l.stackTraces = false)  (post : Int32 → tG → Prop) : ∀ (v0 : Option Nat) (v1 : Int32) (v2 : Int32) (v3 : Int32) (u0 : Option Nat) (G : tG) (H : Heap) (locs : List Loc) (ls : Array Slot), tg_W D A s H G → va_S A s.heap H locs → tl ls 6 [(0, .inr (.inr v0)), (1, .inl v1), (2, .inl v2), (3, .inl v3)] → w_X3_swap_19 K post v0 v1 v2 v3 u0 G → W p l e ({ frames := 3, cells := 0, slots := 0, locals := 65 } : Room) s m args below meth c H locs 0 0 (MQ below (tc_Qc D A (retI post)) args s 0 0 A) (F0 m 19 ls [va_rf u0]) := by
  intro v0 v1 v2 v3 u0 G H locs ls hW hS hl hw
  unfold w_X3_swap_19 at hw
  refine lv_iconst (v := (1 : Int32)) C.1.1 C.1.2.1 dX3_swap_19 (by decide) ?_
  refine lv_goto (tgt := 24) C.1.1 C.1.2.1 dX3_swap_20 (by decide) ?_
  exact s_X3_swap_24 C hr hll post v0 v1 v2 v3 u0 ((1 : Int32)) _ _ _ _ hW hS (tl_sub hl [0, 1, 2, 3] rfl) hw
set_option maxHeartbeats 4000000 in
set_option maxRecDepth 100000 in
theorem s_X3_swap {K : tK} (C : tc_B p l s m args meth c D K A wz_X3_swap RX3 cX3_swap 6) (hr : meth.sig.returnType = (some .int)) (hll : l.stackTraces = false)  (post : Int32 → tG → Prop) (v0 : Option Nat) (v1 : Int32) (v2 : Int32) (v3 : Int32) : ∀ (G : tG) (H : Heap) (locs : List Loc) (ls : Array Slot), tg_W D A s H G → va_S A s.heap H locs → tl ls 6 [(0, .inr (.inr v0)), (1, .inl v1), (2, .inl v2), (3, .inl v3)] → w_X3_swap K post v0 v1 v2 v3 G → W p l e ({ frames := 3, cells := 0, slots := 0, locals := 65 } : Room) s m args below meth c H locs 0 0 (MQ below (tc_Qc D A (retI post)) args s 0 0 A) (F0 m 0 ls []) := by
  intro G H locs ls hW hS hl hw
  unfold w_X3_swap at hw
  refine tr_aload_n (k := 0) (x := v0) C hl 0 rfl dX3_swap_0 ?_
  refine tr_aload_n (k := 0) (x := v0) C hl 0 rfl dX3_swap_1 ?_
  refine tr_iload_n (k := 1) (x := v1) C hl 1 rfl dX3_swap_2 ?_
  refine tr_iload_n (k := 2) (x := v2) C hl 2 rfl dX3_swap_3 ?_
  refine tr_backI (tr_runV (r := v0) (As := [.int v1, .int v2]) C hl.1 (c_X3_isNoPlace l hll K _ v0 v1 v2) (cwV 2 C.1.2.2.2.2 (gi_V (zm kw_219) (zm kw_220) (zm kw_221) (zm kw_155) (zm kw_218)) rfl rfl rfl (by decide +kernel) ⟨(Nat.le_of_ble_eq_true rfl), (Nat.le_of_ble_eq_true rfl)⟩) rfl rfl dX3_swap_4 ⟨(Nat.le_of_ble_eq_true rfl), (Nat.le_of_ble_eq_true rfl)⟩ [.inr (.inr v0)] rfl (Nat.le_of_ble_eq_true rfl) rfl hW hS hw) hS (fun x_4 G_4 H locs hw hW hS => ?_)
  refine lv_if_ne (tgt := 19) C.1.1 C.1.2.1 dX3_swap_7 (by decide) (fun hc => ?_) (fun hc => ?_)
  · have hw := hw.1 hc
    exact s_X3_swap_19 C hr hll post v0 v1 v2 v3 v0 _ _ _ _ hW hS (tl_sub hl [0, 1, 2, 3] rfl) hw
  · have hw := hw.2 hc
    refine tr_aload_n (k := 0) (x := v0) C hl 0 rfl dX3_swap_10 ?_
    refine tr_iload_n (k := 1) (x := v1) C hl 1 rfl dX3_swap_11 ?_
    refine tr_iload_n (k := 3) (x := v3) C hl 3 rfl dX3_swap_12 ?_
    refine tr_backI (tr_runV (r := v0) (As := [.int v1, .int v3]) C hl.1 (c_X3_isNoPlace l hll K _ v0 v1 v3) (cwV 2 C.1.2.2.2.2 (gi_V (zm kw_219) (zm kw_220) (zm kw_221) (zm kw_155) (zm kw_218)) rfl rfl rfl (by decide +kernel) ⟨(Nat.le_of_ble_eq_true rfl), (Nat.le_of_ble_eq_true rfl)⟩) rfl rfl dX3_swap_13 ⟨(Nat.le_of_ble_eq_true rfl), (Nat.le_of_ble_eq_true rfl)⟩ [.inr (.inr v0)] rfl (Nat.le_of_ble_eq_true rfl) rfl hW hS hw) hS (fun x_13 G_13 H locs hw hW hS => ?_)
    refine lv_if_eq (tgt := 23) C.1.1 C.1.2.1 dX3_swap_16 (by decide) (fun hc => ?_) (fun hc => ?_)
    · have hw := hw.1 hc
      refine lv_iconst (v := (0 : Int32)) C.1.1 C.1.2.1 dX3_swap_23 (by decide) ?_
      exact s_X3_swap_24 C hr hll post v0 v1 v2 v3 v0 ((0 : Int32)) _ _ _ _ hW hS (tl_sub hl [0, 1, 2, 3] rfl) hw
    · have hw := hw.2 hc
      exact s_X3_swap_19 C hr hll post v0 v1 v2 v3 v0 _ _ _ _ hW hS (tl_sub hl [0, 1, 2, 3] rfl) hw
end Z_X3_swap
set_option maxHeartbeats 4000000 in
set_option maxRecDepth 100000 in
theorem c_X3_swap (l : Launch) (hll : l.stackTraces = false) (K : tK) (post : Int32 → tG → Prop) (v0 : Option Nat) (v1 : Int32) (v2 : Int32) (v3 : Int32) : Ct l yX3_swap wz_X3_swap ({ frames := 3, cells := 0, slots := 0, locals := 65 } : Room) 0 0 [va_rf v0, .int v1, .int v2, .int v3] K (retI post) (fun G => w_X3_swap K post v0 v1 v2 v3 G) := by
  refine tc_of (cc := cX3_swap) (maxL := 6) (ret := (some .int)) (own := RX3) (plainFor_of_name (by decide)) rfl rfl hll [.inr (.inr v0), .inl v1, .inl v2, .inl v3] rfl (Nat.le_of_ble_eq_true rfl) ?_
  intro p e s m args below meth c D A G ls C hr hn ht hl hW hS hw
  exact s_X3_swap C hr hll post v0 v1 v2 v3 _ _ _ _ hW hS hl hw

/-! J9_floorMod_7cf53 -/
def wz_J9_floorMod_7cf53 : List Cond := Cond.code yJ9_floorMod_7cf53 cJ9_floorMod_7cf53 3 (some .int) :: w0
section Z_J9_floorMod_7cf53
variable {p : Program} {l : Launch} {e : Env} {s : State} {m : MethodId} {args : Array Value} {below : List Frame} {meth : Method} {c : Code} {D : va_G} {A : Nat → Prop}
set_option maxHeartbeats 4000000 in
set_option maxRecDepth 100000 in
theorem s_J9_floorMod_7cf53_18 {K : tK} (C : tc_B p l s m args meth c D K A wz_J9_floorMod_7cf53 RJ9 cJ9_floorMod_7cf53 3) (hr : meth.sig.returnType = (some .int)) (hll : l.stackTraces = false)  (post : Int32 → tG → Prop) : ∀ (v2 : Int32) (G : tG) (H : Heap) (locs : List Loc) (ls : Array Slot), tg_W D A s H G → va_S A s.heap H locs → tl ls 3 [(2, .inl v2)] → w_J9_floorMod_7cf53_18 K post v2 G → W p l e ({ frames := 0, cells := 0, slots := 0, locals := 0 } : Room) s m args below meth c H locs 0 0 (MQ below (tc_Qc D A (retI post)) args s 0 0 A) (F0 m 18 ls []) := by
  intro v2 G H locs ls hW hS hl hw
  unfold w_J9_floorMod_7cf53_18 at hw
  refine tr_iload_n (k := 2) (x := v2) C hl 0 rfl dJ9_floorMod_7cf53_18 ?_
  exact tr_iret C hr dJ9_floorMod_7cf53_19 (Nat.le_of_ble_eq_true rfl) (Nat.le_of_ble_eq_true rfl) hW hS hw
set_option maxHeartbeats 4000000 in
set_option maxRecDepth 100000 in
theorem s_J9_floorMod_7cf53 {K : tK} (C : tc_B p l s m args meth c D K A wz_J9_floorMod_7cf53 RJ9 cJ9_floorMod_7cf53 3) (hr : meth.sig.returnType = (some .int)) (hll : l.stackTraces = false)  (post : Int32 → tG → Prop) (v0 : Int32) (v1 : Int32) : ∀ (G : tG) (H : Heap) (locs : List Loc) (ls : Array Slot), tg_W D A s H G → va_S A s.heap H locs → tl ls 3 [(0, .inl v0), (1, .inl v1)] → w_J9_floorMod_7cf53 K post v0 v1 G → W p l e ({ frames := 0, cells := 0, slots := 0, locals := 0 } : Room) s m args below meth c H locs 0 0 (MQ below (tc_Qc D A (retI post)) args s 0 0 A) (F0 m 0 ls []) := by
  intro G H locs ls hW hS hl hw
  unfold w_J9_floorMod_7cf53 at hw
  refine tr_iload_n (k := 0) (x := v0) C hl 0 rfl dJ9_floorMod_7cf53_0 ?_
  refine tr_iload_n (k := 1) (x := v1) C hl 1 rfl dJ9_floorMod_7cf53_1 ?_
  refine lv_irem C.1.1 C.1.2.1 dJ9_floorMod_7cf53_2 hw.1 ?_
  have hw := hw.2
  refine tr_istore_n (k := 2) (x := (v0 - v0 / v1 * v1)) C hl [(2, .inl (v0 - v0 / v1 * v1)), (0, .inl v0), (1, .inl v1)] (by decide) rfl dJ9_floorMod_7cf53_3 (fun ls hl => ?_)
  refine tr_iload_n (k := 0) (x := v0) C hl 1 rfl dJ9_floorMod_7cf53_4 ?_
  refine tr_iload_n (k := 1) (x := v1) C hl 2 rfl dJ9_floorMod_7cf53_5 ?_
  refine lv_ixor C.1.1 C.1.2.1 dJ9_floorMod_7cf53_6 ?_
  refine lv_if_ge (tgt := 18) C.1.1 C.1.2.1 dJ9_floorMod_7cf53_7 (by decide) (fun hc => ?_) (fun hc => ?_)
  · have hw := hw.1 hc
    exact s_J9_floorMod_7cf53_18 C hr hll post ((v0 - v0 / v1 * v1)) _ _ _ _ hW hS (tl_sub hl [0] rfl) hw
  · have hw := hw.2 hc
    refine tr_iload_n (k := 2) (x := (v0 - v0 / v1 * v1)) C hl 0 rfl dJ9_floorMod_7cf53_10 ?_
    refine lv_if_eq (tgt := 18) C.1.1 C.1.2.1 dJ9_floorMod_7cf53_11 (by decide) (fun hc => ?_) (fun hc => ?_)
    · have hw := hw.1 hc
      exact s_J9_floorMod_7cf53_18 C hr hll post ((v0 - v0 / v1 * v1)) _ _ _ _ hW hS (tl_sub hl [0] rfl) hw
    · have hw := hw.2 hc
      refine tr_iload_n (k := 2) (x := (v0 - v0 / v1 * v1)) C hl 0 rfl dJ9_floorMod_7cf53_14 ?_
      refine tr_iload_n (k := 1) (x := v1) C hl 2 rfl dJ9_floorMod_7cf53_15 ?_
      refine lv_iadd C.1.1 C.1.2.1 dJ9_floorMod_7cf53_16 ?_
      exact tr_iret C hr dJ9_floorMod_7cf53_17 (Nat.le_of_ble_eq_true rfl) (Nat.le_of_ble_eq_true rfl) hW hS hw
end Z_J9_floorMod_7cf53
set_option maxHeartbeats 4000000 in
set_option maxRecDepth 100000 in
theorem c_J9_floorMod_7cf53 (l : Launch) (hll : l.stackTraces = false) (K : tK) (post : Int32 → tG → Prop) (v0 : Int32) (v1 : Int32) : Ct l yJ9_floorMod_7cf53 wz_J9_floorMod_7cf53 ({ frames := 0, cells := 0, slots := 0, locals := 0 } : Room) 0 0 [.int v0, .int v1] K (retI post) (fun G => w_J9_floorMod_7cf53 K post v0 v1 G) := by
  refine tc_of (cc := cJ9_floorMod_7cf53) (maxL := 3) (ret := (some .int)) (own := RJ9) (by decide +kernel) rfl rfl hll [.inl v0, .inl v1] rfl (Nat.le_of_ble_eq_true rfl) ?_
  intro p e s m args below meth c D A G ls C hr hn ht hl hW hS hw
  exact s_J9_floorMod_7cf53 C hr hll post v0 v1 _ _ _ _ hW hS hl hw

/-! X1_turn -/
def wz_X1_turn : List Cond := Cond.code yX1_turn cX1_turn 5 none :: w0
section Z_X1_turn
variable {p : Program} {l : Launch} {e : Env} {s : State} {m : MethodId} {args : Array Value} {below : List Frame} {meth : Method} {c : Code} {D : va_G} {A : Nat → Prop}
set_option maxHeartbeats 4000000 in
set_option maxRecDepth 100000 in
theorem s_X1_turn_7_b {K : tK} (C : tc_B p l s m args meth c D K A wz_X1_turn RX1 cX1_turn 5) (hr : meth.sig.returnType = none) (hll : l.stackTraces = false)  (post : tG → Prop) (k7 : Option Nat → Int32 → Int32 → tG → Prop) (hk7 : ∀ (v0 : Option Nat) (v3 : Int32) (v4 : Int32) (G : tG) (H : Heap) (locs : List Loc) (ls : Array Slot), tg_W D A s H G → va_S A s.heap H locs → tl ls 5 [(0, .inr (.inr v0)), (3, .inl v3), (4, .inl v4)] → k7 v0 v3 v4 G → W p l e ({ frames := 3, cells := 0, slots := 0, locals := 68 } : Room) s m args below meth c H locs 0 0 (MQ below (tc_Qc D A (retV post)) args s 0 0 A) (F0 m 7 ls [])) : ∀ (v0 : Option Nat) (v3 : Int32) (v4 : Int32) (G : tG) (H : Heap) (locs : List Loc) (ls : Array Slot), tg_W D A s H G → va_S A s.heap H locs → tl ls 5 [(0, .inr (.inr v0)), (3, .inl v3), (4, .inl v4)] → w_X1_turn_7_b K post k7 v0 v3 v4 G → W p l e ({ frames := 3, cells := 0, slots := 0, locals := 68 } : Room) s m args below meth c H locs 0 0 (MQ below (tc_Qc D A (retV post)) args s 0 0 A) (F0 m 7 ls []) := by
  intro v0 v3 v4 G H locs ls hW hS hl hw
  unfold w_X1_turn_7_b at hw
  refine tr_iload (x := v4) C hl 2 rfl dX1_turn_7 ?_
  refine tr_iload_n (k := 3) (x := v3) C hl 1 rfl dX1_turn_9 ?_
  refine lv_icmp_ge (tgt := 29) C.1.1 C.1.2.1 dX1_turn_10 (by decide) (fun hc => ?_) (fun hc => ?_)
  · have hw := hw.1 hc
    exact tr_vret C hr dX1_turn_29 (Nat.le_of_ble_eq_true rfl) (Nat.le_of_ble_eq_true rfl) hW hS hw
  · have hw := hw.2 hc
    refine tr_aload_n (k := 0) (x := v0) C hl 0 rfl dX1_turn_13 ?_
    refine tr_iload (x := v4) C hl 2 rfl dX1_turn_14 ?_
    refine tr_iload_n (k := 3) (x := v3) C hl 1 rfl dX1_turn_16 ?_
    refine tr_backV (tr_runV (r := v0) (As := [.int v4, .int v3]) C hl.1 (c_X0_exchange l hll K _ v0 v4 v3) (cwV 2 C.1.2.2.2.2 (gi_V (zm kw_300) (zm kw_301) (zm kw_302) (zm kw_10) (zm kw_299)) rfl rfl rfl (by decide +kernel) ⟨(Nat.le_of_ble_eq_true rfl), (Nat.le_of_ble_eq_true rfl)⟩) rfl rfl dX1_turn_17 ⟨(Nat.le_of_ble_eq_true rfl), (Nat.le_of_ble_eq_true rfl)⟩ [] rfl (Nat.le_of_ble_eq_true rfl) rfl hW hS hw) hS (fun G_17 H locs hw hW hS => ?_)
    refine tr_iinc C hl 1 (v3 + (-1 : Int32)) [(3, .inl (v3 + (-1 : Int32))), (0, .inr (.inr v0)), (4, .inl v4)] rfl (congrArg (fun z => v3 + z) (show Int32.ofInt (-1) = (-1 : Int32) by decide)) (by decide) rfl dX1_turn_20 (fun ls hl => ?_)
    refine tr_iinc C hl 2 (v4 + (1 : Int32)) [(4, .inl (v4 + (1 : Int32))), (3, .inl (v3 + (-1 : Int32))), (0, .inr (.inr v0))] rfl rfl (by decide) rfl dX1_turn_23 (fun ls hl => ?_)
    refine lv_goto (tgt := 7) C.1.1 C.1.2.1 dX1_turn_26 (by decide) ?_
    exact hk7 v0 ((v3 + (-1 : Int32))) ((v4 + (1 : Int32))) _ _ _ _ hW hS (tl_sub hl [2, 1, 0] rfl) hw
set_option maxHeartbeats 4000000 in
set_option maxRecDepth 100000 in
theorem s_X1_turn_7 {K : tK} (C : tc_B p l s m args meth c D K A wz_X1_turn RX1 cX1_turn 5) (hr : meth.sig.returnType = none) (hll : l.stackTraces = false)  (post : tG → Prop) : ∀ (n : Nat) (v0 : Option Nat) (v3 : Int32) (v4 : Int32) (G : tG) (H : Heap) (locs : List Loc) (ls : Array Slot), tg_W D A s H G → va_S A s.heap H locs → tl ls 5 [(0, .inr (.inr v0)), (3, .inl v3), (4, .inl v4)] → w_X1_turn_7 K post n v0 v3 v4 G → W p l e ({ frames := 3, cells := 0, slots := 0, locals := 68 } : Room) s m args below meth c H locs 0 0 (MQ below (tc_Qc D A (retV post)) args s 0 0 A) (F0 m 7 ls []) := by
  intro n
  induction n with
  | zero =>
    intro v0 v3 v4 G H locs ls hW hS hl hw
    exact hw.elim
  | succ n ih => exact s_X1_turn_7_b C hr hll post _ ih
set_option maxHeartbeats 4000000 in
set_option maxRecDepth 100000 in
theorem s_X1_turn {K : tK} (C : tc_B p l s m args meth c D K A wz_X1_turn RX1 cX1_turn 5) (hr : meth.sig.returnType = none) (hll : l.stackTraces = false)  (post : tG → Prop) (v0 : Option Nat) (v1 : Int32) (v2 : Int32) : ∀ (G : tG) (H : Heap) (locs : List Loc) (ls : Array Slot), tg_W D A s H G → va_S A s.heap H locs → tl ls 5 [(0, .inr (.inr v0)), (1, .inl v1), (2, .inl v2)] → w_X1_turn K post v0 v1 v2 G → W p l e ({ frames := 3, cells := 0, slots := 0, locals := 68 } : Room) s m args below meth c H locs 0 0 (MQ below (tc_Qc D A (retV post)) args s 0 0 A) (F0 m 0 ls []) := by
  intro G H locs ls hW hS hl hw
  unfold w_X1_turn at hw
  refine tr_iload_n (k := 2) (x := v2) C hl 2 rfl dX1_turn_0 ?_
  refine lv_iconst (v := (1 : Int32)) C.1.1 C.1.2.1 dX1_turn_1 (by decide) ?_
  refine lv_isub C.1.1 C.1.2.1 dX1_turn_2 ?_
  refine tr_istore_n (k := 3) (x := (v2 - (1 : Int32))) C hl [(3, .inl (v2 - (1 : Int32))), (0, .inr (.inr v0)), (1, .inl v1), (2, .inl v2)] (by decide) rfl dX1_turn_3 (fun ls hl => ?_)
  refine tr_iload_n (k := 1) (x := v1) C hl 2 rfl dX1_turn_4 ?_
  refine tr_istore (x := v1) C hl [(4, .inl v1), (3, .inl (v2 - (1 : Int32))), (0, .inr (.inr v0)), (1, .inl v1), (2, .inl v2)] (by decide) rfl dX1_turn_5 (fun ls hl => ?_)
  obtain ⟨n7, hw⟩ := hw
  exact s_X1_turn_7 C hr hll post n7 v0 ((v2 - (1 : Int32))) v1 _ _ _ _ hW hS (tl_sub hl [2, 1, 0] rfl) hw
end Z_X1_turn
set_option maxHeartbeats 4000000 in
set_option maxRecDepth 100000 in
theorem c_X1_turn (l : Launch) (hll : l.stackTraces = false) (K : tK) (post : tG → Prop) (v0 : Option Nat) (v1 : Int32) (v2 : Int32) : Ct l yX1_turn wz_X1_turn ({ frames := 3, cells := 0, slots := 0, locals := 68 } : Room) 0 0 [va_rf v0, .int v1, .int v2] K (retV post) (fun G => w_X1_turn K post v0 v1 v2 G) := by
  refine tc_of (cc := cX1_turn) (maxL := 5) (ret := none) (own := RX1) (plainFor_of_name (by decide)) rfl rfl hll [.inr (.inr v0), .inl v1, .inl v2] rfl (Nat.le_of_ble_eq_true rfl) ?_
  intro p e s m args below meth c D A G ls C hr hn ht hl hW hS hw
  exact s_X1_turn C hr hll post v0 v1 v2 _ _ _ _ hW hS hl hw

/-! X1_rotate -/
def wz_X1_rotate : List Cond := Cond.code yX1_rotate cX1_rotate 5 (some .int) :: w0
section Z_X1_rotate
variable {p : Program} {l : Launch} {e : Env} {s : State} {m : MethodId} {args : Array Value} {below : List Frame} {meth : Method} {c : Code} {D : va_G} {A : Nat → Prop}
set_option maxHeartbeats 4000000 in
set_option maxRecDepth 100000 in
theorem s_X1_rotate_57 {K : tK} (C : tc_B p l s m args meth c D K A wz_X1_rotate RX1 cX1_rotate 5) (hr : meth.sig.returnType = (some .int)) (ht : ∀ x ∈ c.exceptionTable.toList, False) (hll : l.stackTraces = false)  (post : Int32 → tG → Prop) (postX : String → tG → Prop) : ∀ (v3 : Option Nat) (G : tG) (H : Heap) (locs : List Loc) (ls : Array Slot), tg_W D A s H G → va_S A s.heap H locs → tl ls 5 [(3, .inr (.inr v3))] → w_X1_rotate_57 K post postX v3 G → W p l e ({ frames := 7, cells := 2, slots := 12, locals := 104 } : Room) s m args below meth c H locs 2 12 (vx_MQ below (tc_Qc D A (retI post)) (tc_XC D A postX) args s 2 12 A) (F0 m 57 ls []) := by
  intro v3 G H locs ls hW hS hl hw
  unfold w_X1_rotate_57 at hw
  refine tr_aload_n (k := 3) (x := v3) C hl 0 rfl dX1_rotate_57 ?_
  refine tr_gfI (C0 := RX0) (T := TX0) (N := 4) (ci := 2) (ref := "Twinrow$RowList") (k := 3) (r := v3) C (zh hw_X0) rfl (by decide) (zm kw_34) rfl dX1_rotate_58 hW hw (fun x_58 hw => ?_)
  exact vx_ret (tr_iret C hr dX1_rotate_61 (Nat.le_of_ble_eq_true rfl) (Nat.le_of_ble_eq_true rfl) hW hS hw)
set_option maxHeartbeats 4000000 in
set_option maxRecDepth 100000 in
theorem s_X1_rotate {K : tK} (C : tc_B p l s m args meth c D K A wz_X1_rotate RX1 cX1_rotate 5) (hr : meth.sig.returnType = (some .int)) (ht : ∀ x ∈ c.exceptionTable.toList, False) (hll : l.stackTraces = false)  (post : Int32 → tG → Prop) (postX : String → tG → Prop) (v0 : Option Nat) (v1 : Int32) (v2 : Int32) : ∀ (G : tG) (H : Heap) (locs : List Loc) (ls : Array Slot), tg_W D A s H G → va_S A s.heap H locs → tl ls 5 [(0, .inr (.inr v0)), (1, .inl v1), (2, .inl v2)] → w_X1_rotate K post postX v0 v1 v2 G → W p l e ({ frames := 7, cells := 2, slots := 12, locals := 104 } : Room) s m args below meth c H locs 0 0 (vx_MQ below (tc_Qc D A (retI post)) (tc_XC D A postX) args s 2 12 A) (F0 m 0 ls []) := by
  intro G H locs ls hW hS hl hw
  unfold w_X1_rotate at hw
  refine tr_aload_n (k := 0) (x := v0) C hl 0 rfl dX1_rotate_0 ?_
  refine tr_iload_n (k := 1) (x := v1) C hl 1 rfl dX1_rotate_1 ?_
  refine tx_backR (tx_runV (r := v0) (As := [.int v1]) C hl.1 (c_X1_listAt l hll K _ _ v0 v1) (cwV 1 C.1.2.2.2.2 (gi_V (zm kw_94) (zm kw_95) (zm kw_96) (zm kw_33) (zm kw_93)) rfl rfl rfl (by decide +kernel) ⟨(Nat.le_of_ble_eq_true rfl), (Nat.le_of_ble_eq_true rfl)⟩) rfl rfl dX1_rotate_2 ⟨(Nat.le_of_ble_eq_true rfl), (Nat.le_of_ble_eq_true rfl)⟩ [] rfl (Nat.le_of_ble_eq_true rfl) rfl hW hS hw) hS C.2.1 ht (Nat.le_of_ble_eq_true rfl) (Nat.le_of_ble_eq_true rfl) (fun x_2 G_2 H locs hw hW hS => ?_)
  refine tr_astore_n (k := 3) (x := x_2) C hl [(3, .inr (.inr x_2)), (0, .inr (.inr v0)), (1, .inl v1), (2, .inl v2)] (by decide) rfl dX1_rotate_5 (fun ls hl => ?_)
  refine tr_iload_n (k := 2) (x := v2) C hl 3 rfl dX1_rotate_6 ?_
  refine lv_bipush (v := (-99 : Int32)) C.1.1 C.1.2.1 dX1_rotate_7 (by decide) ?_
  refine lv_bipush (v := (99 : Int32)) C.1.1 C.1.2.1 dX1_rotate_9 (by decide) ?_
  refine tx_backV (tx_runS (As := [.int v2, .int ((-99 : Int32)), .int ((99 : Int32))]) C hl.1 (c_X1_checkNumber l hll K _ _ v2 ((-99 : Int32)) ((99 : Int32))) (va_cwS 3 C.1.2.2.2.2 (gi_S (zm kw_89) (zm kw_90) (zm kw_33) (zm kw_88)) rfl rfl rfl (by decide +kernel) ⟨(Nat.le_of_ble_eq_true rfl), (Nat.le_of_ble_eq_true rfl)⟩) rfl dX1_rotate_11 ⟨(Nat.le_of_ble_eq_true rfl), (Nat.le_of_ble_eq_true rfl)⟩ [] rfl (Nat.le_of_ble_eq_true rfl) rfl hW hS hw) hS C.2.1 ht (Nat.le_of_ble_eq_true rfl) (Nat.le_of_ble_eq_true rfl) (fun G_11 H locs hw hW hS => ?_)
  refine tr_aload_n (k := 3) (x := x_2) C hl 0 rfl dX1_rotate_14 ?_
  refine tr_gfI (C0 := RX0) (T := TX0) (N := 4) (ci := 2) (ref := "Twinrow$RowList") (k := 3) (r := x_2) C (zh hw_X0) rfl (by decide) (zm kw_34) rfl dX1_rotate_15 hW hw (fun x_15 hw => ?_)
  refine lv_if_le (tgt := 57) C.1.1 C.1.2.1 dX1_rotate_18 (by decide) (fun hc => ?_) (fun hc => ?_)
  · have hw := hw.1 hc
    exact s_X1_rotate_57 C hr ht hll post postX x_2 _ _ _ _ hW hS (tl_sub hl [0] rfl) hw
  · have hw := hw.2 hc
    refine tr_iload_n (k := 2) (x := v2) C hl 3 rfl dX1_rotate_21 ?_
    refine tr_aload_n (k := 3) (x := x_2) C hl 0 rfl dX1_rotate_22 ?_
    refine tr_gfI (C0 := RX0) (T := TX0) (N := 4) (ci := 2) (ref := "Twinrow$RowList") (k := 3) (r := x_2) C (zh hw_X0) rfl (by decide) (zm kw_34) rfl dX1_rotate_23 hW hw (fun x_23 hw => ?_)
    refine tr_backI (tr_runS (As := [.int v2, .int x_23]) C hl.1 (c_J9_floorMod_7cf53 l hll K _ v2 x_23) (va_cwS 2 C.1.2.2.2.2 (gi_S (zm kw_312) (zm kw_313) (zm kw_314) (zm kw_311)) rfl rfl rfl (by decide +kernel) ⟨(Nat.le_of_ble_eq_true rfl), (Nat.le_of_ble_eq_true rfl)⟩) rfl dX1_rotate_26 ⟨(Nat.le_of_ble_eq_true rfl), (Nat.le_of_ble_eq_true rfl)⟩ [] rfl (Nat.le_of_ble_eq_true rfl) rfl hW hS hw) hS (fun x_26 G_26 H locs hw hW hS => ?_)
    refine tr_istore (x := x_26) C hl [(4, .inl x_26), (3, .inr (.inr x_2)), (0, .inr (.inr v0)), (1, .inl v1), (2, .inl v2)] (by decide) rfl dX1_rotate_29 (fun ls hl => ?_)
    refine tr_aload_n (k := 3) (x := x_2) C hl 1 rfl dX1_rotate_31 ?_
    refine lv_iconst (v := (0 : Int32)) C.1.1 C.1.2.1 dX1_rotate_32 (by decide) ?_
    refine tr_aload_n (k := 3) (x := x_2) C hl 1 rfl dX1_rotate_33 ?_
    refine tr_gfI (C0 := RX0) (T := TX0) (N := 4) (ci := 2) (ref := "Twinrow$RowList") (k := 3) (r := x_2) C (zh hw_X0) rfl (by decide) (zm kw_34) rfl dX1_rotate_34 hW hw (fun x_34 hw => ?_)
    refine tr_backV (tr_runS (As := [va_rf x_2, .int ((0 : Int32)), .int x_34]) C hl.1 (c_X1_turn l hll K _ x_2 ((0 : Int32)) x_34) (va_cwS 3 C.1.2.2.2.2 (gi_S (zm kw_316) (zm kw_317) (zm kw_33) (zm kw_315)) rfl rfl rfl (by decide +kernel) ⟨(Nat.le_of_ble_eq_true rfl), (Nat.le_of_ble_eq_true rfl)⟩) rfl dX1_rotate_37 ⟨(Nat.le_of_ble_eq_true rfl), (Nat.le_of_ble_eq_true rfl)⟩ [] rfl (Nat.le_of_ble_eq_true rfl) rfl hW hS hw) hS (fun G_37 H locs hw hW hS => ?_)
    refine tr_aload_n (k := 3) (x := x_2) C hl 1 rfl dX1_rotate_40 ?_
    refine lv_iconst (v := (0 : Int32)) C.1.1 C.1.2.1 dX1_rotate_41 (by decide) ?_
    refine tr_iload (x := x_26) C hl 0 rfl dX1_rotate_42 ?_
    refine tr_backV (tr_runS (As := [va_rf x_2, .int ((0 : Int32)), .int x_26]) C hl.1 (c_X1_turn l hll K _ x_2 ((0 : Int32)) x_26) (va_cwS 3 C.1.2.2.2.2 (gi_S (zm kw_316) (zm kw_317) (zm kw_33) (zm kw_315)) rfl rfl rfl (by decide +kernel) ⟨(Nat.le_of_ble_eq_true rfl), (Nat.le_of_ble_eq_true rfl)⟩) rfl dX1_rotate_44 ⟨(Nat.le_of_ble_eq_true rfl), (Nat.le_of_ble_eq_true rfl)⟩ [] rfl (Nat.le_of_ble_eq_true rfl) rfl hW hS hw) hS (fun G_44 H locs hw hW hS => ?_)
    refine tr_aload_n (k := 3) (x := x_2) C hl 1 rfl dX1_rotate_47 ?_
    refine tr_iload (x := x_26) C hl 0 rfl dX1_rotate_48 ?_
    refine tr_aload_n (k := 3) (x := x_2) C hl 1 rfl dX1_rotate_50 ?_
    refine tr_gfI (C0 := RX0) (T := TX0) (N := 4) (ci := 2) (ref := "Twinrow$RowList") (k := 3) (r := x_2) C (zh hw_X0) rfl (by decide) (zm kw_34) rfl dX1_rotate_51 hW hw (fun x_51 hw => ?_)
    refine tr_backV (tr_runS (As := [va_rf x_2, .int x_26, .int x_51]) C hl.1 (c_X1_turn l hll K _ x_2 x_26 x_51) (va_cwS 3 C.1.2.2.2.2 (gi_S (zm kw_316) (zm kw_317) (zm kw_33) (zm kw_315)) rfl rfl rfl (by decide +kernel) ⟨(Nat.le_of_ble_eq_true rfl), (Nat.le_of_ble_eq_true rfl)⟩) rfl dX1_rotate_54 ⟨(Nat.le_of_ble_eq_true rfl), (Nat.le_of_ble_eq_true rfl)⟩ [] rfl (Nat.le_of_ble_eq_true rfl) rfl hW hS hw) hS (fun G_54 H locs hw hW hS => ?_)
    exact s_X1_rotate_57 C hr ht hll post postX x_2 _ _ _ _ hW hS (tl_sub hl [1] rfl) hw
end Z_X1_rotate
set_option maxHeartbeats 4000000 in
set_option maxRecDepth 100000 in
theorem c_X1_rotate (l : Launch) (hll : l.stackTraces = false) (K : tK) (post : Int32 → tG → Prop) (postX : String → tG → Prop) (v0 : Option Nat) (v1 : Int32) (v2 : Int32) : Cx l yX1_rotate wz_X1_rotate ({ frames := 7, cells := 2, slots := 12, locals := 104 } : Room) 2 12 [va_rf v0, .int v1, .int v2] K (retI post) postX (fun G => w_X1_rotate K post postX v0 v1 v2 G) := by
  refine tx_of (cc := cX1_rotate) (maxL := 5) (ret := (some .int)) (own := RX1) (by decide) rfl rfl hll [.inr (.inr v0), .inl v1, .inl v2] rfl (Nat.le_of_ble_eq_true rfl) ?_
  intro p e s m args below meth c D A G ls C hr hn ht hl hW hS hw
  exact s_X1_rotate C hr ht hll post postX v0 v1 v2 _ _ _ _ hW hS hl hw

/-! L_rotate -/
def wz_L_rotate : List Cond := Cond.codeWith yL_rotate cL_rotate 5 (some .int) [(0, 11, 14, 19), (0, 11, 18, 21)] :: w0
section Z_L_rotate
variable {p : Program} {l : Launch} {e : Env} {s : State} {m : MethodId} {args : Array Value} {below : List Frame} {meth : Method} {c : Code} {D : va_G} {A : Nat → Prop}
set_option maxHeartbeats 4000000 in
set_option maxRecDepth 100000 in
theorem s_L_rotate {K : tK} (C : tc_B p l s m args meth c D K A wz_L_rotate RL cL_rotate 5) (hr : meth.sig.returnType = (some .int)) (htab : c.exceptionTable.toList = tableOf [(0, 11, 14, 19), (0, 11, 18, 21)]) (hcC : kx_C s) (hll : l.stackTraces = false)  (post : Int32 → tG → Prop) (v0 : Option Nat) (v1 : Int32) (v2 : Int32) (v3 : Option Nat) : ∀ (G : tG) (H : Heap) (locs : List Loc) (ls : Array Slot), tg_W D A s H G → va_S A s.heap H locs → tl ls 5 [(0, .inr (.inr v0)), (1, .inl v1), (2, .inl v2), (3, .inr (.inr v3))] → w_L_rotate K post v0 v1 v2 v3 G → W p l e ({ frames := 8, cells := 2, slots := 12, locals := 128 } : Room) s m args below meth c H locs 0 0 (vx_MQ below (tc_Qc D A (retI post)) (tc_XC D A (fun _ _ => False)) args s 2 12 A) (F0 m 0 ls []) := by
  intro G H locs ls hW hS hl hw
  unfold w_L_rotate at hw
  refine tr_aload_n (k := 3) (x := v3) C hl 3 rfl dL_rotate_0 ?_
  refine tr_aload_n (k := 0) (x := v0) C hl 0 rfl dL_rotate_1 ?_
  refine tr_iload_n (k := 1) (x := v1) C hl 1 rfl dL_rotate_2 ?_
  refine tr_iload_n (k := 2) (x := v2) C hl 2 rfl dL_rotate_3 ?_
  refine tx_backCI (tx_runV (r := v0) (As := [.int v1, .int v2]) C hl.1 (c_X1_rotate l hll K _ _ v0 v1 v2) (cwV 2 C.1.2.2.2.2 (gi_V (zm kw_319) (zm kw_320) (zm kw_321) (zm kw_33) (zm kw_318)) rfl rfl rfl (by decide +kernel) ⟨(Nat.le_of_ble_eq_true rfl), (Nat.le_of_ble_eq_true rfl)⟩) rfl rfl dL_rotate_4 ⟨(Nat.le_of_ble_eq_true rfl), (Nat.le_of_ble_eq_true rfl)⟩ [.inr (.inr v3)] rfl (Nat.le_of_ble_eq_true rfl) rfl hW hS hw) hS (fun E ce q9 GX H locs hw hW hS hce hcv hcl => ?_) (fun x_4 G_4 H locs hw hW hS => ?_)
  · by_cases hq0 : E = "java/lang/IndexOutOfBoundsException"
    · replace hw := hw.1 hq0
      subst hq0
      refine vx_catch (name := "java/lang/IndexOutOfBoundsException") C.1.2.2.2.1 [] (⟨0, 11, 14, 19⟩ : ExceptionTableEntry) [(⟨0, 11, 18, 21⟩ : ExceptionTableEntry)] (by rw [htab]; rfl) (fun z hz => nomatch hz) (by decide) (by decide) (C.1.2.2.2.2 _ (zm kw_209)) hcC.2.2.1 hce hcv hcl ?_
      refine tr_astore (x := (some q9)) C hl [(4, .inr (.inr (some q9))), (0, .inr (.inr v0)), (1, .inl v1), (2, .inl v2), (3, .inr (.inr v3))] (by decide) rfl dL_rotate_14 (fun ls hl => ?_)
      refine lv_iconst (v := (1 : Int32)) C.1.1 C.1.2.1 dL_rotate_16 (by decide) ?_
      exact vx_ret (tr_iret C hr dL_rotate_17 (Nat.le_of_ble_eq_true rfl) (Nat.le_of_ble_eq_true rfl) hW hS hw)
    replace hw := hw.2 hq0
    by_cases hq1 : E = "java/lang/IllegalArgumentException"
    · replace hw := hw.1 hq1
      subst hq1
      refine vx_catch (name := "java/lang/IllegalArgumentException") C.1.2.2.2.1 [(⟨0, 11, 14, 19⟩ : ExceptionTableEntry)] (⟨0, 11, 18, 21⟩ : ExceptionTableEntry) [] (by rw [htab]; rfl) (kx_pass1 C hcC rfl (by decide) (zm kw_209)) (by decide) (by decide) (C.1.2.2.2.2 _ (zm kw_188)) hcC.2.2.2.1 hce hcv hcl ?_
      refine tr_astore (x := (some q9)) C hl [(4, .inr (.inr (some q9))), (0, .inr (.inr v0)), (1, .inl v1), (2, .inl v2), (3, .inr (.inr v3))] (by decide) rfl dL_rotate_18 (fun ls hl => ?_)
      refine lv_iconst (v := (2 : Int32)) C.1.1 C.1.2.1 dL_rotate_20 (by decide) ?_
      exact vx_ret (tr_iret C hr dL_rotate_21 (Nat.le_of_ble_eq_true rfl) (Nat.le_of_ble_eq_true rfl) hW hS hw)
    replace hw := hw.2 hq1
    exact hw.elim
  · refine lv_i2l (v := ((x_4).toInt64)) C.1.1 C.1.2.1 dL_rotate_7 rfl ?_
    refine tr_pfN (C0 := RX2) (T := TX2) (N := 2) (ci := 4) (ref := "TwinrowLaw$Out") (host := "TwinrowLaw") (k := 0) (ty := .long) (v := .long (((x_4).toInt64))) (r := v3) C (zh hw_X2) tyX2 tyX2_ok nmX2 rfl (by decide) hcC.1 rfl rfl (by decide +kernel) rfl rfl dL_rotate_8 hW hS hw (fun G_8 H locs hw hW hS => ?_)
    refine lv_goto (tgt := 22) C.1.1 C.1.2.1 dL_rotate_11 (by decide) ?_
    refine lv_iconst (v := (0 : Int32)) C.1.1 C.1.2.1 dL_rotate_22 (by decide) ?_
    exact vx_ret (tr_iret C hr dL_rotate_23 (Nat.le_of_ble_eq_true rfl) (Nat.le_of_ble_eq_true rfl) hW hS hw)
end Z_L_rotate
set_option maxHeartbeats 4000000 in
set_option maxRecDepth 100000 in
theorem c_L_rotate (l : Launch) (hll : l.stackTraces = false) (K : tK) (post : Int32 → tG → Prop) (v0 : Option Nat) (v1 : Int32) (v2 : Int32) (v3 : Option Nat) : Cx l yL_rotate wz_L_rotate ({ frames := 8, cells := 2, slots := 12, locals := 128 } : Room) 2 12 [va_rf v0, .int v1, .int v2, va_rf v3] K (retI post) (fun _ _ => False) (fun G => w_L_rotate K post v0 v1 v2 v3 G) := by
  refine tx_ofH (cc := cL_rotate) (maxL := 5) (ret := (some .int)) (own := RL) (hh := [(0, 11, 14, 19), (0, 11, 18, 21)]) (by decide) rfl rfl hll [.inr (.inr v0), .inl v1, .inl v2, .inr (.inr v3)] rfl (Nat.le_of_ble_eq_true rfl) ?_
  intro p e s m args below meth c D A G ls C hr htab hcC hl hW hS hw
  exact s_L_rotate C hr htab hcC hll post v0 v1 v2 v3 _ _ _ _ hW hS hl hw

/-! X3_rotate -/
def wz_X3_rotate : List Cond := Cond.code yX3_rotate cX3_rotate 5 (some .int) :: w0
section Z_X3_rotate
variable {p : Program} {l : Launch} {e : Env} {s : State} {m : MethodId} {args : Array Value} {below : List Frame} {meth : Method} {c : Code} {D : va_G} {A : Nat → Prop}
set_option maxHeartbeats 4000000 in
set_option maxRecDepth 100000 in
theorem s_X3_rotate_39_b {K : tK} (C : tc_B p l s m args meth c D K A wz_X3_rotate RX3 cX3_rotate 5) (hr : meth.sig.returnType = (some .int)) (hll : l.stackTraces = false)  (post : Int32 → tG → Prop) (k39 : Option Nat → Int32 → Int32 → Option Nat → Int32 → tG → Prop) (hk39 : ∀ (v0 : Option Nat) (v1 : Int32) (v2 : Int32) (v3 : Option Nat) (v4 : Int32) (G : tG) (H : Heap) (locs : List Loc) (ls : Array Slot), tg_W D A s H G → va_S A s.heap H locs → tl ls 5 [(0, .inr (.inr v0)), (1, .inl v1), (2, .inl v2), (3, .inr (.inr v3)), (4, .inl v4)] → k39 v0 v1 v2 v3 v4 G → W p l e ({ frames := 2, cells := 1, slots := 12, locals := 45 } : Room) s m args below meth c H locs 1 12 (MQ below (tc_Qc D A (retI post)) args s 1 12 A) (F0 m 39 ls [])) : ∀ (v0 : Option Nat) (v1 : Int32) (v2 : Int32) (v3 : Option Nat) (v4 : Int32) (G : tG) (H : Heap) (locs : List Loc) (ls : Array Slot), tg_W D A s H G → va_S A s.heap H locs → tl ls 5 [(0, .inr (.inr v0)), (1, .inl v1), (2, .inl v2), (3, .inr (.inr v3)), (4, .inl v4)] → w_X3_rotate_39_b K post k39 v0 v1 v2 v3 v4 G → W p l e ({ frames := 2, cells := 1, slots := 12, locals := 45 } : Room) s m args below meth c H locs 1 12 (MQ below (tc_Qc D A (retI post)) args s 1 12 A) (F0 m 39 ls []) := by
  intro v0 v1 v2 v3 v4 G H locs ls hW hS hl hw
  unfold w_X3_rotate_39_b at hw
  refine tr_iload (x := v4) C hl 4 rfl dX3_rotate_39 ?_
  refine tr_aload_n (k := 3) (x := v3) C hl 3 rfl dX3_rotate_41 ?_
  refine tr_len (r := v3) C dX3_rotate_42 hW hw (fun x_42 hw => ?_)
  refine lv_icmp_ge (tgt := 74) C.1.1 C.1.2.1 dX3_rotate_43 (by decide) (fun hc => ?_) (fun hc => ?_)
  · have hw := hw.1 hc
    refine tr_aload_n (k := 3) (x := v3) C hl 3 rfl dX3_rotate_74 ?_
    refine tr_len (r := v3) C dX3_rotate_75 hW hw (fun x_75 hw => ?_)
    exact tr_iret C hr dX3_rotate_76 (Nat.le_of_ble_eq_true rfl) (Nat.le_of_ble_eq_true rfl) hW hS hw
  · have hw := hw.2 hc
    refine tr_aload_n (k := 0) (x := v0) C hl 0 rfl dX3_rotate_46 ?_
    refine tr_iload_n (k := 1) (x := v1) C hl 1 rfl dX3_rotate_47 ?_
    refine tr_iload (x := v4) C hl 4 rfl dX3_rotate_48 ?_
    refine tr_iload_n (k := 2) (x := v2) C hl 2 rfl dX3_rotate_50 ?_
    refine lv_iadd C.1.1 C.1.2.1 dX3_rotate_51 ?_
    refine tr_aload_n (k := 3) (x := v3) C hl 3 rfl dX3_rotate_52 ?_
    refine tr_len (r := v3) C dX3_rotate_53 hW hw (fun x_53 hw => ?_)
    refine lv_irem C.1.1 C.1.2.1 dX3_rotate_54 hw.1 ?_
    have hw := hw.2
    refine tr_aload_n (k := 3) (x := v3) C hl 3 rfl dX3_rotate_55 ?_
    refine tr_len (r := v3) C dX3_rotate_56 hW hw (fun x_56 hw => ?_)
    refine lv_iadd C.1.1 C.1.2.1 dX3_rotate_57 ?_
    refine tr_aload_n (k := 3) (x := v3) C hl 3 rfl dX3_rotate_58 ?_
    refine tr_len (r := v3) C dX3_rotate_59 hW hw (fun x_59 hw => ?_)
    refine lv_irem C.1.1 C.1.2.1 dX3_rotate_60 hw.1 ?_
    have hw := hw.2
    refine tr_aload_n (k := 3) (x := v3) C hl 3 rfl dX3_rotate_61 ?_
    refine tr_iload (x := v4) C hl 4 rfl dX3_rotate_62 ?_
    refine tr_alI (r := v3) C dX3_rotate_64 hW hw (fun x_64 hw => ?_)
    refine tr_backV (tr_runV (r := v0) (As := [.int v1, .int (((((v4 + v2) - (v4 + v2) / x_53 * x_53) + x_56) - (((v4 + v2) - (v4 + v2) / x_53 * x_53) + x_56) / x_59 * x_59)), .int x_64]) C hl.1 (c_X3_write l hll K _ v0 v1 (((((v4 + v2) - (v4 + v2) / x_53 * x_53) + x_56) - (((v4 + v2) - (v4 + v2) / x_53 * x_53) + x_56) / x_59 * x_59)) x_64) (cwV 3 C.1.2.2.2.2 (gi_V (zm kw_308) (zm kw_309) (zm kw_310) (zm kw_155) (zm kw_307)) rfl rfl rfl (by decide +kernel) ⟨(Nat.le_of_ble_eq_true rfl), (Nat.le_of_ble_eq_true rfl)⟩) rfl rfl dX3_rotate_65 ⟨(Nat.le_of_ble_eq_true rfl), (Nat.le_of_ble_eq_true rfl)⟩ [] rfl (Nat.le_of_ble_eq_true rfl) rfl hW hS hw) hS (fun G_65 H locs hw hW hS => ?_)
    refine tr_iinc C hl 4 (v4 + (1 : Int32)) [(4, .inl (v4 + (1 : Int32))), (0, .inr (.inr v0)), (1, .inl v1), (2, .inl v2), (3, .inr (.inr v3))] rfl rfl (by decide) rfl dX3_rotate_68 (fun ls hl => ?_)
    refine lv_goto (tgt := 39) C.1.1 C.1.2.1 dX3_rotate_71 (by decide) ?_
    exact hk39 v0 v1 v2 v3 ((v4 + (1 : Int32))) _ _ _ _ hW hS (tl_sub hl [1, 2, 3, 4, 0] rfl) hw
set_option maxHeartbeats 4000000 in
set_option maxRecDepth 100000 in
theorem s_X3_rotate_39 {K : tK} (C : tc_B p l s m args meth c D K A wz_X3_rotate RX3 cX3_rotate 5) (hr : meth.sig.returnType = (some .int)) (hll : l.stackTraces = false)  (post : Int32 → tG → Prop) : ∀ (n : Nat) (v0 : Option Nat) (v1 : Int32) (v2 : Int32) (v3 : Option Nat) (v4 : Int32) (G : tG) (H : Heap) (locs : List Loc) (ls : Array Slot), tg_W D A s H G → va_S A s.heap H locs → tl ls 5 [(0, .inr (.inr v0)), (1, .inl v1), (2, .inl v2), (3, .inr (.inr v3)), (4, .inl v4)] → w_X3_rotate_39 K post n v0 v1 v2 v3 v4 G → W p l e ({ frames := 2, cells := 1, slots := 12, locals := 45 } : Room) s m args below meth c H locs 1 12 (MQ below (tc_Qc D A (retI post)) args s 1 12 A) (F0 m 39 ls []) := by
  intro n
  induction n with
  | zero =>
    intro v0 v1 v2 v3 v4 G H locs ls hW hS hl hw
    exact hw.elim
  | succ n ih => exact s_X3_rotate_39_b C hr hll post _ ih
set_option maxHeartbeats 4000000 in
set_option maxRecDepth 100000 in
theorem s_X3_rotate_22 {K : tK} (C : tc_B p l s m args meth c D K A wz_X3_rotate RX3 cX3_rotate 5) (hr : meth.sig.returnType = (some .int)) (hll : l.stackTraces = false)  (post : Int32 → tG → Prop) : ∀ (v0 : Option Nat) (v1 : Int32) (v2 : Int32) (u0 : Option Nat) (u1 : Int32) (u2 : Int32) (G : tG) (H : Heap) (locs : List Loc) (ls : Array Slot), tg_W D A s H G → va_S A s.heap H locs → tl ls 5 [(0, .inr (.inr v0)), (1, .inl v1), (2, .inl v2)] → w_X3_rotate_22 K post v0 v1 v2 u0 u1 u2 G → W p l e ({ frames := 2, cells := 1, slots := 12, locals := 45 } : Room) s m args below meth c H locs 0 0 (MQ below (tc_Qc D A (retI post)) args s 1 12 A) (F0 m 22 ls [.int u2, .int u1, va_rf u0]) := by
  intro v0 v1 v2 u0 u1 u2 G H locs ls hW hS hl hw
  unfold w_X3_rotate_22 at hw
  refine tr_backI (tr_runV (r := u0) (As := [.int u1, .int u2]) C hl.1 (c_X3_fails l hll K _ u0 u1 u2) (cwV 2 C.1.2.2.2.2 (gi_V (zm kw_190) (zm kw_191) (zm kw_192) (zm kw_155) (zm kw_189)) rfl rfl rfl (by decide +kernel) ⟨(Nat.le_of_ble_eq_true rfl), (Nat.le_of_ble_eq_true rfl)⟩) rfl rfl dX3_rotate_22 ⟨(Nat.le_of_ble_eq_true rfl), (Nat.le_of_ble_eq_true rfl)⟩ [] rfl (Nat.le_of_ble_eq_true rfl) rfl hW hS hw) hS (fun x_22 G_22 H locs hw hW hS => ?_)
  refine lv_if_eq (tgt := 30) C.1.1 C.1.2.1 dX3_rotate_25 (by decide) (fun hc => ?_) (fun hc => ?_)
  · have hw := hw.1 hc
    refine tr_aload_n (k := 0) (x := v0) C hl 0 rfl dX3_rotate_30 ?_
    refine tr_iload_n (k := 1) (x := v1) C hl 1 rfl dX3_rotate_31 ?_
    refine tr_backR (tr_runV (r := v0) (As := [.int v1]) C hl.1 (c_X3_all l hll K _ v0 v1) (cwV 1 C.1.2.2.2.2 (gi_V (zm kw_157) (zm kw_158) (zm kw_159) (zm kw_155) (zm kw_156)) rfl rfl rfl (by decide +kernel) ⟨(Nat.le_of_ble_eq_true rfl), (Nat.le_of_ble_eq_true rfl)⟩) rfl rfl dX3_rotate_32 ⟨(Nat.le_of_ble_eq_true rfl), (Nat.le_of_ble_eq_true rfl)⟩ [] rfl (Nat.le_of_ble_eq_true rfl) rfl hW hS hw) hS (fun x_32 G_32 H locs hw hW hS => ?_)
    refine tr_astore_n (k := 3) (x := x_32) C hl [(3, .inr (.inr x_32)), (0, .inr (.inr v0)), (1, .inl v1), (2, .inl v2)] (by decide) rfl dX3_rotate_35 (fun ls hl => ?_)
    refine lv_iconst (v := (0 : Int32)) C.1.1 C.1.2.1 dX3_rotate_36 (by decide) ?_
    refine tr_istore (x := (0 : Int32)) C hl [(4, .inl (0 : Int32)), (3, .inr (.inr x_32)), (0, .inr (.inr v0)), (1, .inl v1), (2, .inl v2)] (by decide) rfl dX3_rotate_37 (fun ls hl => ?_)
    obtain ⟨n39, hw⟩ := hw
    exact s_X3_rotate_39 C hr hll post n39 v0 v1 v2 x_32 ((0 : Int32)) _ _ _ _ hW hS (tl_sub hl [2, 3, 4, 1, 0] rfl) hw
  · have hw := hw.2 hc
    refine lv_iconst (v := (0 : Int32)) C.1.1 C.1.2.1 dX3_rotate_28 (by decide) ?_
    exact tr_iret C hr dX3_rotate_29 (Nat.le_of_ble_eq_true rfl) (Nat.le_of_ble_eq_true rfl) hW hS hw
set_option maxHeartbeats 4000000 in
set_option maxRecDepth 100000 in
theorem s_X3_rotate {K : tK} (C : tc_B p l s m args meth c D K A wz_X3_rotate RX3 cX3_rotate 5) (hr : meth.sig.returnType = (some .int)) (hll : l.stackTraces = false)  (post : Int32 → tG → Prop) (v0 : Option Nat) (v1 : Int32) (v2 : Int32) : ∀ (G : tG) (H : Heap) (locs : List Loc) (ls : Array Slot), tg_W D A s H G → va_S A s.heap H locs → tl ls 5 [(0, .inr (.inr v0)), (1, .inl v1), (2, .inl v2)] → w_X3_rotate K post v0 v1 v2 G → W p l e ({ frames := 2, cells := 1, slots := 12, locals := 45 } : Room) s m args below meth c H locs 0 0 (MQ below (tc_Qc D A (retI post)) args s 1 12 A) (F0 m 0 ls []) := by
  intro G H locs ls hW hS hl hw
  unfold w_X3_rotate at hw
  refine tr_aload_n (k := 0) (x := v0) C hl 0 rfl dX3_rotate_0 ?_
  refine tr_aload_n (k := 0) (x := v0) C hl 0 rfl dX3_rotate_1 ?_
  refine tr_iload_n (k := 1) (x := v1) C hl 1 rfl dX3_rotate_2 ?_
  refine tr_backI (tr_runV (r := v0) (As := [.int v1]) C hl.1 (c_X3_isNoList l hll K _ v0 v1) (cwV 1 C.1.2.2.2.2 (gi_V (zm kw_211) (zm kw_212) (zm kw_213) (zm kw_155) (zm kw_210)) rfl rfl rfl (by decide +kernel) ⟨(Nat.le_of_ble_eq_true rfl), (Nat.le_of_ble_eq_true rfl)⟩) rfl rfl dX3_rotate_3 ⟨(Nat.le_of_ble_eq_true rfl), (Nat.le_of_ble_eq_true rfl)⟩ [.inr (.inr v0)] rfl (Nat.le_of_ble_eq_true rfl) rfl hW hS hw) hS (fun x_3 G_3 H locs hw hW hS => ?_)
  refine tr_iload_n (k := 2) (x := v2) C hl 2 rfl dX3_rotate_6 ?_
  refine lv_bipush (v := (-99 : Int32)) C.1.1 C.1.2.1 dX3_rotate_7 (by decide) ?_
  refine lv_bipush (v := (99 : Int32)) C.1.1 C.1.2.1 dX3_rotate_9 (by decide) ?_
  refine tr_backI (tr_runS (As := [.int v2, .int ((-99 : Int32)), .int ((99 : Int32))]) C hl.1 (c_X3_isIn l hll K _ v2 ((-99 : Int32)) ((99 : Int32))) (va_cwS 3 C.1.2.2.2.2 (gi_S (zm kw_194) (zm kw_195) (zm kw_155) (zm kw_193)) rfl rfl rfl (by decide +kernel) ⟨(Nat.le_of_ble_eq_true rfl), (Nat.le_of_ble_eq_true rfl)⟩) rfl dX3_rotate_11 ⟨(Nat.le_of_ble_eq_true rfl), (Nat.le_of_ble_eq_true rfl)⟩ [.inl x_3, .inr (.inr v0)] rfl (Nat.le_of_ble_eq_true rfl) rfl hW hS hw) hS (fun x_11 G_11 H locs hw hW hS => ?_)
  refine lv_if_ne (tgt := 21) C.1.1 C.1.2.1 dX3_rotate_14 (by decide) (fun hc => ?_) (fun hc => ?_)
  · have hw := hw.1 hc
    refine lv_iconst (v := (0 : Int32)) C.1.1 C.1.2.1 dX3_rotate_21 (by decide) ?_
    exact s_X3_rotate_22 C hr hll post v0 v1 v2 v0 x_3 ((0 : Int32)) _ _ _ _ hW hS (tl_sub hl [0, 1, 2] rfl) hw
  · have hw := hw.2 hc
    refine lv_iconst (v := (1 : Int32)) C.1.1 C.1.2.1 dX3_rotate_17 (by decide) ?_
    refine lv_goto (tgt := 22) C.1.1 C.1.2.1 dX3_rotate_18 (by decide) ?_
    exact s_X3_rotate_22 C hr hll post v0 v1 v2 v0 x_3 ((1 : Int32)) _ _ _ _ hW hS (tl_sub hl [0, 1, 2] rfl) hw
end Z_X3_rotate
set_option maxHeartbeats 4000000 in
set_option maxRecDepth 100000 in
theorem c_X3_rotate (l : Launch) (hll : l.stackTraces = false) (K : tK) (post : Int32 → tG → Prop) (v0 : Option Nat) (v1 : Int32) (v2 : Int32) : Ct l yX3_rotate wz_X3_rotate ({ frames := 2, cells := 1, slots := 12, locals := 45 } : Room) 1 12 [va_rf v0, .int v1, .int v2] K (retI post) (fun G => w_X3_rotate K post v0 v1 v2 G) := by
  refine tc_of (cc := cX3_rotate) (maxL := 5) (ret := (some .int)) (own := RX3) (plainFor_of_name (by decide)) rfl rfl hll [.inr (.inr v0), .inl v1, .inl v2] rfl (Nat.le_of_ble_eq_true rfl) ?_
  intro p e s m args below meth c D A G ls C hr hn ht hl hW hS hw
  exact s_X3_rotate C hr hll post v0 v1 v2 _ _ _ _ hW hS hl hw

/-! X1_reverse -/
def wz_X1_reverse : List Cond := Cond.code yX1_reverse cX1_reverse 3 (some .int) :: w0
section Z_X1_reverse
variable {p : Program} {l : Launch} {e : Env} {s : State} {m : MethodId} {args : Array Value} {below : List Frame} {meth : Method} {c : Code} {D : va_G} {A : Nat → Prop}
set_option maxHeartbeats 4000000 in
set_option maxRecDepth 100000 in
theorem s_X1_reverse {K : tK} (C : tc_B p l s m args meth c D K A wz_X1_reverse RX1 cX1_reverse 3) (hr : meth.sig.returnType = (some .int)) (ht : ∀ x ∈ c.exceptionTable.toList, False) (hll : l.stackTraces = false)  (post : Int32 → tG → Prop) (postX : String → tG → Prop) (v0 : Option Nat) (v1 : Int32) : ∀ (G : tG) (H : Heap) (locs : List Loc) (ls : Array Slot), tg_W D A s H G → va_S A s.heap H locs → tl ls 3 [(0, .inr (.inr v0)), (1, .inl v1)] → w_X1_reverse K post postX v0 v1 G → W p l e ({ frames := 7, cells := 1, slots := 6, locals := 104 } : Room) s m args below meth c H locs 0 0 (vx_MQ below (tc_Qc D A (retI post)) (tc_XC D A postX) args s 1 6 A) (F0 m 0 ls []) := by
  intro G H locs ls hW hS hl hw
  unfold w_X1_reverse at hw
  refine tr_aload_n (k := 0) (x := v0) C hl 0 rfl dX1_reverse_0 ?_
  refine tr_iload_n (k := 1) (x := v1) C hl 1 rfl dX1_reverse_1 ?_
  refine tx_backR (tx_runV (r := v0) (As := [.int v1]) C hl.1 (c_X1_listAt l hll K _ _ v0 v1) (cwV 1 C.1.2.2.2.2 (gi_V (zm kw_94) (zm kw_95) (zm kw_96) (zm kw_33) (zm kw_93)) rfl rfl rfl (by decide +kernel) ⟨(Nat.le_of_ble_eq_true rfl), (Nat.le_of_ble_eq_true rfl)⟩) rfl rfl dX1_reverse_2 ⟨(Nat.le_of_ble_eq_true rfl), (Nat.le_of_ble_eq_true rfl)⟩ [] rfl (Nat.le_of_ble_eq_true rfl) rfl hW hS hw) hS C.2.1 ht (Nat.le_of_ble_eq_true rfl) (Nat.le_of_ble_eq_true rfl) (fun x_2 G_2 H locs hw hW hS => ?_)
  refine tr_astore_n (k := 2) (x := x_2) C hl [(2, .inr (.inr x_2)), (0, .inr (.inr v0)), (1, .inl v1)] (by decide) rfl dX1_reverse_5 (fun ls hl => ?_)
  refine tr_aload_n (k := 2) (x := x_2) C hl 0 rfl dX1_reverse_6 ?_
  refine lv_iconst (v := (0 : Int32)) C.1.1 C.1.2.1 dX1_reverse_7 (by decide) ?_
  refine tr_aload_n (k := 2) (x := x_2) C hl 0 rfl dX1_reverse_8 ?_
  refine tr_gfI (C0 := RX0) (T := TX0) (N := 4) (ci := 2) (ref := "Twinrow$RowList") (k := 3) (r := x_2) C (zh hw_X0) rfl (by decide) (zm kw_34) rfl dX1_reverse_9 hW hw (fun x_9 hw => ?_)
  refine tr_backV (tr_runS (As := [va_rf x_2, .int ((0 : Int32)), .int x_9]) C hl.1 (c_X1_turn l hll K _ x_2 ((0 : Int32)) x_9) (va_cwS 3 C.1.2.2.2.2 (gi_S (zm kw_316) (zm kw_317) (zm kw_33) (zm kw_315)) rfl rfl rfl (by decide +kernel) ⟨(Nat.le_of_ble_eq_true rfl), (Nat.le_of_ble_eq_true rfl)⟩) rfl dX1_reverse_12 ⟨(Nat.le_of_ble_eq_true rfl), (Nat.le_of_ble_eq_true rfl)⟩ [] rfl (Nat.le_of_ble_eq_true rfl) rfl hW hS hw) hS (fun G_12 H locs hw hW hS => ?_)
  refine tr_aload_n (k := 2) (x := x_2) C hl 0 rfl dX1_reverse_15 ?_
  refine tr_gfI (C0 := RX0) (T := TX0) (N := 4) (ci := 2) (ref := "Twinrow$RowList") (k := 3) (r := x_2) C (zh hw_X0) rfl (by decide) (zm kw_34) rfl dX1_reverse_16 hW hw (fun x_16 hw => ?_)
  exact vx_ret (tr_iret C hr dX1_reverse_19 (Nat.le_of_ble_eq_true rfl) (Nat.le_of_ble_eq_true rfl) hW hS hw)
end Z_X1_reverse
set_option maxHeartbeats 4000000 in
set_option maxRecDepth 100000 in
theorem c_X1_reverse (l : Launch) (hll : l.stackTraces = false) (K : tK) (post : Int32 → tG → Prop) (postX : String → tG → Prop) (v0 : Option Nat) (v1 : Int32) : Cx l yX1_reverse wz_X1_reverse ({ frames := 7, cells := 1, slots := 6, locals := 104 } : Room) 1 6 [va_rf v0, .int v1] K (retI post) postX (fun G => w_X1_reverse K post postX v0 v1 G) := by
  refine tx_of (cc := cX1_reverse) (maxL := 3) (ret := (some .int)) (own := RX1) (by decide) rfl rfl hll [.inr (.inr v0), .inl v1] rfl (Nat.le_of_ble_eq_true rfl) ?_
  intro p e s m args below meth c D A G ls C hr hn ht hl hW hS hw
  exact s_X1_reverse C hr ht hll post postX v0 v1 _ _ _ _ hW hS hl hw

/-! L_reverse -/
def wz_L_reverse : List Cond := Cond.codeWith yL_reverse cL_reverse 4 (some .int) [(0, 10, 13, 19)] :: w0
section Z_L_reverse
variable {p : Program} {l : Launch} {e : Env} {s : State} {m : MethodId} {args : Array Value} {below : List Frame} {meth : Method} {c : Code} {D : va_G} {A : Nat → Prop}
set_option maxHeartbeats 4000000 in
set_option maxRecDepth 100000 in
theorem s_L_reverse {K : tK} (C : tc_B p l s m args meth c D K A wz_L_reverse RL cL_reverse 4) (hr : meth.sig.returnType = (some .int)) (htab : c.exceptionTable.toList = tableOf [(0, 10, 13, 19)]) (hcC : kx_C s) (hll : l.stackTraces = false)  (post : Int32 → tG → Prop) (v0 : Option Nat) (v1 : Int32) (v2 : Option Nat) : ∀ (G : tG) (H : Heap) (locs : List Loc) (ls : Array Slot), tg_W D A s H G → va_S A s.heap H locs → tl ls 4 [(0, .inr (.inr v0)), (1, .inl v1), (2, .inr (.inr v2))] → w_L_reverse K post v0 v1 v2 G → W p l e ({ frames := 8, cells := 1, slots := 6, locals := 126 } : Room) s m args below meth c H locs 0 0 (vx_MQ below (tc_Qc D A (retI post)) (tc_XC D A (fun _ _ => False)) args s 1 6 A) (F0 m 0 ls []) := by
  intro G H locs ls hW hS hl hw
  unfold w_L_reverse at hw
  refine tr_aload_n (k := 2) (x := v2) C hl 2 rfl dL_reverse_0 ?_
  refine tr_aload_n (k := 0) (x := v0) C hl 0 rfl dL_reverse_1 ?_
  refine tr_iload_n (k := 1) (x := v1) C hl 1 rfl dL_reverse_2 ?_
  refine tx_backCI (tx_runV (r := v0) (As := [.int v1]) C hl.1 (c_X1_reverse l hll K _ _ v0 v1) (cwV 1 C.1.2.2.2.2 (gi_V (zm kw_323) (zm kw_324) (zm kw_325) (zm kw_33) (zm kw_322)) rfl rfl rfl (by decide +kernel) ⟨(Nat.le_of_ble_eq_true rfl), (Nat.le_of_ble_eq_true rfl)⟩) rfl rfl dL_reverse_3 ⟨(Nat.le_of_ble_eq_true rfl), (Nat.le_of_ble_eq_true rfl)⟩ [.inr (.inr v2)] rfl (Nat.le_of_ble_eq_true rfl) rfl hW hS hw) hS (fun E ce q9 GX H locs hw hW hS hce hcv hcl => ?_) (fun x_3 G_3 H locs hw hW hS => ?_)
  · by_cases hq0 : E = "java/lang/IndexOutOfBoundsException"
    · replace hw := hw.1 hq0
      subst hq0
      refine vx_catch (name := "java/lang/IndexOutOfBoundsException") C.1.2.2.2.1 [] (⟨0, 10, 13, 19⟩ : ExceptionTableEntry) [] (by rw [htab]; rfl) (fun z hz => nomatch hz) (by decide) (by decide) (C.1.2.2.2.2 _ (zm kw_209)) hcC.2.2.1 hce hcv hcl ?_
      refine tr_astore_n (k := 3) (x := (some q9)) C hl [(3, .inr (.inr (some q9))), (0, .inr (.inr v0)), (1, .inl v1), (2, .inr (.inr v2))] (by decide) rfl dL_reverse_13 (fun ls hl => ?_)
      refine lv_iconst (v := (1 : Int32)) C.1.1 C.1.2.1 dL_reverse_14 (by decide) ?_
      exact vx_ret (tr_iret C hr dL_reverse_15 (Nat.le_of_ble_eq_true rfl) (Nat.le_of_ble_eq_true rfl) hW hS hw)
    replace hw := hw.2 hq0
    exact hw.elim
  · refine lv_i2l (v := ((x_3).toInt64)) C.1.1 C.1.2.1 dL_reverse_6 rfl ?_
    refine tr_pfN (C0 := RX2) (T := TX2) (N := 2) (ci := 4) (ref := "TwinrowLaw$Out") (host := "TwinrowLaw") (k := 0) (ty := .long) (v := .long (((x_3).toInt64))) (r := v2) C (zh hw_X2) tyX2 tyX2_ok nmX2 rfl (by decide) hcC.1 rfl rfl (by decide +kernel) rfl rfl dL_reverse_7 hW hS hw (fun G_7 H locs hw hW hS => ?_)
    refine lv_goto (tgt := 16) C.1.1 C.1.2.1 dL_reverse_10 (by decide) ?_
    refine lv_iconst (v := (0 : Int32)) C.1.1 C.1.2.1 dL_reverse_16 (by decide) ?_
    exact vx_ret (tr_iret C hr dL_reverse_17 (Nat.le_of_ble_eq_true rfl) (Nat.le_of_ble_eq_true rfl) hW hS hw)
end Z_L_reverse
set_option maxHeartbeats 4000000 in
set_option maxRecDepth 100000 in
theorem c_L_reverse (l : Launch) (hll : l.stackTraces = false) (K : tK) (post : Int32 → tG → Prop) (v0 : Option Nat) (v1 : Int32) (v2 : Option Nat) : Cx l yL_reverse wz_L_reverse ({ frames := 8, cells := 1, slots := 6, locals := 126 } : Room) 1 6 [va_rf v0, .int v1, va_rf v2] K (retI post) (fun _ _ => False) (fun G => w_L_reverse K post v0 v1 v2 G) := by
  refine tx_ofH (cc := cL_reverse) (maxL := 4) (ret := (some .int)) (own := RL) (hh := [(0, 10, 13, 19)]) (by decide) rfl rfl hll [.inr (.inr v0), .inl v1, .inr (.inr v2)] rfl (Nat.le_of_ble_eq_true rfl) ?_
  intro p e s m args below meth c D A G ls C hr htab hcC hl hW hS hw
  exact s_L_reverse C hr htab hcC hll post v0 v1 v2 _ _ _ _ hW hS hl hw

/-! X3_reverse -/
def wz_X3_reverse : List Cond := Cond.code yX3_reverse cX3_reverse 4 (some .int) :: w0
section Z_X3_reverse
variable {p : Program} {l : Launch} {e : Env} {s : State} {m : MethodId} {args : Array Value} {below : List Frame} {meth : Method} {c : Code} {D : va_G} {A : Nat → Prop}
set_option maxHeartbeats 4000000 in
set_option maxRecDepth 100000 in
theorem s_X3_reverse_23_b {K : tK} (C : tc_B p l s m args meth c D K A wz_X3_reverse RX3 cX3_reverse 4) (hr : meth.sig.returnType = (some .int)) (hll : l.stackTraces = false)  (post : Int32 → tG → Prop) (k23 : Option Nat → Int32 → Option Nat → Int32 → tG → Prop) (hk23 : ∀ (v0 : Option Nat) (v1 : Int32) (v2 : Option Nat) (v3 : Int32) (G : tG) (H : Heap) (locs : List Loc) (ls : Array Slot), tg_W D A s H G → va_S A s.heap H locs → tl ls 4 [(0, .inr (.inr v0)), (1, .inl v1), (2, .inr (.inr v2)), (3, .inl v3)] → k23 v0 v1 v2 v3 G → W p l e ({ frames := 2, cells := 1, slots := 12, locals := 45 } : Room) s m args below meth c H locs 1 12 (MQ below (tc_Qc D A (retI post)) args s 1 12 A) (F0 m 23 ls [])) : ∀ (v0 : Option Nat) (v1 : Int32) (v2 : Option Nat) (v3 : Int32) (G : tG) (H : Heap) (locs : List Loc) (ls : Array Slot), tg_W D A s H G → va_S A s.heap H locs → tl ls 4 [(0, .inr (.inr v0)), (1, .inl v1), (2, .inr (.inr v2)), (3, .inl v3)] → w_X3_reverse_23_b K post k23 v0 v1 v2 v3 G → W p l e ({ frames := 2, cells := 1, slots := 12, locals := 45 } : Room) s m args below meth c H locs 1 12 (MQ below (tc_Qc D A (retI post)) args s 1 12 A) (F0 m 23 ls []) := by
  intro v0 v1 v2 v3 G H locs ls hW hS hl hw
  unfold w_X3_reverse_23_b at hw
  refine tr_iload_n (k := 3) (x := v3) C hl 3 rfl dX3_reverse_23 ?_
  refine tr_aload_n (k := 2) (x := v2) C hl 2 rfl dX3_reverse_24 ?_
  refine tr_len (r := v2) C dX3_reverse_25 hW hw (fun x_25 hw => ?_)
  refine lv_icmp_ge (tgt := 49) C.1.1 C.1.2.1 dX3_reverse_26 (by decide) (fun hc => ?_) (fun hc => ?_)
  · have hw := hw.1 hc
    refine tr_aload_n (k := 2) (x := v2) C hl 2 rfl dX3_reverse_49 ?_
    refine tr_len (r := v2) C dX3_reverse_50 hW hw (fun x_50 hw => ?_)
    exact tr_iret C hr dX3_reverse_51 (Nat.le_of_ble_eq_true rfl) (Nat.le_of_ble_eq_true rfl) hW hS hw
  · have hw := hw.2 hc
    refine tr_aload_n (k := 0) (x := v0) C hl 0 rfl dX3_reverse_29 ?_
    refine tr_iload_n (k := 1) (x := v1) C hl 1 rfl dX3_reverse_30 ?_
    refine tr_aload_n (k := 2) (x := v2) C hl 2 rfl dX3_reverse_31 ?_
    refine tr_len (r := v2) C dX3_reverse_32 hW hw (fun x_32 hw => ?_)
    refine lv_iconst (v := (1 : Int32)) C.1.1 C.1.2.1 dX3_reverse_33 (by decide) ?_
    refine lv_isub C.1.1 C.1.2.1 dX3_reverse_34 ?_
    refine tr_iload_n (k := 3) (x := v3) C hl 3 rfl dX3_reverse_35 ?_
    refine lv_isub C.1.1 C.1.2.1 dX3_reverse_36 ?_
    refine tr_aload_n (k := 2) (x := v2) C hl 2 rfl dX3_reverse_37 ?_
    refine tr_iload_n (k := 3) (x := v3) C hl 3 rfl dX3_reverse_38 ?_
    refine tr_alI (r := v2) C dX3_reverse_39 hW hw (fun x_39 hw => ?_)
    refine tr_backV (tr_runV (r := v0) (As := [.int v1, .int (((x_32 - (1 : Int32)) - v3)), .int x_39]) C hl.1 (c_X3_write l hll K _ v0 v1 (((x_32 - (1 : Int32)) - v3)) x_39) (cwV 3 C.1.2.2.2.2 (gi_V (zm kw_308) (zm kw_309) (zm kw_310) (zm kw_155) (zm kw_307)) rfl rfl rfl (by decide +kernel) ⟨(Nat.le_of_ble_eq_true rfl), (Nat.le_of_ble_eq_true rfl)⟩) rfl rfl dX3_reverse_40 ⟨(Nat.le_of_ble_eq_true rfl), (Nat.le_of_ble_eq_true rfl)⟩ [] rfl (Nat.le_of_ble_eq_true rfl) rfl hW hS hw) hS (fun G_40 H locs hw hW hS => ?_)
    refine tr_iinc C hl 3 (v3 + (1 : Int32)) [(3, .inl (v3 + (1 : Int32))), (0, .inr (.inr v0)), (1, .inl v1), (2, .inr (.inr v2))] rfl rfl (by decide) rfl dX3_reverse_43 (fun ls hl => ?_)
    refine lv_goto (tgt := 23) C.1.1 C.1.2.1 dX3_reverse_46 (by decide) ?_
    exact hk23 v0 v1 v2 ((v3 + (1 : Int32))) _ _ _ _ hW hS (tl_sub hl [1, 2, 3, 0] rfl) hw
set_option maxHeartbeats 4000000 in
set_option maxRecDepth 100000 in
theorem s_X3_reverse_23 {K : tK} (C : tc_B p l s m args meth c D K A wz_X3_reverse RX3 cX3_reverse 4) (hr : meth.sig.returnType = (some .int)) (hll : l.stackTraces = false)  (post : Int32 → tG → Prop) : ∀ (n : Nat) (v0 : Option Nat) (v1 : Int32) (v2 : Option Nat) (v3 : Int32) (G : tG) (H : Heap) (locs : List Loc) (ls : Array Slot), tg_W D A s H G → va_S A s.heap H locs → tl ls 4 [(0, .inr (.inr v0)), (1, .inl v1), (2, .inr (.inr v2)), (3, .inl v3)] → w_X3_reverse_23 K post n v0 v1 v2 v3 G → W p l e ({ frames := 2, cells := 1, slots := 12, locals := 45 } : Room) s m args below meth c H locs 1 12 (MQ below (tc_Qc D A (retI post)) args s 1 12 A) (F0 m 23 ls []) := by
  intro n
  induction n with
  | zero =>
    intro v0 v1 v2 v3 G H locs ls hW hS hl hw
    exact hw.elim
  | succ n ih => exact s_X3_reverse_23_b C hr hll post _ ih
set_option maxHeartbeats 4000000 in
set_option maxRecDepth 100000 in
theorem s_X3_reverse {K : tK} (C : tc_B p l s m args meth c D K A wz_X3_reverse RX3 cX3_reverse 4) (hr : meth.sig.returnType = (some .int)) (hll : l.stackTraces = false)  (post : Int32 → tG → Prop) (v0 : Option Nat) (v1 : Int32) : ∀ (G : tG) (H : Heap) (locs : List Loc) (ls : Array Slot), tg_W D A s H G → va_S A s.heap H locs → tl ls 4 [(0, .inr (.inr v0)), (1, .inl v1)] → w_X3_reverse K post v0 v1 G → W p l e ({ frames := 2, cells := 1, slots := 12, locals := 45 } : Room) s m args below meth c H locs 0 0 (MQ below (tc_Qc D A (retI post)) args s 1 12 A) (F0 m 0 ls []) := by
  intro G H locs ls hW hS hl hw
  unfold w_X3_reverse at hw
  refine tr_aload_n (k := 0) (x := v0) C hl 0 rfl dX3_reverse_0 ?_
  refine tr_aload_n (k := 0) (x := v0) C hl 0 rfl dX3_reverse_1 ?_
  refine tr_iload_n (k := 1) (x := v1) C hl 1 rfl dX3_reverse_2 ?_
  refine tr_backI (tr_runV (r := v0) (As := [.int v1]) C hl.1 (c_X3_isNoList l hll K _ v0 v1) (cwV 1 C.1.2.2.2.2 (gi_V (zm kw_211) (zm kw_212) (zm kw_213) (zm kw_155) (zm kw_210)) rfl rfl rfl (by decide +kernel) ⟨(Nat.le_of_ble_eq_true rfl), (Nat.le_of_ble_eq_true rfl)⟩) rfl rfl dX3_reverse_3 ⟨(Nat.le_of_ble_eq_true rfl), (Nat.le_of_ble_eq_true rfl)⟩ [.inr (.inr v0)] rfl (Nat.le_of_ble_eq_true rfl) rfl hW hS hw) hS (fun x_3 G_3 H locs hw hW hS => ?_)
  refine lv_iconst (v := (0 : Int32)) C.1.1 C.1.2.1 dX3_reverse_6 (by decide) ?_
  refine tr_backI (tr_runV (r := v0) (As := [.int x_3, .int ((0 : Int32))]) C hl.1 (c_X3_fails l hll K _ v0 x_3 ((0 : Int32))) (cwV 2 C.1.2.2.2.2 (gi_V (zm kw_190) (zm kw_191) (zm kw_192) (zm kw_155) (zm kw_189)) rfl rfl rfl (by decide +kernel) ⟨(Nat.le_of_ble_eq_true rfl), (Nat.le_of_ble_eq_true rfl)⟩) rfl rfl dX3_reverse_7 ⟨(Nat.le_of_ble_eq_true rfl), (Nat.le_of_ble_eq_true rfl)⟩ [] rfl (Nat.le_of_ble_eq_true rfl) rfl hW hS hw) hS (fun x_7 G_7 H locs hw hW hS => ?_)
  refine lv_if_eq (tgt := 15) C.1.1 C.1.2.1 dX3_reverse_10 (by decide) (fun hc => ?_) (fun hc => ?_)
  · have hw := hw.1 hc
    refine tr_aload_n (k := 0) (x := v0) C hl 0 rfl dX3_reverse_15 ?_
    refine tr_iload_n (k := 1) (x := v1) C hl 1 rfl dX3_reverse_16 ?_
    refine tr_backR (tr_runV (r := v0) (As := [.int v1]) C hl.1 (c_X3_all l hll K _ v0 v1) (cwV 1 C.1.2.2.2.2 (gi_V (zm kw_157) (zm kw_158) (zm kw_159) (zm kw_155) (zm kw_156)) rfl rfl rfl (by decide +kernel) ⟨(Nat.le_of_ble_eq_true rfl), (Nat.le_of_ble_eq_true rfl)⟩) rfl rfl dX3_reverse_17 ⟨(Nat.le_of_ble_eq_true rfl), (Nat.le_of_ble_eq_true rfl)⟩ [] rfl (Nat.le_of_ble_eq_true rfl) rfl hW hS hw) hS (fun x_17 G_17 H locs hw hW hS => ?_)
    refine tr_astore_n (k := 2) (x := x_17) C hl [(2, .inr (.inr x_17)), (0, .inr (.inr v0)), (1, .inl v1)] (by decide) rfl dX3_reverse_20 (fun ls hl => ?_)
    refine lv_iconst (v := (0 : Int32)) C.1.1 C.1.2.1 dX3_reverse_21 (by decide) ?_
    refine tr_istore_n (k := 3) (x := (0 : Int32)) C hl [(3, .inl (0 : Int32)), (2, .inr (.inr x_17)), (0, .inr (.inr v0)), (1, .inl v1)] (by decide) rfl dX3_reverse_22 (fun ls hl => ?_)
    obtain ⟨n23, hw⟩ := hw
    exact s_X3_reverse_23 C hr hll post n23 v0 v1 x_17 ((0 : Int32)) _ _ _ _ hW hS (tl_sub hl [2, 3, 1, 0] rfl) hw
  · have hw := hw.2 hc
    refine lv_iconst (v := (0 : Int32)) C.1.1 C.1.2.1 dX3_reverse_13 (by decide) ?_
    exact tr_iret C hr dX3_reverse_14 (Nat.le_of_ble_eq_true rfl) (Nat.le_of_ble_eq_true rfl) hW hS hw
end Z_X3_reverse
set_option maxHeartbeats 4000000 in
set_option maxRecDepth 100000 in
theorem c_X3_reverse (l : Launch) (hll : l.stackTraces = false) (K : tK) (post : Int32 → tG → Prop) (v0 : Option Nat) (v1 : Int32) : Ct l yX3_reverse wz_X3_reverse ({ frames := 2, cells := 1, slots := 12, locals := 45 } : Room) 1 12 [va_rf v0, .int v1] K (retI post) (fun G => w_X3_reverse K post v0 v1 G) := by
  refine tc_of (cc := cX3_reverse) (maxL := 4) (ret := (some .int)) (own := RX3) (plainFor_of_name (by decide)) rfl rfl hll [.inr (.inr v0), .inl v1] rfl (Nat.le_of_ble_eq_true rfl) ?_
  intro p e s m args below meth c D A G ls C hr hn ht hl hW hS hw
  exact s_X3_reverse C hr hll post v0 v1 _ _ _ _ hW hS hl hw

/-! J6_compare_7cf53 -/
def wz_J6_compare_7cf53 : List Cond := Cond.code yJ6_compare_7cf53 cJ6_compare_7cf53 2 (some .int) :: w0
section Z_J6_compare_7cf53
variable {p : Program} {l : Launch} {e : Env} {s : State} {m : MethodId} {args : Array Value} {below : List Frame} {meth : Method} {c : Code} {D : va_G} {A : Nat → Prop}
set_option maxHeartbeats 4000000 in
set_option maxRecDepth 100000 in
theorem s_J6_compare_7cf53_19 {K : tK} (C : tc_B p l s m args meth c D K A wz_J6_compare_7cf53 RJ6 cJ6_compare_7cf53 2) (hr : meth.sig.returnType = (some .int)) (hll : l.stackTraces = false)  (post : Int32 → tG → Prop) : ∀ (u0 : Int32) (G : tG) (H : Heap) (locs : List Loc) (ls : Array Slot), tg_W D A s H G → va_S A s.heap H locs → tl ls 2 [] → w_J6_compare_7cf53_19 K post u0 G → W p l e ({ frames := 0, cells := 0, slots := 0, locals := 0 } : Room) s m args below meth c H locs 0 0 (MQ below (tc_Qc D A (retI post)) args s 0 0 A) (F0 m 19 ls [.int u0]) := by
  intro u0 G H locs ls hW hS hl hw
  unfold w_J6_compare_7cf53_19 at hw
  exact tr_iret C hr dJ6_compare_7cf53_19 (Nat.le_of_ble_eq_true rfl) (Nat.le_of_ble_eq_true rfl) hW hS hw
set_option maxHeartbeats 4000000 in
set_option maxRecDepth 100000 in
theorem s_J6_compare_7cf53 {K : tK} (C : tc_B p l s m args meth c D K A wz_J6_compare_7cf53 RJ6 cJ6_compare_7cf53 2) (hr : meth.sig.returnType = (some .int)) (hll : l.stackTraces = false)  (post : Int32 → tG → Prop) (v0 : Int32) (v1 : Int32) : ∀ (G : tG) (H : Heap) (locs : List Loc) (ls : Array Slot), tg_W D A s H G → va_S A s.heap H locs → tl ls 2 [(0, .inl v0), (1, .inl v1)] → w_J6_compare_7cf53 K post v0 v1 G → W p l e ({ frames := 0, cells := 0, slots := 0, locals := 0 } : Room) s m args below meth c H locs 0 0 (MQ below (tc_Qc D A (retI post)) args s 0 0 A) (F0 m 0 ls []) := by
  intro G H locs ls hW hS hl hw
  unfold w_J6_compare_7cf53 at hw
  refine tr_iload_n (k := 0) (x := v0) C hl 0 rfl dJ6_compare_7cf53_0 ?_
  refine tr_iload_n (k := 1) (x := v1) C hl 1 rfl dJ6_compare_7cf53_1 ?_
  refine lv_icmp_ge (tgt := 9) C.1.1 C.1.2.1 dJ6_compare_7cf53_2 (by decide) (fun hc => ?_) (fun hc => ?_)
  · have hw := hw.1 hc
    refine tr_iload_n (k := 0) (x := v0) C hl 0 rfl dJ6_compare_7cf53_9 ?_
    refine tr_iload_n (k := 1) (x := v1) C hl 1 rfl dJ6_compare_7cf53_10 ?_
    refine lv_icmp_ne (tgt := 18) C.1.1 C.1.2.1 dJ6_compare_7cf53_11 (by decide) (fun hc => ?_) (fun hc => ?_)
    · have hw := hw.1 hc
      refine lv_iconst (v := (1 : Int32)) C.1.1 C.1.2.1 dJ6_compare_7cf53_18 (by decide) ?_
      exact s_J6_compare_7cf53_19 C hr hll post ((1 : Int32)) _ _ _ _ hW hS (tl_sub hl [] rfl) hw
    · have hw := hw.2 hc
      refine lv_iconst (v := (0 : Int32)) C.1.1 C.1.2.1 dJ6_compare_7cf53_14 (by decide) ?_
      refine lv_goto (tgt := 19) C.1.1 C.1.2.1 dJ6_compare_7cf53_15 (by decide) ?_
      exact s_J6_compare_7cf53_19 C hr hll post ((0 : Int32)) _ _ _ _ hW hS (tl_sub hl [] rfl) hw
  · have hw := hw.2 hc
    refine lv_iconst (v := (-1 : Int32)) C.1.1 C.1.2.1 dJ6_compare_7cf53_5 (by decide) ?_
    refine lv_goto (tgt := 19) C.1.1 C.1.2.1 dJ6_compare_7cf53_6 (by decide) ?_
    exact s_J6_compare_7cf53_19 C hr hll post ((-1 : Int32)) _ _ _ _ hW hS (tl_sub hl [] rfl) hw
end Z_J6_compare_7cf53
set_option maxHeartbeats 4000000 in
set_option maxRecDepth 100000 in
theorem c_J6_compare_7cf53 (l : Launch) (hll : l.stackTraces = false) (K : tK) (post : Int32 → tG → Prop) (v0 : Int32) (v1 : Int32) : Ct l yJ6_compare_7cf53 wz_J6_compare_7cf53 ({ frames := 0, cells := 0, slots := 0, locals := 0 } : Room) 0 0 [.int v0, .int v1] K (retI post) (fun G => w_J6_compare_7cf53 K post v0 v1 G) := by
  refine tc_of (cc := cJ6_compare_7cf53) (maxL := 2) (ret := (some .int)) (own := RJ6) (plainFor_of_name (by decide)) rfl rfl hll [.inl v0, .inl v1] rfl (Nat.le_of_ble_eq_true rfl) ?_
  intro p e s m args below meth c D A G ls C hr hn ht hl hW hS hw
  exact s_J6_compare_7cf53 C hr hll post v0 v1 _ _ _ _ hW hS hl hw

/-! X1_sink -/
def wz_X1_sink : List Cond := Cond.code yX1_sink cX1_sink 5 none :: w0
section Z_X1_sink
variable {p : Program} {l : Launch} {e : Env} {s : State} {m : MethodId} {args : Array Value} {below : List Frame} {meth : Method} {c : Code} {D : va_G} {A : Nat → Prop}
set_option maxHeartbeats 4000000 in
set_option maxRecDepth 100000 in
theorem s_X1_sink_40 {K : tK} (C : tc_B p l s m args meth c D K A wz_X1_sink RX1 cX1_sink 5) (hr : meth.sig.returnType = none) (hll : l.stackTraces = false)  (post : tG → Prop) : ∀ (G : tG) (H : Heap) (locs : List Loc) (ls : Array Slot), tg_W D A s H G → va_S A s.heap H locs → tl ls 5 [] → w_X1_sink_40 K post G → W p l e ({ frames := 3, cells := 0, slots := 0, locals := 68 } : Room) s m args below meth c H locs 0 0 (MQ below (tc_Qc D A (retV post)) args s 0 0 A) (F0 m 40 ls []) := by
  intro G H locs ls hW hS hl hw
  unfold w_X1_sink_40 at hw
  exact tr_vret C hr dX1_sink_40 (Nat.le_of_ble_eq_true rfl) (Nat.le_of_ble_eq_true rfl) hW hS hw
set_option maxHeartbeats 4000000 in
set_option maxRecDepth 100000 in
theorem s_X1_sink_41 {K : tK} (C : tc_B p l s m args meth c D K A wz_X1_sink RX1 cX1_sink 5) (hr : meth.sig.returnType = none) (hll : l.stackTraces = false)  (post : tG → Prop) (k2 : Option Nat → Int32 → Int32 → tG → Prop) (hk2 : ∀ (v0 : Option Nat) (v2 : Int32) (v3 : Int32) (G : tG) (H : Heap) (locs : List Loc) (ls : Array Slot), tg_W D A s H G → va_S A s.heap H locs → tl ls 5 [(0, .inr (.inr v0)), (2, .inl v2), (3, .inl v3)] → k2 v0 v2 v3 G → W p l e ({ frames := 3, cells := 0, slots := 0, locals := 68 } : Room) s m args below meth c H locs 0 0 (MQ below (tc_Qc D A (retV post)) args s 0 0 A) (F0 m 2 ls [])) : ∀ (v0 : Option Nat) (v2 : Int32) (v3 : Int32) (G : tG) (H : Heap) (locs : List Loc) (ls : Array Slot), tg_W D A s H G → va_S A s.heap H locs → tl ls 5 [(0, .inr (.inr v0)), (2, .inl v2), (3, .inl v3)] → w_X1_sink_41 K post k2 v0 v2 v3 G → W p l e ({ frames := 3, cells := 0, slots := 0, locals := 68 } : Room) s m args below meth c H locs 0 0 (MQ below (tc_Qc D A (retV post)) args s 0 0 A) (F0 m 41 ls []) := by
  intro v0 v2 v3 G H locs ls hW hS hl hw
  unfold w_X1_sink_41 at hw
  refine tr_aload_n (k := 0) (x := v0) C hl 0 rfl dX1_sink_41 ?_
  refine tr_iload_n (k := 3) (x := v3) C hl 2 rfl dX1_sink_42 ?_
  refine tr_iload_n (k := 3) (x := v3) C hl 2 rfl dX1_sink_43 ?_
  refine lv_iconst (v := (1 : Int32)) C.1.1 C.1.2.1 dX1_sink_44 (by decide) ?_
  refine lv_isub C.1.1 C.1.2.1 dX1_sink_45 ?_
  refine tr_backV (tr_runV (r := v0) (As := [.int v3, .int ((v3 - (1 : Int32)))]) C hl.1 (c_X0_exchange l hll K _ v0 v3 ((v3 - (1 : Int32)))) (cwV 2 C.1.2.2.2.2 (gi_V (zm kw_300) (zm kw_301) (zm kw_302) (zm kw_10) (zm kw_299)) rfl rfl rfl (by decide +kernel) ⟨(Nat.le_of_ble_eq_true rfl), (Nat.le_of_ble_eq_true rfl)⟩) rfl rfl dX1_sink_46 ⟨(Nat.le_of_ble_eq_true rfl), (Nat.le_of_ble_eq_true rfl)⟩ [] rfl (Nat.le_of_ble_eq_true rfl) rfl hW hS hw) hS (fun G_46 H locs hw hW hS => ?_)
  refine tr_iinc C hl 2 (v3 + (-1 : Int32)) [(3, .inl (v3 + (-1 : Int32))), (0, .inr (.inr v0)), (2, .inl v2)] rfl (congrArg (fun z => v3 + z) (show Int32.ofInt (-1) = (-1 : Int32) by decide)) (by decide) rfl dX1_sink_49 (fun ls hl => ?_)
  refine lv_goto (tgt := 2) C.1.1 C.1.2.1 dX1_sink_52 (by decide) ?_
  exact hk2 v0 v2 ((v3 + (-1 : Int32))) _ _ _ _ hW hS (tl_sub hl [1, 2, 0] rfl) hw
set_option maxHeartbeats 4000000 in
set_option maxRecDepth 100000 in
theorem s_X1_sink_2_b {K : tK} (C : tc_B p l s m args meth c D K A wz_X1_sink RX1 cX1_sink 5) (hr : meth.sig.returnType = none) (hll : l.stackTraces = false)  (post : tG → Prop) (k2 : Option Nat → Int32 → Int32 → tG → Prop) (hk2 : ∀ (v0 : Option Nat) (v2 : Int32) (v3 : Int32) (G : tG) (H : Heap) (locs : List Loc) (ls : Array Slot), tg_W D A s H G → va_S A s.heap H locs → tl ls 5 [(0, .inr (.inr v0)), (2, .inl v2), (3, .inl v3)] → k2 v0 v2 v3 G → W p l e ({ frames := 3, cells := 0, slots := 0, locals := 68 } : Room) s m args below meth c H locs 0 0 (MQ below (tc_Qc D A (retV post)) args s 0 0 A) (F0 m 2 ls [])) : ∀ (v0 : Option Nat) (v2 : Int32) (v3 : Int32) (G : tG) (H : Heap) (locs : List Loc) (ls : Array Slot), tg_W D A s H G → va_S A s.heap H locs → tl ls 5 [(0, .inr (.inr v0)), (2, .inl v2), (3, .inl v3)] → w_X1_sink_2_b K post k2 v0 v2 v3 G → W p l e ({ frames := 3, cells := 0, slots := 0, locals := 68 } : Room) s m args below meth c H locs 0 0 (MQ below (tc_Qc D A (retV post)) args s 0 0 A) (F0 m 2 ls []) := by
  intro v0 v2 v3 G H locs ls hW hS hl hw
  unfold w_X1_sink_2_b at hw
  refine tr_iload_n (k := 3) (x := v3) C hl 2 rfl dX1_sink_2 ?_
  refine lv_if_le (tgt := 55) C.1.1 C.1.2.1 dX1_sink_3 (by decide) (fun hc => ?_) (fun hc => ?_)
  · have hw := hw.1 hc
    exact tr_vret C hr dX1_sink_55 (Nat.le_of_ble_eq_true rfl) (Nat.le_of_ble_eq_true rfl) hW hS hw
  · have hw := hw.2 hc
    refine tr_aload_n (k := 0) (x := v0) C hl 0 rfl dX1_sink_6 ?_
    refine tr_iload_n (k := 3) (x := v3) C hl 2 rfl dX1_sink_7 ?_
    refine tr_backI (tr_runV (r := v0) (As := [.int v3]) C hl.1 (c_X0_read l hll K _ v0 v3) (cwV 1 C.1.2.2.2.2 (gi_V (zm kw_27) (zm kw_28) (zm kw_29) (zm kw_10) (zm kw_26)) rfl rfl rfl (by decide +kernel) ⟨(Nat.le_of_ble_eq_true rfl), (Nat.le_of_ble_eq_true rfl)⟩) rfl rfl dX1_sink_8 ⟨(Nat.le_of_ble_eq_true rfl), (Nat.le_of_ble_eq_true rfl)⟩ [] rfl (Nat.le_of_ble_eq_true rfl) rfl hW hS hw) hS (fun x_8 G_8 H locs hw hW hS => ?_)
    refine tr_aload_n (k := 0) (x := v0) C hl 0 rfl dX1_sink_11 ?_
    refine tr_iload_n (k := 3) (x := v3) C hl 2 rfl dX1_sink_12 ?_
    refine lv_iconst (v := (1 : Int32)) C.1.1 C.1.2.1 dX1_sink_13 (by decide) ?_
    refine lv_isub C.1.1 C.1.2.1 dX1_sink_14 ?_
    refine tr_backI (tr_runV (r := v0) (As := [.int ((v3 - (1 : Int32)))]) C hl.1 (c_X0_read l hll K _ v0 ((v3 - (1 : Int32)))) (cwV 1 C.1.2.2.2.2 (gi_V (zm kw_27) (zm kw_28) (zm kw_29) (zm kw_10) (zm kw_26)) rfl rfl rfl (by decide +kernel) ⟨(Nat.le_of_ble_eq_true rfl), (Nat.le_of_ble_eq_true rfl)⟩) rfl rfl dX1_sink_15 ⟨(Nat.le_of_ble_eq_true rfl), (Nat.le_of_ble_eq_true rfl)⟩ [.inl x_8] rfl (Nat.le_of_ble_eq_true rfl) rfl hW hS hw) hS (fun x_15 G_15 H locs hw hW hS => ?_)
    refine tr_backI (tr_runS (As := [.int x_8, .int x_15]) C hl.1 (c_J6_compare_7cf53 l hll K _ x_8 x_15) (va_cwS 2 C.1.2.2.2.2 (gi_S (zm kw_327) (zm kw_328) (zm kw_329) (zm kw_326)) rfl rfl rfl (by decide +kernel) ⟨(Nat.le_of_ble_eq_true rfl), (Nat.le_of_ble_eq_true rfl)⟩) rfl dX1_sink_18 ⟨(Nat.le_of_ble_eq_true rfl), (Nat.le_of_ble_eq_true rfl)⟩ [] rfl (Nat.le_of_ble_eq_true rfl) rfl hW hS hw) hS (fun x_18 G_18 H locs hw hW hS => ?_)
    refine tr_istore (x := x_18) C hl [(4, .inl x_18), (0, .inr (.inr v0)), (2, .inl v2), (3, .inl v3)] (by decide) rfl dX1_sink_21 (fun ls hl => ?_)
    refine tr_iload_n (k := 2) (x := v2) C hl 2 rfl dX1_sink_23 ?_
    refine lv_if_eq (tgt := 35) C.1.1 C.1.2.1 dX1_sink_24 (by decide) (fun hc => ?_) (fun hc => ?_)
    · have hw := hw.1 hc
      refine tr_iload (x := x_18) C hl 0 rfl dX1_sink_35 ?_
      refine lv_if_lt (tgt := 41) C.1.1 C.1.2.1 dX1_sink_37 (by decide) (fun hc => ?_) (fun hc => ?_)
      · have hw := hw.1 hc
        exact s_X1_sink_41 C hr hll post k2 hk2 v0 v2 v3 _ _ _ _ hW hS (tl_sub hl [1, 2, 3] rfl) hw
      · have hw := hw.2 hc
        exact s_X1_sink_40 C hr hll post _ _ _ _ hW hS (tl_sub hl [] rfl) hw
    · have hw := hw.2 hc
      refine tr_iload (x := x_18) C hl 0 rfl dX1_sink_27 ?_
      refine lv_if_gt (tgt := 41) C.1.1 C.1.2.1 dX1_sink_29 (by decide) (fun hc => ?_) (fun hc => ?_)
      · have hw := hw.1 hc
        exact s_X1_sink_41 C hr hll post k2 hk2 v0 v2 v3 _ _ _ _ hW hS (tl_sub hl [1, 2, 3] rfl) hw
      · have hw := hw.2 hc
        refine lv_goto (tgt := 40) C.1.1 C.1.2.1 dX1_sink_32 (by decide) ?_
        exact s_X1_sink_40 C hr hll post _ _ _ _ hW hS (tl_sub hl [] rfl) hw
set_option maxHeartbeats 4000000 in
set_option maxRecDepth 100000 in
theorem s_X1_sink_2 {K : tK} (C : tc_B p l s m args meth c D K A wz_X1_sink RX1 cX1_sink 5) (hr : meth.sig.returnType = none) (hll : l.stackTraces = false)  (post : tG → Prop) : ∀ (n : Nat) (v0 : Option Nat) (v2 : Int32) (v3 : Int32) (G : tG) (H : Heap) (locs : List Loc) (ls : Array Slot), tg_W D A s H G → va_S A s.heap H locs → tl ls 5 [(0, .inr (.inr v0)), (2, .inl v2), (3, .inl v3)] → w_X1_sink_2 K post n v0 v2 v3 G → W p l e ({ frames := 3, cells := 0, slots := 0, locals := 68 } : Room) s m args below meth c H locs 0 0 (MQ below (tc_Qc D A (retV post)) args s 0 0 A) (F0 m 2 ls []) := by
  intro n
  induction n with
  | zero =>
    intro v0 v2 v3 G H locs ls hW hS hl hw
    exact hw.elim
  | succ n ih => exact s_X1_sink_2_b C hr hll post _ ih
set_option maxHeartbeats 4000000 in
set_option maxRecDepth 100000 in
theorem s_X1_sink {K : tK} (C : tc_B p l s m args meth c D K A wz_X1_sink RX1 cX1_sink 5) (hr : meth.sig.returnType = none) (hll : l.stackTraces = false)  (post : tG → Prop) (v0 : Option Nat) (v1 : Int32) (v2 : Int32) : ∀ (G : tG) (H : Heap) (locs : List Loc) (ls : Array Slot), tg_W D A s H G → va_S A s.heap H locs → tl ls 5 [(0, .inr (.inr v0)), (1, .inl v1), (2, .inl v2)] → w_X1_sink K post v0 v1 v2 G → W p l e ({ frames := 3, cells := 0, slots := 0, locals := 68 } : Room) s m args below meth c H locs 0 0 (MQ below (tc_Qc D A (retV post)) args s 0 0 A) (F0 m 0 ls []) := by
  intro G H locs ls hW hS hl hw
  unfold w_X1_sink at hw
  refine tr_iload_n (k := 1) (x := v1) C hl 1 rfl dX1_sink_0 ?_
  refine tr_istore_n (k := 3) (x := v1) C hl [(3, .inl v1), (0, .inr (.inr v0)), (1, .inl v1), (2, .inl v2)] (by decide) rfl dX1_sink_1 (fun ls hl => ?_)
  obtain ⟨n2, hw⟩ := hw
  exact s_X1_sink_2 C hr hll post n2 v0 v2 v1 _ _ _ _ hW hS (tl_sub hl [1, 3, 0] rfl) hw
end Z_X1_sink
set_option maxHeartbeats 4000000 in
set_option maxRecDepth 100000 in
theorem c_X1_sink (l : Launch) (hll : l.stackTraces = false) (K : tK) (post : tG → Prop) (v0 : Option Nat) (v1 : Int32) (v2 : Int32) : Ct l yX1_sink wz_X1_sink ({ frames := 3, cells := 0, slots := 0, locals := 68 } : Room) 0 0 [va_rf v0, .int v1, .int v2] K (retV post) (fun G => w_X1_sink K post v0 v1 v2 G) := by
  refine tc_of (cc := cX1_sink) (maxL := 5) (ret := none) (own := RX1) (plainFor_of_name (by decide)) rfl rfl hll [.inr (.inr v0), .inl v1, .inl v2] rfl (Nat.le_of_ble_eq_true rfl) ?_
  intro p e s m args below meth c D A G ls C hr hn ht hl hW hS hw
  exact s_X1_sink C hr hll post v0 v1 v2 _ _ _ _ hW hS hl hw

/-! X1_sort -/
def wz_X1_sort : List Cond := Cond.code yX1_sort cX1_sort 5 (some .int) :: w0
section Z_X1_sort
variable {p : Program} {l : Launch} {e : Env} {s : State} {m : MethodId} {args : Array Value} {below : List Frame} {meth : Method} {c : Code} {D : va_G} {A : Nat → Prop}
set_option maxHeartbeats 4000000 in
set_option maxRecDepth 100000 in
theorem s_X1_sort_9_b {K : tK} (C : tc_B p l s m args meth c D K A wz_X1_sort RX1 cX1_sort 5) (hr : meth.sig.returnType = (some .int)) (ht : ∀ x ∈ c.exceptionTable.toList, False) (hll : l.stackTraces = false)  (post : Int32 → tG → Prop) (postX : String → tG → Prop) (k9 : Int32 → Option Nat → Int32 → tG → Prop) (hk9 : ∀ (v2 : Int32) (v3 : Option Nat) (v4 : Int32) (G : tG) (H : Heap) (locs : List Loc) (ls : Array Slot), tg_W D A s H G → va_S A s.heap H locs → tl ls 5 [(2, .inl v2), (3, .inr (.inr v3)), (4, .inl v4)] → k9 v2 v3 v4 G → W p l e ({ frames := 7, cells := 1, slots := 6, locals := 104 } : Room) s m args below meth c H locs 1 6 (vx_MQ below (tc_Qc D A (retI post)) (tc_XC D A postX) args s 1 6 A) (F0 m 9 ls [])) : ∀ (v2 : Int32) (v3 : Option Nat) (v4 : Int32) (G : tG) (H : Heap) (locs : List Loc) (ls : Array Slot), tg_W D A s H G → va_S A s.heap H locs → tl ls 5 [(2, .inl v2), (3, .inr (.inr v3)), (4, .inl v4)] → w_X1_sort_9_b K post postX k9 v2 v3 v4 G → W p l e ({ frames := 7, cells := 1, slots := 6, locals := 104 } : Room) s m args below meth c H locs 1 6 (vx_MQ below (tc_Qc D A (retI post)) (tc_XC D A postX) args s 1 6 A) (F0 m 9 ls []) := by
  intro v2 v3 v4 G H locs ls hW hS hl hw
  unfold w_X1_sort_9_b at hw
  refine tr_iload (x := v4) C hl 2 rfl dX1_sort_9 ?_
  refine tr_aload_n (k := 3) (x := v3) C hl 1 rfl dX1_sort_11 ?_
  refine tr_gfI (C0 := RX0) (T := TX0) (N := 4) (ci := 2) (ref := "Twinrow$RowList") (k := 3) (r := v3) C (zh hw_X0) rfl (by decide) (zm kw_34) rfl dX1_sort_12 hW hw (fun x_12 hw => ?_)
  refine lv_icmp_ge (tgt := 31) C.1.1 C.1.2.1 dX1_sort_15 (by decide) (fun hc => ?_) (fun hc => ?_)
  · have hw := hw.1 hc
    refine tr_aload_n (k := 3) (x := v3) C hl 1 rfl dX1_sort_31 ?_
    refine tr_gfI (C0 := RX0) (T := TX0) (N := 4) (ci := 2) (ref := "Twinrow$RowList") (k := 3) (r := v3) C (zh hw_X0) rfl (by decide) (zm kw_34) rfl dX1_sort_32 hW hw (fun x_32 hw => ?_)
    exact vx_ret (tr_iret C hr dX1_sort_35 (Nat.le_of_ble_eq_true rfl) (Nat.le_of_ble_eq_true rfl) hW hS hw)
  · have hw := hw.2 hc
    refine tr_aload_n (k := 3) (x := v3) C hl 1 rfl dX1_sort_18 ?_
    refine tr_iload (x := v4) C hl 2 rfl dX1_sort_19 ?_
    refine tr_iload_n (k := 2) (x := v2) C hl 0 rfl dX1_sort_21 ?_
    refine tr_backV (tr_runS (As := [va_rf v3, .int v4, .int v2]) C hl.1 (c_X1_sink l hll K _ v3 v4 v2) (va_cwS 3 C.1.2.2.2.2 (gi_S (zm kw_331) (zm kw_332) (zm kw_33) (zm kw_330)) rfl rfl rfl (by decide +kernel) ⟨(Nat.le_of_ble_eq_true rfl), (Nat.le_of_ble_eq_true rfl)⟩) rfl dX1_sort_22 ⟨(Nat.le_of_ble_eq_true rfl), (Nat.le_of_ble_eq_true rfl)⟩ [] rfl (Nat.le_of_ble_eq_true rfl) rfl hW hS hw) hS (fun G_22 H locs hw hW hS => ?_)
    refine tr_iinc C hl 2 (v4 + (1 : Int32)) [(4, .inl (v4 + (1 : Int32))), (2, .inl v2), (3, .inr (.inr v3))] rfl rfl (by decide) rfl dX1_sort_25 (fun ls hl => ?_)
    refine lv_goto (tgt := 9) C.1.1 C.1.2.1 dX1_sort_28 (by decide) ?_
    exact hk9 v2 v3 ((v4 + (1 : Int32))) _ _ _ _ hW hS (tl_sub hl [1, 2, 0] rfl) hw
set_option maxHeartbeats 4000000 in
set_option maxRecDepth 100000 in
theorem s_X1_sort_9 {K : tK} (C : tc_B p l s m args meth c D K A wz_X1_sort RX1 cX1_sort 5) (hr : meth.sig.returnType = (some .int)) (ht : ∀ x ∈ c.exceptionTable.toList, False) (hll : l.stackTraces = false)  (post : Int32 → tG → Prop) (postX : String → tG → Prop) : ∀ (n : Nat) (v2 : Int32) (v3 : Option Nat) (v4 : Int32) (G : tG) (H : Heap) (locs : List Loc) (ls : Array Slot), tg_W D A s H G → va_S A s.heap H locs → tl ls 5 [(2, .inl v2), (3, .inr (.inr v3)), (4, .inl v4)] → w_X1_sort_9 K post postX n v2 v3 v4 G → W p l e ({ frames := 7, cells := 1, slots := 6, locals := 104 } : Room) s m args below meth c H locs 1 6 (vx_MQ below (tc_Qc D A (retI post)) (tc_XC D A postX) args s 1 6 A) (F0 m 9 ls []) := by
  intro n
  induction n with
  | zero =>
    intro v2 v3 v4 G H locs ls hW hS hl hw
    exact hw.elim
  | succ n ih => exact s_X1_sort_9_b C hr ht hll post postX _ ih
set_option maxHeartbeats 4000000 in
set_option maxRecDepth 100000 in
theorem s_X1_sort {K : tK} (C : tc_B p l s m args meth c D K A wz_X1_sort RX1 cX1_sort 5) (hr : meth.sig.returnType = (some .int)) (ht : ∀ x ∈ c.exceptionTable.toList, False) (hll : l.stackTraces = false)  (post : Int32 → tG → Prop) (postX : String → tG → Prop) (v0 : Option Nat) (v1 : Int32) (v2 : Int32) : ∀ (G : tG) (H : Heap) (locs : List Loc) (ls : Array Slot), tg_W D A s H G → va_S A s.heap H locs → tl ls 5 [(0, .inr (.inr v0)), (1, .inl v1), (2, .inl v2)] → w_X1_sort K post postX v0 v1 v2 G → W p l e ({ frames := 7, cells := 1, slots := 6, locals := 104 } : Room) s m args below meth c H locs 0 0 (vx_MQ below (tc_Qc D A (retI post)) (tc_XC D A postX) args s 1 6 A) (F0 m 0 ls []) := by
  intro G H locs ls hW hS hl hw
  unfold w_X1_sort at hw
  refine tr_aload_n (k := 0) (x := v0) C hl 0 rfl dX1_sort_0 ?_
  refine tr_iload_n (k := 1) (x := v1) C hl 1 rfl dX1_sort_1 ?_
  refine tx_backR (tx_runV (r := v0) (As := [.int v1]) C hl.1 (c_X1_twinAt l hll K _ _ v0 v1) (cwV 1 C.1.2.2.2.2 (gi_V (zm kw_121) (zm kw_122) (zm kw_123) (zm kw_33) (zm kw_120)) rfl rfl rfl (by decide +kernel) ⟨(Nat.le_of_ble_eq_true rfl), (Nat.le_of_ble_eq_true rfl)⟩) rfl rfl dX1_sort_2 ⟨(Nat.le_of_ble_eq_true rfl), (Nat.le_of_ble_eq_true rfl)⟩ [] rfl (Nat.le_of_ble_eq_true rfl) rfl hW hS hw) hS C.2.1 ht (Nat.le_of_ble_eq_true rfl) (Nat.le_of_ble_eq_true rfl) (fun x_2 G_2 H locs hw hW hS => ?_)
  refine tr_astore_n (k := 3) (x := x_2) C hl [(3, .inr (.inr x_2)), (0, .inr (.inr v0)), (1, .inl v1), (2, .inl v2)] (by decide) rfl dX1_sort_5 (fun ls hl => ?_)
  refine lv_iconst (v := (1 : Int32)) C.1.1 C.1.2.1 dX1_sort_6 (by decide) ?_
  refine tr_istore (x := (1 : Int32)) C hl [(4, .inl (1 : Int32)), (3, .inr (.inr x_2)), (0, .inr (.inr v0)), (1, .inl v1), (2, .inl v2)] (by decide) rfl dX1_sort_7 (fun ls hl => ?_)
  obtain ⟨n9, hw⟩ := hw
  exact s_X1_sort_9 C hr ht hll post postX n9 v2 x_2 ((1 : Int32)) _ _ _ _ hW hS (tl_sub hl [4, 1, 0] rfl) hw
end Z_X1_sort
set_option maxHeartbeats 4000000 in
set_option maxRecDepth 100000 in
theorem c_X1_sort (l : Launch) (hll : l.stackTraces = false) (K : tK) (post : Int32 → tG → Prop) (postX : String → tG → Prop) (v0 : Option Nat) (v1 : Int32) (v2 : Int32) : Cx l yX1_sort wz_X1_sort ({ frames := 7, cells := 1, slots := 6, locals := 104 } : Room) 1 6 [va_rf v0, .int v1, .int v2] K (retI post) postX (fun G => w_X1_sort K post postX v0 v1 v2 G) := by
  refine tx_of (cc := cX1_sort) (maxL := 5) (ret := (some .int)) (own := RX1) (by decide) rfl rfl hll [.inr (.inr v0), .inl v1, .inl v2] rfl (Nat.le_of_ble_eq_true rfl) ?_
  intro p e s m args below meth c D A G ls C hr hn ht hl hW hS hw
  exact s_X1_sort C hr ht hll post postX v0 v1 v2 _ _ _ _ hW hS hl hw
