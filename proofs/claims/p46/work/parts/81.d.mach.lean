/-! L_sort -/
def wz_L_sort : List Cond := Cond.codeWith yL_sort cL_sort 5 (some .int) [(0, 11, 14, 19)] :: w0
section Z_L_sort
variable {p : Program} {l : Launch} {e : Env} {s : State} {m : MethodId} {args : Array Value} {below : List Frame} {meth : Method} {c : Code} {D : va_G} {A : Nat → Prop}
set_option maxHeartbeats 4000000 in
set_option maxRecDepth 100000 in
theorem s_L_sort {K : tK} (C : tc_B p l s m args meth c D K A wz_L_sort RL cL_sort 5) (hr : meth.sig.returnType = (some .int)) (htab : c.exceptionTable.toList = tableOf [(0, 11, 14, 19)]) (hcC : kx_C s) (hll : l.stackTraces = false)  (post : Int32 → tG → Prop) (v0 : Option Nat) (v1 : Int32) (v2 : Int32) (v3 : Option Nat) : ∀ (G : tG) (H : Heap) (locs : List Loc) (ls : Array Slot), tg_W D A s H G → va_S A s.heap H locs → tl ls 5 [(0, .inr (.inr v0)), (1, .inl v1), (2, .inl v2), (3, .inr (.inr v3))] → w_L_sort K post v0 v1 v2 v3 G → W p l e ({ frames := 8, cells := 1, slots := 6, locals := 128 } : Room) s m args below meth c H locs 0 0 (vx_MQ below (tc_Qc D A (retI post)) (tc_XC D A (fun _ _ => False)) args s 1 6 A) (F0 m 0 ls []) := by
  intro G H locs ls hW hS hl hw
  unfold w_L_sort at hw
  refine tr_aload_n (k := 3) (x := v3) C hl 3 rfl dL_sort_0 ?_
  refine tr_aload_n (k := 0) (x := v0) C hl 0 rfl dL_sort_1 ?_
  refine tr_iload_n (k := 1) (x := v1) C hl 1 rfl dL_sort_2 ?_
  refine tr_iload_n (k := 2) (x := v2) C hl 2 rfl dL_sort_3 ?_
  refine tx_backCI (tx_runV (r := v0) (As := [.int v1, .int v2]) C hl.1 (c_X1_sort l hll K _ _ v0 v1 v2) (cwV 2 C.1.2.2.2.2 (gi_V (zm kw_334) (zm kw_335) (zm kw_336) (zm kw_33) (zm kw_333)) rfl rfl rfl (by decide +kernel) ⟨(Nat.le_of_ble_eq_true rfl), (Nat.le_of_ble_eq_true rfl)⟩) rfl rfl dL_sort_4 ⟨(Nat.le_of_ble_eq_true rfl), (Nat.le_of_ble_eq_true rfl)⟩ [.inr (.inr v3)] rfl (Nat.le_of_ble_eq_true rfl) rfl hW hS hw) hS (fun E ce q9 GX H locs hw hW hS hce hcv hcl => ?_) (fun x_4 G_4 H locs hw hW hS => ?_)
  · by_cases hq0 : E = "java/lang/IndexOutOfBoundsException"
    · replace hw := hw.1 hq0
      subst hq0
      refine vx_catch (name := "java/lang/IndexOutOfBoundsException") C.1.2.2.2.1 [] (⟨0, 11, 14, 19⟩ : ExceptionTableEntry) [] (by rw [htab]; rfl) (fun z hz => nomatch hz) (by decide) (by decide) (C.1.2.2.2.2 _ (zm kw_209)) hcC.2.2.1 hce hcv hcl ?_
      refine tr_astore (x := (some q9)) C hl [(4, .inr (.inr (some q9))), (0, .inr (.inr v0)), (1, .inl v1), (2, .inl v2), (3, .inr (.inr v3))] (by decide) rfl dL_sort_14 (fun ls hl => ?_)
      refine lv_iconst (v := (1 : Int32)) C.1.1 C.1.2.1 dL_sort_16 (by decide) ?_
      exact vx_ret (tr_iret C hr dL_sort_17 (Nat.le_of_ble_eq_true rfl) (Nat.le_of_ble_eq_true rfl) hW hS hw)
    replace hw := hw.2 hq0
    exact hw.elim
  · refine lv_i2l (v := ((x_4).toInt64)) C.1.1 C.1.2.1 dL_sort_7 rfl ?_
    refine tr_pfN (C0 := RX2) (T := TX2) (N := 2) (ci := 4) (ref := "TwinrowLaw$Out") (host := "TwinrowLaw") (k := 0) (ty := .long) (v := .long (((x_4).toInt64))) (r := v3) C (zh hw_X2) tyX2 tyX2_ok nmX2 rfl (by decide) hcC.1 rfl rfl (by decide +kernel) rfl rfl dL_sort_8 hW hS hw (fun G_8 H locs hw hW hS => ?_)
    refine lv_goto (tgt := 18) C.1.1 C.1.2.1 dL_sort_11 (by decide) ?_
    refine lv_iconst (v := (0 : Int32)) C.1.1 C.1.2.1 dL_sort_18 (by decide) ?_
    exact vx_ret (tr_iret C hr dL_sort_19 (Nat.le_of_ble_eq_true rfl) (Nat.le_of_ble_eq_true rfl) hW hS hw)
end Z_L_sort
set_option maxHeartbeats 4000000 in
set_option maxRecDepth 100000 in
theorem c_L_sort (l : Launch) (hll : l.stackTraces = false) (K : tK) (post : Int32 → tG → Prop) (v0 : Option Nat) (v1 : Int32) (v2 : Int32) (v3 : Option Nat) : Cx l yL_sort wz_L_sort ({ frames := 8, cells := 1, slots := 6, locals := 128 } : Room) 1 6 [va_rf v0, .int v1, .int v2, va_rf v3] K (retI post) (fun _ _ => False) (fun G => w_L_sort K post v0 v1 v2 v3 G) := by
  refine tx_ofH (cc := cL_sort) (maxL := 5) (ret := (some .int)) (own := RL) (hh := [(0, 11, 14, 19)]) (by decide) rfl rfl hll [.inr (.inr v0), .inl v1, .inl v2, .inr (.inr v3)] rfl (Nat.le_of_ble_eq_true rfl) ?_
  intro p e s m args below meth c D A G ls C hr htab hcC hl hW hS hw
  exact s_L_sort C hr htab hcC hll post v0 v1 v2 v3 _ _ _ _ hW hS hl hw

/-! X3_sort -/
def wz_X3_sort : List Cond := Cond.code yX3_sort cX3_sort 7 (some .int) :: w0
section Z_X3_sort
variable {p : Program} {l : Launch} {e : Env} {s : State} {m : MethodId} {args : Array Value} {below : List Frame} {meth : Method} {c : Code} {D : va_G} {A : Nat → Prop}
set_option maxHeartbeats 4000000 in
set_option maxRecDepth 100000 in
theorem s_X3_sort_76 {K : tK} (C : tc_B p l s m args meth c D K A wz_X3_sort RX3 cX3_sort 7) (hr : meth.sig.returnType = (some .int)) (hll : l.stackTraces = false)  (post : Int32 → tG → Prop) (k38 : Option Nat → Int32 → Int32 → Option Nat → Int32 → Int32 → tG → Prop) (k53 : Option Nat → Int32 → Int32 → Option Nat → Int32 → Int32 → Int32 → tG → Prop) (hk38 : ∀ (v0 : Option Nat) (v1 : Int32) (v2 : Int32) (v3 : Option Nat) (v4 : Int32) (v5 : Int32) (G : tG) (H : Heap) (locs : List Loc) (ls : Array Slot), tg_W D A s H G → va_S A s.heap H locs → tl ls 7 [(0, .inr (.inr v0)), (1, .inl v1), (2, .inl v2), (3, .inr (.inr v3)), (4, .inl v4), (5, .inl v5)] → k38 v0 v1 v2 v3 v4 v5 G → W p l e ({ frames := 2, cells := 1, slots := 12, locals := 46 } : Room) s m args below meth c H locs 1 12 (MQ below (tc_Qc D A (retI post)) args s 1 12 A) (F0 m 38 ls [])) (hk53 : ∀ (v0 : Option Nat) (v1 : Int32) (v2 : Int32) (v3 : Option Nat) (v4 : Int32) (v5 : Int32) (v6 : Int32) (G : tG) (H : Heap) (locs : List Loc) (ls : Array Slot), tg_W D A s H G → va_S A s.heap H locs → tl ls 7 [(0, .inr (.inr v0)), (1, .inl v1), (2, .inl v2), (3, .inr (.inr v3)), (4, .inl v4), (5, .inl v5), (6, .inl v6)] → k53 v0 v1 v2 v3 v4 v5 v6 G → W p l e ({ frames := 2, cells := 1, slots := 12, locals := 46 } : Room) s m args below meth c H locs 1 12 (MQ below (tc_Qc D A (retI post)) args s 1 12 A) (F0 m 53 ls [])) : ∀ (v0 : Option Nat) (v1 : Int32) (v2 : Int32) (v3 : Option Nat) (v4 : Int32) (v5 : Int32) (v6 : Int32) (u0 : Option Nat) (u1 : Int32) (u2 : Int32) (G : tG) (H : Heap) (locs : List Loc) (ls : Array Slot), tg_W D A s H G → va_S A s.heap H locs → tl ls 7 [(0, .inr (.inr v0)), (1, .inl v1), (2, .inl v2), (3, .inr (.inr v3)), (4, .inl v4), (5, .inl v5), (6, .inl v6)] → w_X3_sort_76 K post k38 k53 v0 v1 v2 v3 v4 v5 v6 u0 u1 u2 G → W p l e ({ frames := 2, cells := 1, slots := 12, locals := 46 } : Room) s m args below meth c H locs 1 12 (MQ below (tc_Qc D A (retI post)) args s 1 12 A) (F0 m 76 ls [.int u2, .int u1, va_rf u0]) := by
  intro v0 v1 v2 v3 v4 v5 v6 u0 u1 u2 G H locs ls hW hS hl hw
  unfold w_X3_sort_76 at hw
  refine tr_iload (x := v5) C hl 5 rfl dX3_sort_76 ?_
  refine tr_backV (tr_runV (r := u0) (As := [.int u1, .int u2, .int v5]) C hl.1 (c_X3_write l hll K _ u0 u1 u2 v5) (cwV 3 C.1.2.2.2.2 (gi_V (zm kw_308) (zm kw_309) (zm kw_310) (zm kw_155) (zm kw_307)) rfl rfl rfl (by decide +kernel) ⟨(Nat.le_of_ble_eq_true rfl), (Nat.le_of_ble_eq_true rfl)⟩) rfl rfl dX3_sort_78 ⟨(Nat.le_of_ble_eq_true rfl), (Nat.le_of_ble_eq_true rfl)⟩ [] rfl (Nat.le_of_ble_eq_true rfl) rfl hW hS hw) hS (fun G_78 H locs hw hW hS => ?_)
  refine tr_iinc C hl 4 (v4 + (1 : Int32)) [(4, .inl (v4 + (1 : Int32))), (0, .inr (.inr v0)), (1, .inl v1), (2, .inl v2), (3, .inr (.inr v3)), (5, .inl v5), (6, .inl v6)] rfl rfl (by decide) rfl dX3_sort_81 (fun ls hl => ?_)
  refine tr_iinc C hl 6 (v6 + (-1 : Int32)) [(6, .inl (v6 + (-1 : Int32))), (4, .inl (v4 + (1 : Int32))), (0, .inr (.inr v0)), (1, .inl v1), (2, .inl v2), (3, .inr (.inr v3)), (5, .inl v5)] rfl (congrArg (fun z => v6 + z) (show Int32.ofInt (-1) = (-1 : Int32) by decide)) (by decide) rfl dX3_sort_84 (fun ls hl => ?_)
  refine lv_goto (tgt := 53) C.1.1 C.1.2.1 dX3_sort_87 (by decide) ?_
  exact hk53 v0 v1 v2 v3 ((v4 + (1 : Int32))) v5 ((v6 + (-1 : Int32))) _ _ _ _ hW hS (tl_sub hl [2, 3, 4, 5, 1, 6, 0] rfl) hw
set_option maxHeartbeats 4000000 in
set_option maxRecDepth 100000 in
theorem s_X3_sort_53_b {K : tK} (C : tc_B p l s m args meth c D K A wz_X3_sort RX3 cX3_sort 7) (hr : meth.sig.returnType = (some .int)) (hll : l.stackTraces = false)  (post : Int32 → tG → Prop) (k38 : Option Nat → Int32 → Int32 → Option Nat → Int32 → Int32 → tG → Prop) (hk38 : ∀ (v0 : Option Nat) (v1 : Int32) (v2 : Int32) (v3 : Option Nat) (v4 : Int32) (v5 : Int32) (G : tG) (H : Heap) (locs : List Loc) (ls : Array Slot), tg_W D A s H G → va_S A s.heap H locs → tl ls 7 [(0, .inr (.inr v0)), (1, .inl v1), (2, .inl v2), (3, .inr (.inr v3)), (4, .inl v4), (5, .inl v5)] → k38 v0 v1 v2 v3 v4 v5 G → W p l e ({ frames := 2, cells := 1, slots := 12, locals := 46 } : Room) s m args below meth c H locs 1 12 (MQ below (tc_Qc D A (retI post)) args s 1 12 A) (F0 m 38 ls [])) (k53 : Option Nat → Int32 → Int32 → Option Nat → Int32 → Int32 → Int32 → tG → Prop) (hk53 : ∀ (v0 : Option Nat) (v1 : Int32) (v2 : Int32) (v3 : Option Nat) (v4 : Int32) (v5 : Int32) (v6 : Int32) (G : tG) (H : Heap) (locs : List Loc) (ls : Array Slot), tg_W D A s H G → va_S A s.heap H locs → tl ls 7 [(0, .inr (.inr v0)), (1, .inl v1), (2, .inl v2), (3, .inr (.inr v3)), (4, .inl v4), (5, .inl v5), (6, .inl v6)] → k53 v0 v1 v2 v3 v4 v5 v6 G → W p l e ({ frames := 2, cells := 1, slots := 12, locals := 46 } : Room) s m args below meth c H locs 1 12 (MQ below (tc_Qc D A (retI post)) args s 1 12 A) (F0 m 53 ls [])) : ∀ (v0 : Option Nat) (v1 : Int32) (v2 : Int32) (v3 : Option Nat) (v4 : Int32) (v5 : Int32) (v6 : Int32) (G : tG) (H : Heap) (locs : List Loc) (ls : Array Slot), tg_W D A s H G → va_S A s.heap H locs → tl ls 7 [(0, .inr (.inr v0)), (1, .inl v1), (2, .inl v2), (3, .inr (.inr v3)), (4, .inl v4), (5, .inl v5), (6, .inl v6)] → w_X3_sort_53_b K post k38 k53 v0 v1 v2 v3 v4 v5 v6 G → W p l e ({ frames := 2, cells := 1, slots := 12, locals := 46 } : Room) s m args below meth c H locs 1 12 (MQ below (tc_Qc D A (retI post)) args s 1 12 A) (F0 m 53 ls []) := by
  intro v0 v1 v2 v3 v4 v5 v6 G H locs ls hW hS hl hw
  unfold w_X3_sort_53_b at hw
  refine tr_iload (x := v6) C hl 6 rfl dX3_sort_53 ?_
  refine lv_if_le (tgt := 90) C.1.1 C.1.2.1 dX3_sort_55 (by decide) (fun hc => ?_) (fun hc => ?_)
  · have hw := hw.1 hc
    refine tr_iinc C hl 5 (v5 + (1 : Int32)) [(5, .inl (v5 + (1 : Int32))), (0, .inr (.inr v0)), (1, .inl v1), (2, .inl v2), (3, .inr (.inr v3)), (4, .inl v4), (6, .inl v6)] rfl rfl (by decide) rfl dX3_sort_90 (fun ls hl => ?_)
    refine lv_goto (tgt := 38) C.1.1 C.1.2.1 dX3_sort_93 (by decide) ?_
    exact hk38 v0 v1 v2 v3 v4 ((v5 + (1 : Int32))) _ _ _ _ hW hS (tl_sub hl [1, 2, 3, 4, 5, 0] rfl) hw
  · have hw := hw.2 hc
    refine tr_aload_n (k := 0) (x := v0) C hl 0 rfl dX3_sort_58 ?_
    refine tr_iload_n (k := 1) (x := v1) C hl 1 rfl dX3_sort_59 ?_
    refine tr_iload_n (k := 2) (x := v2) C hl 2 rfl dX3_sort_60 ?_
    refine lv_if_eq (tgt := 74) C.1.1 C.1.2.1 dX3_sort_61 (by decide) (fun hc => ?_) (fun hc => ?_)
    · have hw := hw.1 hc
      refine tr_iload (x := v4) C hl 4 rfl dX3_sort_74 ?_
      exact s_X3_sort_76 C hr hll post k38 k53 hk38 hk53 v0 v1 v2 v3 v4 v5 v6 v0 v1 v4 _ _ _ _ hW hS (tl_sub hl [0, 1, 2, 3, 4, 5, 6] rfl) hw
    · have hw := hw.2 hc
      refine tr_aload_n (k := 3) (x := v3) C hl 3 rfl dX3_sort_64 ?_
      refine tr_len (r := v3) C dX3_sort_65 hW hw (fun x_65 hw => ?_)
      refine lv_iconst (v := (1 : Int32)) C.1.1 C.1.2.1 dX3_sort_66 (by decide) ?_
      refine lv_isub C.1.1 C.1.2.1 dX3_sort_67 ?_
      refine tr_iload (x := v4) C hl 4 rfl dX3_sort_68 ?_
      refine lv_isub C.1.1 C.1.2.1 dX3_sort_70 ?_
      refine lv_goto (tgt := 76) C.1.1 C.1.2.1 dX3_sort_71 (by decide) ?_
      exact s_X3_sort_76 C hr hll post k38 k53 hk38 hk53 v0 v1 v2 v3 v4 v5 v6 v0 v1 (((x_65 - (1 : Int32)) - v4)) _ _ _ _ hW hS (tl_sub hl [0, 1, 2, 3, 4, 5, 6] rfl) hw
set_option maxHeartbeats 4000000 in
set_option maxRecDepth 100000 in
theorem s_X3_sort_53 {K : tK} (C : tc_B p l s m args meth c D K A wz_X3_sort RX3 cX3_sort 7) (hr : meth.sig.returnType = (some .int)) (hll : l.stackTraces = false)  (post : Int32 → tG → Prop) (k38 : Option Nat → Int32 → Int32 → Option Nat → Int32 → Int32 → tG → Prop) (hk38 : ∀ (v0 : Option Nat) (v1 : Int32) (v2 : Int32) (v3 : Option Nat) (v4 : Int32) (v5 : Int32) (G : tG) (H : Heap) (locs : List Loc) (ls : Array Slot), tg_W D A s H G → va_S A s.heap H locs → tl ls 7 [(0, .inr (.inr v0)), (1, .inl v1), (2, .inl v2), (3, .inr (.inr v3)), (4, .inl v4), (5, .inl v5)] → k38 v0 v1 v2 v3 v4 v5 G → W p l e ({ frames := 2, cells := 1, slots := 12, locals := 46 } : Room) s m args below meth c H locs 1 12 (MQ below (tc_Qc D A (retI post)) args s 1 12 A) (F0 m 38 ls [])) : ∀ (n : Nat) (v0 : Option Nat) (v1 : Int32) (v2 : Int32) (v3 : Option Nat) (v4 : Int32) (v5 : Int32) (v6 : Int32) (G : tG) (H : Heap) (locs : List Loc) (ls : Array Slot), tg_W D A s H G → va_S A s.heap H locs → tl ls 7 [(0, .inr (.inr v0)), (1, .inl v1), (2, .inl v2), (3, .inr (.inr v3)), (4, .inl v4), (5, .inl v5), (6, .inl v6)] → w_X3_sort_53 K post k38 n v0 v1 v2 v3 v4 v5 v6 G → W p l e ({ frames := 2, cells := 1, slots := 12, locals := 46 } : Room) s m args below meth c H locs 1 12 (MQ below (tc_Qc D A (retI post)) args s 1 12 A) (F0 m 53 ls []) := by
  intro n
  induction n with
  | zero =>
    intro v0 v1 v2 v3 v4 v5 v6 G H locs ls hW hS hl hw
    exact hw.elim
  | succ n ih => exact s_X3_sort_53_b C hr hll post k38 hk38 _ ih
set_option maxHeartbeats 4000000 in
set_option maxRecDepth 100000 in
theorem s_X3_sort_38_b {K : tK} (C : tc_B p l s m args meth c D K A wz_X3_sort RX3 cX3_sort 7) (hr : meth.sig.returnType = (some .int)) (hll : l.stackTraces = false)  (post : Int32 → tG → Prop) (k38 : Option Nat → Int32 → Int32 → Option Nat → Int32 → Int32 → tG → Prop) (hk38 : ∀ (v0 : Option Nat) (v1 : Int32) (v2 : Int32) (v3 : Option Nat) (v4 : Int32) (v5 : Int32) (G : tG) (H : Heap) (locs : List Loc) (ls : Array Slot), tg_W D A s H G → va_S A s.heap H locs → tl ls 7 [(0, .inr (.inr v0)), (1, .inl v1), (2, .inl v2), (3, .inr (.inr v3)), (4, .inl v4), (5, .inl v5)] → k38 v0 v1 v2 v3 v4 v5 G → W p l e ({ frames := 2, cells := 1, slots := 12, locals := 46 } : Room) s m args below meth c H locs 1 12 (MQ below (tc_Qc D A (retI post)) args s 1 12 A) (F0 m 38 ls [])) : ∀ (v0 : Option Nat) (v1 : Int32) (v2 : Int32) (v3 : Option Nat) (v4 : Int32) (v5 : Int32) (G : tG) (H : Heap) (locs : List Loc) (ls : Array Slot), tg_W D A s H G → va_S A s.heap H locs → tl ls 7 [(0, .inr (.inr v0)), (1, .inl v1), (2, .inl v2), (3, .inr (.inr v3)), (4, .inl v4), (5, .inl v5)] → w_X3_sort_38_b K post k38 v0 v1 v2 v3 v4 v5 G → W p l e ({ frames := 2, cells := 1, slots := 12, locals := 46 } : Room) s m args below meth c H locs 1 12 (MQ below (tc_Qc D A (retI post)) args s 1 12 A) (F0 m 38 ls []) := by
  intro v0 v1 v2 v3 v4 v5 G H locs ls hW hS hl hw
  unfold w_X3_sort_38_b at hw
  refine tr_iload (x := v5) C hl 5 rfl dX3_sort_38 ?_
  refine lv_bipush (v := (99 : Int32)) C.1.1 C.1.2.1 dX3_sort_40 (by decide) ?_
  refine lv_icmp_gt (tgt := 96) C.1.1 C.1.2.1 dX3_sort_42 (by decide) (fun hc => ?_) (fun hc => ?_)
  · have hw := hw.1 hc
    refine tr_aload_n (k := 3) (x := v3) C hl 3 rfl dX3_sort_96 ?_
    refine tr_len (r := v3) C dX3_sort_97 hW hw (fun x_97 hw => ?_)
    exact tr_iret C hr dX3_sort_98 (Nat.le_of_ble_eq_true rfl) (Nat.le_of_ble_eq_true rfl) hW hS hw
  · have hw := hw.2 hc
    refine tr_aload_n (k := 3) (x := v3) C hl 3 rfl dX3_sort_45 ?_
    refine tr_iload (x := v5) C hl 5 rfl dX3_sort_46 ?_
    refine tr_backI (tr_runS (As := [va_rf v3, .int v5]) C hl.1 (c_X3_oftenIn l hll K _ v3 v5) (va_cwS 2 C.1.2.2.2.2 (gi_S (zm kw_254) (zm kw_255) (zm kw_155) (zm kw_253)) rfl rfl rfl (by decide +kernel) ⟨(Nat.le_of_ble_eq_true rfl), (Nat.le_of_ble_eq_true rfl)⟩) rfl dX3_sort_48 ⟨(Nat.le_of_ble_eq_true rfl), (Nat.le_of_ble_eq_true rfl)⟩ [] rfl (Nat.le_of_ble_eq_true rfl) rfl hW hS hw) hS (fun x_48 G_48 H locs hw hW hS => ?_)
    refine tr_istore (x := x_48) C hl [(6, .inl x_48), (0, .inr (.inr v0)), (1, .inl v1), (2, .inl v2), (3, .inr (.inr v3)), (4, .inl v4), (5, .inl v5)] (by decide) rfl dX3_sort_51 (fun ls hl => ?_)
    obtain ⟨n53, hw⟩ := hw
    exact s_X3_sort_53 C hr hll post k38 hk38 n53 v0 v1 v2 v3 v4 v5 x_48 _ _ _ _ hW hS (tl_sub hl [1, 2, 3, 4, 5, 6, 0] rfl) hw
set_option maxHeartbeats 4000000 in
set_option maxRecDepth 100000 in
theorem s_X3_sort_38 {K : tK} (C : tc_B p l s m args meth c D K A wz_X3_sort RX3 cX3_sort 7) (hr : meth.sig.returnType = (some .int)) (hll : l.stackTraces = false)  (post : Int32 → tG → Prop) : ∀ (n : Nat) (v0 : Option Nat) (v1 : Int32) (v2 : Int32) (v3 : Option Nat) (v4 : Int32) (v5 : Int32) (G : tG) (H : Heap) (locs : List Loc) (ls : Array Slot), tg_W D A s H G → va_S A s.heap H locs → tl ls 7 [(0, .inr (.inr v0)), (1, .inl v1), (2, .inl v2), (3, .inr (.inr v3)), (4, .inl v4), (5, .inl v5)] → w_X3_sort_38 K post n v0 v1 v2 v3 v4 v5 G → W p l e ({ frames := 2, cells := 1, slots := 12, locals := 46 } : Room) s m args below meth c H locs 1 12 (MQ below (tc_Qc D A (retI post)) args s 1 12 A) (F0 m 38 ls []) := by
  intro n
  induction n with
  | zero =>
    intro v0 v1 v2 v3 v4 v5 G H locs ls hW hS hl hw
    exact hw.elim
  | succ n ih => exact s_X3_sort_38_b C hr hll post _ ih
set_option maxHeartbeats 4000000 in
set_option maxRecDepth 100000 in
theorem s_X3_sort_15 {K : tK} (C : tc_B p l s m args meth c D K A wz_X3_sort RX3 cX3_sort 7) (hr : meth.sig.returnType = (some .int)) (hll : l.stackTraces = false)  (post : Int32 → tG → Prop) : ∀ (v0 : Option Nat) (v1 : Int32) (v2 : Int32) (u0 : Option Nat) (u1 : Int32) (G : tG) (H : Heap) (locs : List Loc) (ls : Array Slot), tg_W D A s H G → va_S A s.heap H locs → tl ls 7 [(0, .inr (.inr v0)), (1, .inl v1), (2, .inl v2)] → w_X3_sort_15 K post v0 v1 v2 u0 u1 G → W p l e ({ frames := 2, cells := 1, slots := 12, locals := 46 } : Room) s m args below meth c H locs 0 0 (MQ below (tc_Qc D A (retI post)) args s 1 12 A) (F0 m 15 ls [.int u1, va_rf u0]) := by
  intro v0 v1 v2 u0 u1 G H locs ls hW hS hl hw
  unfold w_X3_sort_15 at hw
  refine lv_iconst (v := (0 : Int32)) C.1.1 C.1.2.1 dX3_sort_15 (by decide) ?_
  refine tr_backI (tr_runV (r := u0) (As := [.int u1, .int ((0 : Int32))]) C hl.1 (c_X3_fails l hll K _ u0 u1 ((0 : Int32))) (cwV 2 C.1.2.2.2.2 (gi_V (zm kw_190) (zm kw_191) (zm kw_192) (zm kw_155) (zm kw_189)) rfl rfl rfl (by decide +kernel) ⟨(Nat.le_of_ble_eq_true rfl), (Nat.le_of_ble_eq_true rfl)⟩) rfl rfl dX3_sort_16 ⟨(Nat.le_of_ble_eq_true rfl), (Nat.le_of_ble_eq_true rfl)⟩ [] rfl (Nat.le_of_ble_eq_true rfl) rfl hW hS hw) hS (fun x_16 G_16 H locs hw hW hS => ?_)
  refine lv_if_eq (tgt := 24) C.1.1 C.1.2.1 dX3_sort_19 (by decide) (fun hc => ?_) (fun hc => ?_)
  · have hw := hw.1 hc
    refine tr_aload_n (k := 0) (x := v0) C hl 0 rfl dX3_sort_24 ?_
    refine tr_iload_n (k := 1) (x := v1) C hl 1 rfl dX3_sort_25 ?_
    refine tr_backR (tr_runV (r := v0) (As := [.int v1]) C hl.1 (c_X3_all l hll K _ v0 v1) (cwV 1 C.1.2.2.2.2 (gi_V (zm kw_157) (zm kw_158) (zm kw_159) (zm kw_155) (zm kw_156)) rfl rfl rfl (by decide +kernel) ⟨(Nat.le_of_ble_eq_true rfl), (Nat.le_of_ble_eq_true rfl)⟩) rfl rfl dX3_sort_26 ⟨(Nat.le_of_ble_eq_true rfl), (Nat.le_of_ble_eq_true rfl)⟩ [] rfl (Nat.le_of_ble_eq_true rfl) rfl hW hS hw) hS (fun x_26 G_26 H locs hw hW hS => ?_)
    refine tr_astore_n (k := 3) (x := x_26) C hl [(3, .inr (.inr x_26)), (0, .inr (.inr v0)), (1, .inl v1), (2, .inl v2)] (by decide) rfl dX3_sort_29 (fun ls hl => ?_)
    refine lv_iconst (v := (0 : Int32)) C.1.1 C.1.2.1 dX3_sort_30 (by decide) ?_
    refine tr_istore (x := (0 : Int32)) C hl [(4, .inl (0 : Int32)), (3, .inr (.inr x_26)), (0, .inr (.inr v0)), (1, .inl v1), (2, .inl v2)] (by decide) rfl dX3_sort_31 (fun ls hl => ?_)
    refine lv_sipush (v := (-1000 : Int32)) C.1.1 C.1.2.1 dX3_sort_33 (by decide) ?_
    refine tr_istore (x := (-1000 : Int32)) C hl [(5, .inl (-1000 : Int32)), (4, .inl (0 : Int32)), (3, .inr (.inr x_26)), (0, .inr (.inr v0)), (1, .inl v1), (2, .inl v2)] (by decide) rfl dX3_sort_36 (fun ls hl => ?_)
    obtain ⟨n38, hw⟩ := hw
    exact s_X3_sort_38 C hr hll post n38 v0 v1 v2 x_26 ((0 : Int32)) ((-1000 : Int32)) _ _ _ _ hW hS (tl_sub hl [3, 4, 5, 2, 1, 0] rfl) hw
  · have hw := hw.2 hc
    refine lv_iconst (v := (0 : Int32)) C.1.1 C.1.2.1 dX3_sort_22 (by decide) ?_
    exact tr_iret C hr dX3_sort_23 (Nat.le_of_ble_eq_true rfl) (Nat.le_of_ble_eq_true rfl) hW hS hw
set_option maxHeartbeats 4000000 in
set_option maxRecDepth 100000 in
theorem s_X3_sort {K : tK} (C : tc_B p l s m args meth c D K A wz_X3_sort RX3 cX3_sort 7) (hr : meth.sig.returnType = (some .int)) (hll : l.stackTraces = false)  (post : Int32 → tG → Prop) (v0 : Option Nat) (v1 : Int32) (v2 : Int32) : ∀ (G : tG) (H : Heap) (locs : List Loc) (ls : Array Slot), tg_W D A s H G → va_S A s.heap H locs → tl ls 7 [(0, .inr (.inr v0)), (1, .inl v1), (2, .inl v2)] → w_X3_sort K post v0 v1 v2 G → W p l e ({ frames := 2, cells := 1, slots := 12, locals := 46 } : Room) s m args below meth c H locs 0 0 (MQ below (tc_Qc D A (retI post)) args s 1 12 A) (F0 m 0 ls []) := by
  intro G H locs ls hW hS hl hw
  unfold w_X3_sort at hw
  refine tr_aload_n (k := 0) (x := v0) C hl 0 rfl dX3_sort_0 ?_
  refine tr_iload_n (k := 1) (x := v1) C hl 1 rfl dX3_sort_1 ?_
  refine lv_iconst (v := (0 : Int32)) C.1.1 C.1.2.1 dX3_sort_2 (by decide) ?_
  refine lv_iconst (v := (2 : Int32)) C.1.1 C.1.2.1 dX3_sort_3 (by decide) ?_
  refine tr_backI (tr_runS (As := [.int v1, .int ((0 : Int32)), .int ((2 : Int32))]) C hl.1 (c_X3_isIn l hll K _ v1 ((0 : Int32)) ((2 : Int32))) (va_cwS 3 C.1.2.2.2.2 (gi_S (zm kw_194) (zm kw_195) (zm kw_155) (zm kw_193)) rfl rfl rfl (by decide +kernel) ⟨(Nat.le_of_ble_eq_true rfl), (Nat.le_of_ble_eq_true rfl)⟩) rfl dX3_sort_4 ⟨(Nat.le_of_ble_eq_true rfl), (Nat.le_of_ble_eq_true rfl)⟩ [.inr (.inr v0)] rfl (Nat.le_of_ble_eq_true rfl) rfl hW hS hw) hS (fun x_4 G_4 H locs hw hW hS => ?_)
  refine lv_if_ne (tgt := 14) C.1.1 C.1.2.1 dX3_sort_7 (by decide) (fun hc => ?_) (fun hc => ?_)
  · have hw := hw.1 hc
    refine lv_iconst (v := (0 : Int32)) C.1.1 C.1.2.1 dX3_sort_14 (by decide) ?_
    exact s_X3_sort_15 C hr hll post v0 v1 v2 v0 ((0 : Int32)) _ _ _ _ hW hS (tl_sub hl [0, 1, 2] rfl) hw
  · have hw := hw.2 hc
    refine lv_iconst (v := (1 : Int32)) C.1.1 C.1.2.1 dX3_sort_10 (by decide) ?_
    refine lv_goto (tgt := 15) C.1.1 C.1.2.1 dX3_sort_11 (by decide) ?_
    exact s_X3_sort_15 C hr hll post v0 v1 v2 v0 ((1 : Int32)) _ _ _ _ hW hS (tl_sub hl [0, 1, 2] rfl) hw
end Z_X3_sort
set_option maxHeartbeats 4000000 in
set_option maxRecDepth 100000 in
theorem c_X3_sort (l : Launch) (hll : l.stackTraces = false) (K : tK) (post : Int32 → tG → Prop) (v0 : Option Nat) (v1 : Int32) (v2 : Int32) : Ct l yX3_sort wz_X3_sort ({ frames := 2, cells := 1, slots := 12, locals := 46 } : Room) 1 12 [va_rf v0, .int v1, .int v2] K (retI post) (fun G => w_X3_sort K post v0 v1 v2 G) := by
  refine tc_of (cc := cX3_sort) (maxL := 7) (ret := (some .int)) (own := RX3) (plainFor_of_name (by decide)) rfl rfl hll [.inr (.inr v0), .inl v1, .inl v2] rfl (Nat.le_of_ble_eq_true rfl) ?_
  intro p e s m args below meth c D A G ls C hr hn ht hl hW hS hw
  exact s_X3_sort C hr hll post v0 v1 v2 _ _ _ _ hW hS hl hw

/-! X1_writeAll -/
def wz_X1_writeAll : List Cond := Cond.code yX1_writeAll cX1_writeAll 3 none :: w0
section Z_X1_writeAll
variable {p : Program} {l : Launch} {e : Env} {s : State} {m : MethodId} {args : Array Value} {below : List Frame} {meth : Method} {c : Code} {D : va_G} {A : Nat → Prop}
set_option maxHeartbeats 4000000 in
set_option maxRecDepth 100000 in
theorem s_X1_writeAll_2_b {K : tK} (C : tc_B p l s m args meth c D K A wz_X1_writeAll RX1 cX1_writeAll 3) (hr : meth.sig.returnType = none) (hll : l.stackTraces = false)  (post : tG → Prop) (k2 : Option Nat → Int32 → Int32 → tG → Prop) (hk2 : ∀ (v0 : Option Nat) (v1 : Int32) (v2 : Int32) (G : tG) (H : Heap) (locs : List Loc) (ls : Array Slot), tg_W D A s H G → va_S A s.heap H locs → tl ls 3 [(0, .inr (.inr v0)), (1, .inl v1), (2, .inl v2)] → k2 v0 v1 v2 G → W p l e ({ frames := 2, cells := 0, slots := 0, locals := 46 } : Room) s m args below meth c H locs 0 0 (MQ below (tc_Qc D A (retV post)) args s 0 0 A) (F0 m 2 ls [])) : ∀ (v0 : Option Nat) (v1 : Int32) (v2 : Int32) (G : tG) (H : Heap) (locs : List Loc) (ls : Array Slot), tg_W D A s H G → va_S A s.heap H locs → tl ls 3 [(0, .inr (.inr v0)), (1, .inl v1), (2, .inl v2)] → w_X1_writeAll_2_b K post k2 v0 v1 v2 G → W p l e ({ frames := 2, cells := 0, slots := 0, locals := 46 } : Room) s m args below meth c H locs 0 0 (MQ below (tc_Qc D A (retV post)) args s 0 0 A) (F0 m 2 ls []) := by
  intro v0 v1 v2 G H locs ls hW hS hl hw
  unfold w_X1_writeAll_2_b at hw
  refine tr_iload_n (k := 2) (x := v2) C hl 2 rfl dX1_writeAll_2 ?_
  refine tr_aload_n (k := 0) (x := v0) C hl 0 rfl dX1_writeAll_3 ?_
  refine tr_gfI (C0 := RX0) (T := TX0) (N := 4) (ci := 2) (ref := "Twinrow$RowList") (k := 3) (r := v0) C (zh hw_X0) rfl (by decide) (zm kw_34) rfl dX1_writeAll_4 hW hw (fun x_4 hw => ?_)
  refine lv_icmp_ge (tgt := 23) C.1.1 C.1.2.1 dX1_writeAll_7 (by decide) (fun hc => ?_) (fun hc => ?_)
  · have hw := hw.1 hc
    exact tr_vret C hr dX1_writeAll_23 (Nat.le_of_ble_eq_true rfl) (Nat.le_of_ble_eq_true rfl) hW hS hw
  · have hw := hw.2 hc
    refine tr_aload_n (k := 0) (x := v0) C hl 0 rfl dX1_writeAll_10 ?_
    refine tr_iload_n (k := 2) (x := v2) C hl 2 rfl dX1_writeAll_11 ?_
    refine tr_iload_n (k := 1) (x := v1) C hl 1 rfl dX1_writeAll_12 ?_
    refine tr_backI (tr_runV (r := v0) (As := [.int v2, .int v1]) C hl.1 (c_X0_write l hll K _ v0 v2 v1) (cwV 2 C.1.2.2.2.2 (gi_V (zm kw_47) (zm kw_48) (zm kw_49) (zm kw_10) (zm kw_46)) rfl rfl rfl (by decide +kernel) ⟨(Nat.le_of_ble_eq_true rfl), (Nat.le_of_ble_eq_true rfl)⟩) rfl rfl dX1_writeAll_13 ⟨(Nat.le_of_ble_eq_true rfl), (Nat.le_of_ble_eq_true rfl)⟩ [] rfl (Nat.le_of_ble_eq_true rfl) rfl hW hS hw) hS (fun x_13 G_13 H locs hw hW hS => ?_)
    refine lv_pop C.1.1 C.1.2.1 dX1_writeAll_16 rfl ?_
    refine tr_iinc C hl 2 (v2 + (1 : Int32)) [(2, .inl (v2 + (1 : Int32))), (0, .inr (.inr v0)), (1, .inl v1)] rfl rfl (by decide) rfl dX1_writeAll_17 (fun ls hl => ?_)
    refine lv_goto (tgt := 2) C.1.1 C.1.2.1 dX1_writeAll_20 (by decide) ?_
    exact hk2 v0 v1 ((v2 + (1 : Int32))) _ _ _ _ hW hS (tl_sub hl [1, 2, 0] rfl) hw
set_option maxHeartbeats 4000000 in
set_option maxRecDepth 100000 in
theorem s_X1_writeAll_2 {K : tK} (C : tc_B p l s m args meth c D K A wz_X1_writeAll RX1 cX1_writeAll 3) (hr : meth.sig.returnType = none) (hll : l.stackTraces = false)  (post : tG → Prop) : ∀ (n : Nat) (v0 : Option Nat) (v1 : Int32) (v2 : Int32) (G : tG) (H : Heap) (locs : List Loc) (ls : Array Slot), tg_W D A s H G → va_S A s.heap H locs → tl ls 3 [(0, .inr (.inr v0)), (1, .inl v1), (2, .inl v2)] → w_X1_writeAll_2 K post n v0 v1 v2 G → W p l e ({ frames := 2, cells := 0, slots := 0, locals := 46 } : Room) s m args below meth c H locs 0 0 (MQ below (tc_Qc D A (retV post)) args s 0 0 A) (F0 m 2 ls []) := by
  intro n
  induction n with
  | zero =>
    intro v0 v1 v2 G H locs ls hW hS hl hw
    exact hw.elim
  | succ n ih => exact s_X1_writeAll_2_b C hr hll post _ ih
set_option maxHeartbeats 4000000 in
set_option maxRecDepth 100000 in
theorem s_X1_writeAll {K : tK} (C : tc_B p l s m args meth c D K A wz_X1_writeAll RX1 cX1_writeAll 3) (hr : meth.sig.returnType = none) (hll : l.stackTraces = false)  (post : tG → Prop) (v0 : Option Nat) (v1 : Int32) : ∀ (G : tG) (H : Heap) (locs : List Loc) (ls : Array Slot), tg_W D A s H G → va_S A s.heap H locs → tl ls 3 [(0, .inr (.inr v0)), (1, .inl v1)] → w_X1_writeAll K post v0 v1 G → W p l e ({ frames := 2, cells := 0, slots := 0, locals := 46 } : Room) s m args below meth c H locs 0 0 (MQ below (tc_Qc D A (retV post)) args s 0 0 A) (F0 m 0 ls []) := by
  intro G H locs ls hW hS hl hw
  unfold w_X1_writeAll at hw
  refine lv_iconst (v := (0 : Int32)) C.1.1 C.1.2.1 dX1_writeAll_0 (by decide) ?_
  refine tr_istore_n (k := 2) (x := (0 : Int32)) C hl [(2, .inl (0 : Int32)), (0, .inr (.inr v0)), (1, .inl v1)] (by decide) rfl dX1_writeAll_1 (fun ls hl => ?_)
  obtain ⟨n2, hw⟩ := hw
  exact s_X1_writeAll_2 C hr hll post n2 v0 v1 ((0 : Int32)) _ _ _ _ hW hS (tl_sub hl [1, 2, 0] rfl) hw
end Z_X1_writeAll
set_option maxHeartbeats 4000000 in
set_option maxRecDepth 100000 in
theorem c_X1_writeAll (l : Launch) (hll : l.stackTraces = false) (K : tK) (post : tG → Prop) (v0 : Option Nat) (v1 : Int32) : Ct l yX1_writeAll wz_X1_writeAll ({ frames := 2, cells := 0, slots := 0, locals := 46 } : Room) 0 0 [va_rf v0, .int v1] K (retV post) (fun G => w_X1_writeAll K post v0 v1 G) := by
  refine tc_of (cc := cX1_writeAll) (maxL := 3) (ret := none) (own := RX1) (plainFor_of_name (by decide)) rfl rfl hll [.inr (.inr v0), .inl v1] rfl (Nat.le_of_ble_eq_true rfl) ?_
  intro p e s m args below meth c D A G ls C hr hn ht hl hW hS hw
  exact s_X1_writeAll C hr hll post v0 v1 _ _ _ _ hW hS hl hw

/-! X1_fill -/
def wz_X1_fill : List Cond := Cond.code yX1_fill cX1_fill 4 (some .int) :: w0
section Z_X1_fill
variable {p : Program} {l : Launch} {e : Env} {s : State} {m : MethodId} {args : Array Value} {below : List Frame} {meth : Method} {c : Code} {D : va_G} {A : Nat → Prop}
set_option maxHeartbeats 4000000 in
set_option maxRecDepth 100000 in
theorem s_X1_fill {K : tK} (C : tc_B p l s m args meth c D K A wz_X1_fill RX1 cX1_fill 4) (hr : meth.sig.returnType = (some .int)) (ht : ∀ x ∈ c.exceptionTable.toList, False) (hll : l.stackTraces = false)  (post : Int32 → tG → Prop) (postX : String → tG → Prop) (v0 : Option Nat) (v1 : Int32) (v2 : Int32) : ∀ (G : tG) (H : Heap) (locs : List Loc) (ls : Array Slot), tg_W D A s H G → va_S A s.heap H locs → tl ls 4 [(0, .inr (.inr v0)), (1, .inl v1), (2, .inl v2)] → w_X1_fill K post postX v0 v1 v2 G → W p l e ({ frames := 8, cells := 2, slots := 12, locals := 124 } : Room) s m args below meth c H locs 0 0 (vx_MQ below (tc_Qc D A (retI post)) (tc_XC D A postX) args s 2 12 A) (F0 m 0 ls []) := by
  intro G H locs ls hW hS hl hw
  unfold w_X1_fill at hw
  refine tr_aload_n (k := 0) (x := v0) C hl 0 rfl dX1_fill_0 ?_
  refine tr_iload_n (k := 1) (x := v1) C hl 1 rfl dX1_fill_1 ?_
  refine tx_backR (tx_runV (r := v0) (As := [.int v1]) C hl.1 (c_X1_listAt l hll K _ _ v0 v1) (cwV 1 C.1.2.2.2.2 (gi_V (zm kw_94) (zm kw_95) (zm kw_96) (zm kw_33) (zm kw_93)) rfl rfl rfl (by decide +kernel) ⟨(Nat.le_of_ble_eq_true rfl), (Nat.le_of_ble_eq_true rfl)⟩) rfl rfl dX1_fill_2 ⟨(Nat.le_of_ble_eq_true rfl), (Nat.le_of_ble_eq_true rfl)⟩ [] rfl (Nat.le_of_ble_eq_true rfl) rfl hW hS hw) hS C.2.1 ht (Nat.le_of_ble_eq_true rfl) (Nat.le_of_ble_eq_true rfl) (fun x_2 G_2 H locs hw hW hS => ?_)
  refine tr_astore_n (k := 3) (x := x_2) C hl [(3, .inr (.inr x_2)), (0, .inr (.inr v0)), (1, .inl v1), (2, .inl v2)] (by decide) rfl dX1_fill_5 (fun ls hl => ?_)
  refine tr_iload_n (k := 2) (x := v2) C hl 3 rfl dX1_fill_6 ?_
  refine tx_backV (tx_runS (As := [.int v2]) C hl.1 (c_X1_checkValue l hll K _ _ v2) (va_cwS 1 C.1.2.2.2.2 (gi_S (zm kw_269) (zm kw_270) (zm kw_33) (zm kw_268)) rfl rfl rfl (by decide +kernel) ⟨(Nat.le_of_ble_eq_true rfl), (Nat.le_of_ble_eq_true rfl)⟩) rfl dX1_fill_7 ⟨(Nat.le_of_ble_eq_true rfl), (Nat.le_of_ble_eq_true rfl)⟩ [] rfl (Nat.le_of_ble_eq_true rfl) rfl hW hS hw) hS C.2.1 ht (Nat.le_of_ble_eq_true rfl) (Nat.le_of_ble_eq_true rfl) (fun G_7 H locs hw hW hS => ?_)
  refine tr_aload_n (k := 3) (x := x_2) C hl 0 rfl dX1_fill_10 ?_
  refine tr_iload_n (k := 2) (x := v2) C hl 3 rfl dX1_fill_11 ?_
  refine tr_backV (tr_runS (As := [va_rf x_2, .int v2]) C hl.1 (c_X1_writeAll l hll K _ x_2 v2) (va_cwS 2 C.1.2.2.2.2 (gi_S (zm kw_338) (zm kw_339) (zm kw_33) (zm kw_337)) rfl rfl rfl (by decide +kernel) ⟨(Nat.le_of_ble_eq_true rfl), (Nat.le_of_ble_eq_true rfl)⟩) rfl dX1_fill_12 ⟨(Nat.le_of_ble_eq_true rfl), (Nat.le_of_ble_eq_true rfl)⟩ [] rfl (Nat.le_of_ble_eq_true rfl) rfl hW hS hw) hS (fun G_12 H locs hw hW hS => ?_)
  refine tr_aload_n (k := 3) (x := x_2) C hl 0 rfl dX1_fill_15 ?_
  refine tr_gfI (C0 := RX0) (T := TX0) (N := 4) (ci := 2) (ref := "Twinrow$RowList") (k := 3) (r := x_2) C (zh hw_X0) rfl (by decide) (zm kw_34) rfl dX1_fill_16 hW hw (fun x_16 hw => ?_)
  exact vx_ret (tr_iret C hr dX1_fill_19 (Nat.le_of_ble_eq_true rfl) (Nat.le_of_ble_eq_true rfl) hW hS hw)
end Z_X1_fill
set_option maxHeartbeats 4000000 in
set_option maxRecDepth 100000 in
theorem c_X1_fill (l : Launch) (hll : l.stackTraces = false) (K : tK) (post : Int32 → tG → Prop) (postX : String → tG → Prop) (v0 : Option Nat) (v1 : Int32) (v2 : Int32) : Cx l yX1_fill wz_X1_fill ({ frames := 8, cells := 2, slots := 12, locals := 124 } : Room) 2 12 [va_rf v0, .int v1, .int v2] K (retI post) postX (fun G => w_X1_fill K post postX v0 v1 v2 G) := by
  refine tx_of (cc := cX1_fill) (maxL := 4) (ret := (some .int)) (own := RX1) (by decide) rfl rfl hll [.inr (.inr v0), .inl v1, .inl v2] rfl (Nat.le_of_ble_eq_true rfl) ?_
  intro p e s m args below meth c D A G ls C hr hn ht hl hW hS hw
  exact s_X1_fill C hr ht hll post postX v0 v1 v2 _ _ _ _ hW hS hl hw

/-! L_fill -/
def wz_L_fill : List Cond := Cond.codeWith yL_fill cL_fill 5 (some .int) [(0, 11, 14, 19), (0, 11, 18, 21)] :: w0
section Z_L_fill
variable {p : Program} {l : Launch} {e : Env} {s : State} {m : MethodId} {args : Array Value} {below : List Frame} {meth : Method} {c : Code} {D : va_G} {A : Nat → Prop}
set_option maxHeartbeats 4000000 in
set_option maxRecDepth 100000 in
theorem s_L_fill {K : tK} (C : tc_B p l s m args meth c D K A wz_L_fill RL cL_fill 5) (hr : meth.sig.returnType = (some .int)) (htab : c.exceptionTable.toList = tableOf [(0, 11, 14, 19), (0, 11, 18, 21)]) (hcC : kx_C s) (hll : l.stackTraces = false)  (post : Int32 → tG → Prop) (v0 : Option Nat) (v1 : Int32) (v2 : Int32) (v3 : Option Nat) : ∀ (G : tG) (H : Heap) (locs : List Loc) (ls : Array Slot), tg_W D A s H G → va_S A s.heap H locs → tl ls 5 [(0, .inr (.inr v0)), (1, .inl v1), (2, .inl v2), (3, .inr (.inr v3))] → w_L_fill K post v0 v1 v2 v3 G → W p l e ({ frames := 9, cells := 2, slots := 12, locals := 147 } : Room) s m args below meth c H locs 0 0 (vx_MQ below (tc_Qc D A (retI post)) (tc_XC D A (fun _ _ => False)) args s 2 12 A) (F0 m 0 ls []) := by
  intro G H locs ls hW hS hl hw
  unfold w_L_fill at hw
  refine tr_aload_n (k := 3) (x := v3) C hl 3 rfl dL_fill_0 ?_
  refine tr_aload_n (k := 0) (x := v0) C hl 0 rfl dL_fill_1 ?_
  refine tr_iload_n (k := 1) (x := v1) C hl 1 rfl dL_fill_2 ?_
  refine tr_iload_n (k := 2) (x := v2) C hl 2 rfl dL_fill_3 ?_
  refine tx_backCI (tx_runV (r := v0) (As := [.int v1, .int v2]) C hl.1 (c_X1_fill l hll K _ _ v0 v1 v2) (cwV 2 C.1.2.2.2.2 (gi_V (zm kw_341) (zm kw_342) (zm kw_343) (zm kw_33) (zm kw_340)) rfl rfl rfl (by decide +kernel) ⟨(Nat.le_of_ble_eq_true rfl), (Nat.le_of_ble_eq_true rfl)⟩) rfl rfl dL_fill_4 ⟨(Nat.le_of_ble_eq_true rfl), (Nat.le_of_ble_eq_true rfl)⟩ [.inr (.inr v3)] rfl (Nat.le_of_ble_eq_true rfl) rfl hW hS hw) hS (fun E ce q9 GX H locs hw hW hS hce hcv hcl => ?_) (fun x_4 G_4 H locs hw hW hS => ?_)
  · by_cases hq0 : E = "java/lang/IndexOutOfBoundsException"
    · replace hw := hw.1 hq0
      subst hq0
      refine vx_catch (name := "java/lang/IndexOutOfBoundsException") C.1.2.2.2.1 [] (⟨0, 11, 14, 19⟩ : ExceptionTableEntry) [(⟨0, 11, 18, 21⟩ : ExceptionTableEntry)] (by rw [htab]; rfl) (fun z hz => nomatch hz) (by decide) (by decide) (C.1.2.2.2.2 _ (zm kw_209)) hcC.2.2.1 hce hcv hcl ?_
      refine tr_astore (x := (some q9)) C hl [(4, .inr (.inr (some q9))), (0, .inr (.inr v0)), (1, .inl v1), (2, .inl v2), (3, .inr (.inr v3))] (by decide) rfl dL_fill_14 (fun ls hl => ?_)
      refine lv_iconst (v := (1 : Int32)) C.1.1 C.1.2.1 dL_fill_16 (by decide) ?_
      exact vx_ret (tr_iret C hr dL_fill_17 (Nat.le_of_ble_eq_true rfl) (Nat.le_of_ble_eq_true rfl) hW hS hw)
    replace hw := hw.2 hq0
    by_cases hq1 : E = "java/lang/IllegalArgumentException"
    · replace hw := hw.1 hq1
      subst hq1
      refine vx_catch (name := "java/lang/IllegalArgumentException") C.1.2.2.2.1 [(⟨0, 11, 14, 19⟩ : ExceptionTableEntry)] (⟨0, 11, 18, 21⟩ : ExceptionTableEntry) [] (by rw [htab]; rfl) (kx_pass1 C hcC rfl (by decide) (zm kw_209)) (by decide) (by decide) (C.1.2.2.2.2 _ (zm kw_188)) hcC.2.2.2.1 hce hcv hcl ?_
      refine tr_astore (x := (some q9)) C hl [(4, .inr (.inr (some q9))), (0, .inr (.inr v0)), (1, .inl v1), (2, .inl v2), (3, .inr (.inr v3))] (by decide) rfl dL_fill_18 (fun ls hl => ?_)
      refine lv_iconst (v := (2 : Int32)) C.1.1 C.1.2.1 dL_fill_20 (by decide) ?_
      exact vx_ret (tr_iret C hr dL_fill_21 (Nat.le_of_ble_eq_true rfl) (Nat.le_of_ble_eq_true rfl) hW hS hw)
    replace hw := hw.2 hq1
    exact hw.elim
  · refine lv_i2l (v := ((x_4).toInt64)) C.1.1 C.1.2.1 dL_fill_7 rfl ?_
    refine tr_pfN (C0 := RX2) (T := TX2) (N := 2) (ci := 4) (ref := "TwinrowLaw$Out") (host := "TwinrowLaw") (k := 0) (ty := .long) (v := .long (((x_4).toInt64))) (r := v3) C (zh hw_X2) tyX2 tyX2_ok nmX2 rfl (by decide) hcC.1 rfl rfl (by decide +kernel) rfl rfl dL_fill_8 hW hS hw (fun G_8 H locs hw hW hS => ?_)
    refine lv_goto (tgt := 22) C.1.1 C.1.2.1 dL_fill_11 (by decide) ?_
    refine lv_iconst (v := (0 : Int32)) C.1.1 C.1.2.1 dL_fill_22 (by decide) ?_
    exact vx_ret (tr_iret C hr dL_fill_23 (Nat.le_of_ble_eq_true rfl) (Nat.le_of_ble_eq_true rfl) hW hS hw)
end Z_L_fill
set_option maxHeartbeats 4000000 in
set_option maxRecDepth 100000 in
theorem c_L_fill (l : Launch) (hll : l.stackTraces = false) (K : tK) (post : Int32 → tG → Prop) (v0 : Option Nat) (v1 : Int32) (v2 : Int32) (v3 : Option Nat) : Cx l yL_fill wz_L_fill ({ frames := 9, cells := 2, slots := 12, locals := 147 } : Room) 2 12 [va_rf v0, .int v1, .int v2, va_rf v3] K (retI post) (fun _ _ => False) (fun G => w_L_fill K post v0 v1 v2 v3 G) := by
  refine tx_ofH (cc := cL_fill) (maxL := 5) (ret := (some .int)) (own := RL) (hh := [(0, 11, 14, 19), (0, 11, 18, 21)]) (by decide) rfl rfl hll [.inr (.inr v0), .inl v1, .inl v2, .inr (.inr v3)] rfl (Nat.le_of_ble_eq_true rfl) ?_
  intro p e s m args below meth c D A G ls C hr htab hcC hl hW hS hw
  exact s_L_fill C hr htab hcC hll post v0 v1 v2 v3 _ _ _ _ hW hS hl hw

/-! X3_fill -/
def wz_X3_fill : List Cond := Cond.code yX3_fill cX3_fill 4 (some .int) :: w0
section Z_X3_fill
variable {p : Program} {l : Launch} {e : Env} {s : State} {m : MethodId} {args : Array Value} {below : List Frame} {meth : Method} {c : Code} {D : va_G} {A : Nat → Prop}
set_option maxHeartbeats 4000000 in
set_option maxRecDepth 100000 in
theorem s_X3_fill_20_b {K : tK} (C : tc_B p l s m args meth c D K A wz_X3_fill RX3 cX3_fill 4) (hr : meth.sig.returnType = (some .int)) (hll : l.stackTraces = false)  (post : Int32 → tG → Prop) (k20 : Option Nat → Int32 → Int32 → Int32 → tG → Prop) (hk20 : ∀ (v0 : Option Nat) (v1 : Int32) (v2 : Int32) (v3 : Int32) (G : tG) (H : Heap) (locs : List Loc) (ls : Array Slot), tg_W D A s H G → va_S A s.heap H locs → tl ls 4 [(0, .inr (.inr v0)), (1, .inl v1), (2, .inl v2), (3, .inl v3)] → k20 v0 v1 v2 v3 G → W p l e ({ frames := 2, cells := 0, slots := 0, locals := 43 } : Room) s m args below meth c H locs 0 0 (MQ below (tc_Qc D A (retI post)) args s 0 0 A) (F0 m 20 ls [])) : ∀ (v0 : Option Nat) (v1 : Int32) (v2 : Int32) (v3 : Int32) (G : tG) (H : Heap) (locs : List Loc) (ls : Array Slot), tg_W D A s H G → va_S A s.heap H locs → tl ls 4 [(0, .inr (.inr v0)), (1, .inl v1), (2, .inl v2), (3, .inl v3)] → w_X3_fill_20_b K post k20 v0 v1 v2 v3 G → W p l e ({ frames := 2, cells := 0, slots := 0, locals := 43 } : Room) s m args below meth c H locs 0 0 (MQ below (tc_Qc D A (retI post)) args s 0 0 A) (F0 m 20 ls []) := by
  intro v0 v1 v2 v3 G H locs ls hW hS hl hw
  unfold w_X3_fill_20_b at hw
  refine tr_iload_n (k := 3) (x := v3) C hl 3 rfl dX3_fill_20 ?_
  refine tr_aload_n (k := 0) (x := v0) C hl 0 rfl dX3_fill_21 ?_
  refine tr_gfR (C0 := RX3) (T := TX3) (N := 8) (ci := 5) (ref := "TwinrowModel") (k := 3) (r := v0) C (zh hw_X3) rfl (by decide) (zm kw_24) rfl dX3_fill_22 hW hw (fun x_22 hw => ?_)
  refine tr_iload_n (k := 1) (x := v1) C hl 1 rfl dX3_fill_25 ?_
  refine tr_alI (r := x_22) C dX3_fill_26 hW hw (fun x_26 hw => ?_)
  refine lv_icmp_ge (tgt := 43) C.1.1 C.1.2.1 dX3_fill_27 (by decide) (fun hc => ?_) (fun hc => ?_)
  · have hw := hw.1 hc
    refine tr_aload_n (k := 0) (x := v0) C hl 0 rfl dX3_fill_43 ?_
    refine tr_gfR (C0 := RX3) (T := TX3) (N := 8) (ci := 5) (ref := "TwinrowModel") (k := 3) (r := v0) C (zh hw_X3) rfl (by decide) (zm kw_24) rfl dX3_fill_44 hW hw (fun x_44 hw => ?_)
    refine tr_iload_n (k := 1) (x := v1) C hl 1 rfl dX3_fill_47 ?_
    refine tr_alI (r := x_44) C dX3_fill_48 hW hw (fun x_48 hw => ?_)
    exact tr_iret C hr dX3_fill_49 (Nat.le_of_ble_eq_true rfl) (Nat.le_of_ble_eq_true rfl) hW hS hw
  · have hw := hw.2 hc
    refine tr_aload_n (k := 0) (x := v0) C hl 0 rfl dX3_fill_30 ?_
    refine tr_iload_n (k := 1) (x := v1) C hl 1 rfl dX3_fill_31 ?_
    refine tr_iload_n (k := 3) (x := v3) C hl 3 rfl dX3_fill_32 ?_
    refine tr_iload_n (k := 2) (x := v2) C hl 2 rfl dX3_fill_33 ?_
    refine tr_backV (tr_runV (r := v0) (As := [.int v1, .int v3, .int v2]) C hl.1 (c_X3_write l hll K _ v0 v1 v3 v2) (cwV 3 C.1.2.2.2.2 (gi_V (zm kw_308) (zm kw_309) (zm kw_310) (zm kw_155) (zm kw_307)) rfl rfl rfl (by decide +kernel) ⟨(Nat.le_of_ble_eq_true rfl), (Nat.le_of_ble_eq_true rfl)⟩) rfl rfl dX3_fill_34 ⟨(Nat.le_of_ble_eq_true rfl), (Nat.le_of_ble_eq_true rfl)⟩ [] rfl (Nat.le_of_ble_eq_true rfl) rfl hW hS hw) hS (fun G_34 H locs hw hW hS => ?_)
    refine tr_iinc C hl 3 (v3 + (1 : Int32)) [(3, .inl (v3 + (1 : Int32))), (0, .inr (.inr v0)), (1, .inl v1), (2, .inl v2)] rfl rfl (by decide) rfl dX3_fill_37 (fun ls hl => ?_)
    refine lv_goto (tgt := 20) C.1.1 C.1.2.1 dX3_fill_40 (by decide) ?_
    exact hk20 v0 v1 v2 ((v3 + (1 : Int32))) _ _ _ _ hW hS (tl_sub hl [1, 2, 3, 0] rfl) hw
set_option maxHeartbeats 4000000 in
set_option maxRecDepth 100000 in
theorem s_X3_fill_20 {K : tK} (C : tc_B p l s m args meth c D K A wz_X3_fill RX3 cX3_fill 4) (hr : meth.sig.returnType = (some .int)) (hll : l.stackTraces = false)  (post : Int32 → tG → Prop) : ∀ (n : Nat) (v0 : Option Nat) (v1 : Int32) (v2 : Int32) (v3 : Int32) (G : tG) (H : Heap) (locs : List Loc) (ls : Array Slot), tg_W D A s H G → va_S A s.heap H locs → tl ls 4 [(0, .inr (.inr v0)), (1, .inl v1), (2, .inl v2), (3, .inl v3)] → w_X3_fill_20 K post n v0 v1 v2 v3 G → W p l e ({ frames := 2, cells := 0, slots := 0, locals := 43 } : Room) s m args below meth c H locs 0 0 (MQ below (tc_Qc D A (retI post)) args s 0 0 A) (F0 m 20 ls []) := by
  intro n
  induction n with
  | zero =>
    intro v0 v1 v2 v3 G H locs ls hW hS hl hw
    exact hw.elim
  | succ n ih => exact s_X3_fill_20_b C hr hll post _ ih
set_option maxHeartbeats 4000000 in
set_option maxRecDepth 100000 in
theorem s_X3_fill {K : tK} (C : tc_B p l s m args meth c D K A wz_X3_fill RX3 cX3_fill 4) (hr : meth.sig.returnType = (some .int)) (hll : l.stackTraces = false)  (post : Int32 → tG → Prop) (v0 : Option Nat) (v1 : Int32) (v2 : Int32) : ∀ (G : tG) (H : Heap) (locs : List Loc) (ls : Array Slot), tg_W D A s H G → va_S A s.heap H locs → tl ls 4 [(0, .inr (.inr v0)), (1, .inl v1), (2, .inl v2)] → w_X3_fill K post v0 v1 v2 G → W p l e ({ frames := 2, cells := 0, slots := 0, locals := 43 } : Room) s m args below meth c H locs 0 0 (MQ below (tc_Qc D A (retI post)) args s 0 0 A) (F0 m 0 ls []) := by
  intro G H locs ls hW hS hl hw
  unfold w_X3_fill at hw
  refine tr_aload_n (k := 0) (x := v0) C hl 0 rfl dX3_fill_0 ?_
  refine tr_aload_n (k := 0) (x := v0) C hl 0 rfl dX3_fill_1 ?_
  refine tr_iload_n (k := 1) (x := v1) C hl 1 rfl dX3_fill_2 ?_
  refine tr_backI (tr_runV (r := v0) (As := [.int v1]) C hl.1 (c_X3_isNoList l hll K _ v0 v1) (cwV 1 C.1.2.2.2.2 (gi_V (zm kw_211) (zm kw_212) (zm kw_213) (zm kw_155) (zm kw_210)) rfl rfl rfl (by decide +kernel) ⟨(Nat.le_of_ble_eq_true rfl), (Nat.le_of_ble_eq_true rfl)⟩) rfl rfl dX3_fill_3 ⟨(Nat.le_of_ble_eq_true rfl), (Nat.le_of_ble_eq_true rfl)⟩ [.inr (.inr v0)] rfl (Nat.le_of_ble_eq_true rfl) rfl hW hS hw) hS (fun x_3 G_3 H locs hw hW hS => ?_)
  refine tr_iload_n (k := 2) (x := v2) C hl 2 rfl dX3_fill_6 ?_
  refine tr_backI (tr_runS (As := [.int v2]) C hl.1 (c_X3_isNoValue l hll K _ v2) (va_cwS 1 C.1.2.2.2.2 (gi_S (zm kw_276) (zm kw_277) (zm kw_155) (zm kw_275)) rfl rfl rfl (by decide +kernel) ⟨(Nat.le_of_ble_eq_true rfl), (Nat.le_of_ble_eq_true rfl)⟩) rfl dX3_fill_7 ⟨(Nat.le_of_ble_eq_true rfl), (Nat.le_of_ble_eq_true rfl)⟩ [.inl x_3, .inr (.inr v0)] rfl (Nat.le_of_ble_eq_true rfl) rfl hW hS hw) hS (fun x_7 G_7 H locs hw hW hS => ?_)
  refine tr_backI (tr_runV (r := v0) (As := [.int x_3, .int x_7]) C hl.1 (c_X3_fails l hll K _ v0 x_3 x_7) (cwV 2 C.1.2.2.2.2 (gi_V (zm kw_190) (zm kw_191) (zm kw_192) (zm kw_155) (zm kw_189)) rfl rfl rfl (by decide +kernel) ⟨(Nat.le_of_ble_eq_true rfl), (Nat.le_of_ble_eq_true rfl)⟩) rfl rfl dX3_fill_10 ⟨(Nat.le_of_ble_eq_true rfl), (Nat.le_of_ble_eq_true rfl)⟩ [] rfl (Nat.le_of_ble_eq_true rfl) rfl hW hS hw) hS (fun x_10 G_10 H locs hw hW hS => ?_)
  refine lv_if_eq (tgt := 18) C.1.1 C.1.2.1 dX3_fill_13 (by decide) (fun hc => ?_) (fun hc => ?_)
  · have hw := hw.1 hc
    refine lv_iconst (v := (0 : Int32)) C.1.1 C.1.2.1 dX3_fill_18 (by decide) ?_
    refine tr_istore_n (k := 3) (x := (0 : Int32)) C hl [(3, .inl (0 : Int32)), (0, .inr (.inr v0)), (1, .inl v1), (2, .inl v2)] (by decide) rfl dX3_fill_19 (fun ls hl => ?_)
    obtain ⟨n20, hw⟩ := hw
    exact s_X3_fill_20 C hr hll post n20 v0 v1 v2 ((0 : Int32)) _ _ _ _ hW hS (tl_sub hl [1, 2, 3, 0] rfl) hw
  · have hw := hw.2 hc
    refine lv_iconst (v := (0 : Int32)) C.1.1 C.1.2.1 dX3_fill_16 (by decide) ?_
    exact tr_iret C hr dX3_fill_17 (Nat.le_of_ble_eq_true rfl) (Nat.le_of_ble_eq_true rfl) hW hS hw
end Z_X3_fill
set_option maxHeartbeats 4000000 in
set_option maxRecDepth 100000 in
theorem c_X3_fill (l : Launch) (hll : l.stackTraces = false) (K : tK) (post : Int32 → tG → Prop) (v0 : Option Nat) (v1 : Int32) (v2 : Int32) : Ct l yX3_fill wz_X3_fill ({ frames := 2, cells := 0, slots := 0, locals := 43 } : Room) 0 0 [va_rf v0, .int v1, .int v2] K (retI post) (fun G => w_X3_fill K post v0 v1 v2 G) := by
  refine tc_of (cc := cX3_fill) (maxL := 4) (ret := (some .int)) (own := RX3) (plainFor_of_name (by decide)) rfl rfl hll [.inr (.inr v0), .inl v1, .inl v2] rfl (Nat.le_of_ble_eq_true rfl) ?_
  intro p e s m args below meth c D A G ls C hr hn ht hl hW hS hw
  exact s_X3_fill C hr hll post v0 v1 v2 _ _ _ _ hW hS hl hw

/-! X1_replaceOld -/
def wz_X1_replaceOld : List Cond := Cond.code yX1_replaceOld cX1_replaceOld 7 (some .int) :: w0
section Z_X1_replaceOld
variable {p : Program} {l : Launch} {e : Env} {s : State} {m : MethodId} {args : Array Value} {below : List Frame} {meth : Method} {c : Code} {D : va_G} {A : Nat → Prop}
set_option maxHeartbeats 4000000 in
set_option maxRecDepth 100000 in
theorem s_X1_replaceOld_54 {K : tK} (C : tc_B p l s m args meth c D K A wz_X1_replaceOld RX1 cX1_replaceOld 7) (hr : meth.sig.returnType = (some .int)) (ht : ∀ x ∈ c.exceptionTable.toList, False) (hll : l.stackTraces = false)  (post : Int32 → tG → Prop) (postX : String → tG → Prop) (k21 : Int32 → Int32 → Option Nat → Int32 → Int32 → tG → Prop) (hk21 : ∀ (v2 : Int32) (v3 : Int32) (v4 : Option Nat) (v5 : Int32) (v6 : Int32) (G : tG) (H : Heap) (locs : List Loc) (ls : Array Slot), tg_W D A s H G → va_S A s.heap H locs → tl ls 7 [(2, .inl v2), (3, .inl v3), (4, .inr (.inr v4)), (5, .inl v5), (6, .inl v6)] → k21 v2 v3 v4 v5 v6 G → W p l e ({ frames := 8, cells := 3, slots := 18, locals := 124 } : Room) s m args below meth c H locs 3 18 (vx_MQ below (tc_Qc D A (retI post)) (tc_XC D A postX) args s 3 18 A) (F0 m 21 ls [])) : ∀ (v2 : Int32) (v3 : Int32) (v4 : Option Nat) (v5 : Int32) (v6 : Int32) (G : tG) (H : Heap) (locs : List Loc) (ls : Array Slot), tg_W D A s H G → va_S A s.heap H locs → tl ls 7 [(2, .inl v2), (3, .inl v3), (4, .inr (.inr v4)), (5, .inl v5), (6, .inl v6)] → w_X1_replaceOld_54 K post postX k21 v2 v3 v4 v5 v6 G → W p l e ({ frames := 8, cells := 3, slots := 18, locals := 124 } : Room) s m args below meth c H locs 3 18 (vx_MQ below (tc_Qc D A (retI post)) (tc_XC D A postX) args s 3 18 A) (F0 m 54 ls []) := by
  intro v2 v3 v4 v5 v6 G H locs ls hW hS hl hw
  unfold w_X1_replaceOld_54 at hw
  refine tr_iinc C hl 4 (v6 + (1 : Int32)) [(6, .inl (v6 + (1 : Int32))), (2, .inl v2), (3, .inl v3), (4, .inr (.inr v4)), (5, .inl v5)] rfl rfl (by decide) rfl dX1_replaceOld_54 (fun ls hl => ?_)
  refine lv_goto (tgt := 21) C.1.1 C.1.2.1 dX1_replaceOld_57 (by decide) ?_
  exact hk21 v2 v3 v4 v5 ((v6 + (1 : Int32))) _ _ _ _ hW hS (tl_sub hl [1, 2, 3, 4, 0] rfl) hw
set_option maxHeartbeats 4000000 in
set_option maxRecDepth 100000 in
theorem s_X1_replaceOld_21_b {K : tK} (C : tc_B p l s m args meth c D K A wz_X1_replaceOld RX1 cX1_replaceOld 7) (hr : meth.sig.returnType = (some .int)) (ht : ∀ x ∈ c.exceptionTable.toList, False) (hll : l.stackTraces = false)  (post : Int32 → tG → Prop) (postX : String → tG → Prop) (k21 : Int32 → Int32 → Option Nat → Int32 → Int32 → tG → Prop) (hk21 : ∀ (v2 : Int32) (v3 : Int32) (v4 : Option Nat) (v5 : Int32) (v6 : Int32) (G : tG) (H : Heap) (locs : List Loc) (ls : Array Slot), tg_W D A s H G → va_S A s.heap H locs → tl ls 7 [(2, .inl v2), (3, .inl v3), (4, .inr (.inr v4)), (5, .inl v5), (6, .inl v6)] → k21 v2 v3 v4 v5 v6 G → W p l e ({ frames := 8, cells := 3, slots := 18, locals := 124 } : Room) s m args below meth c H locs 3 18 (vx_MQ below (tc_Qc D A (retI post)) (tc_XC D A postX) args s 3 18 A) (F0 m 21 ls [])) : ∀ (v2 : Int32) (v3 : Int32) (v4 : Option Nat) (v5 : Int32) (v6 : Int32) (G : tG) (H : Heap) (locs : List Loc) (ls : Array Slot), tg_W D A s H G → va_S A s.heap H locs → tl ls 7 [(2, .inl v2), (3, .inl v3), (4, .inr (.inr v4)), (5, .inl v5), (6, .inl v6)] → w_X1_replaceOld_21_b K post postX k21 v2 v3 v4 v5 v6 G → W p l e ({ frames := 8, cells := 3, slots := 18, locals := 124 } : Room) s m args below meth c H locs 3 18 (vx_MQ below (tc_Qc D A (retI post)) (tc_XC D A postX) args s 3 18 A) (F0 m 21 ls []) := by
  intro v2 v3 v4 v5 v6 G H locs ls hW hS hl hw
  unfold w_X1_replaceOld_21_b at hw
  refine tr_iload (x := v6) C hl 4 rfl dX1_replaceOld_21 ?_
  refine tr_aload (x := v4) C hl 2 rfl dX1_replaceOld_23 ?_
  refine tr_gfI (C0 := RX0) (T := TX0) (N := 4) (ci := 2) (ref := "Twinrow$RowList") (k := 3) (r := v4) C (zh hw_X0) rfl (by decide) (zm kw_34) rfl dX1_replaceOld_25 hW hw (fun x_25 hw => ?_)
  refine lv_icmp_ge (tgt := 60) C.1.1 C.1.2.1 dX1_replaceOld_28 (by decide) (fun hc => ?_) (fun hc => ?_)
  · have hw := hw.1 hc
    refine tr_iload (x := v5) C hl 3 rfl dX1_replaceOld_60 ?_
    exact vx_ret (tr_iret C hr dX1_replaceOld_62 (Nat.le_of_ble_eq_true rfl) (Nat.le_of_ble_eq_true rfl) hW hS hw)
  · have hw := hw.2 hc
    refine tr_aload (x := v4) C hl 2 rfl dX1_replaceOld_31 ?_
    refine tr_iload (x := v6) C hl 4 rfl dX1_replaceOld_33 ?_
    refine tr_backI (tr_runV (r := v4) (As := [.int v6]) C hl.1 (c_X0_read l hll K _ v4 v6) (cwV 1 C.1.2.2.2.2 (gi_V (zm kw_27) (zm kw_28) (zm kw_29) (zm kw_10) (zm kw_26)) rfl rfl rfl (by decide +kernel) ⟨(Nat.le_of_ble_eq_true rfl), (Nat.le_of_ble_eq_true rfl)⟩) rfl rfl dX1_replaceOld_35 ⟨(Nat.le_of_ble_eq_true rfl), (Nat.le_of_ble_eq_true rfl)⟩ [] rfl (Nat.le_of_ble_eq_true rfl) rfl hW hS hw) hS (fun x_35 G_35 H locs hw hW hS => ?_)
    refine tr_iload_n (k := 2) (x := v2) C hl 0 rfl dX1_replaceOld_38 ?_
    refine lv_icmp_ne (tgt := 54) C.1.1 C.1.2.1 dX1_replaceOld_39 (by decide) (fun hc => ?_) (fun hc => ?_)
    · have hw := hw.1 hc
      exact s_X1_replaceOld_54 C hr ht hll post postX k21 hk21 v2 v3 v4 v5 v6 _ _ _ _ hW hS (tl_sub hl [0, 1, 2, 3, 4] rfl) hw
    · have hw := hw.2 hc
      refine tr_aload (x := v4) C hl 2 rfl dX1_replaceOld_42 ?_
      refine tr_iload (x := v6) C hl 4 rfl dX1_replaceOld_44 ?_
      refine tr_iload_n (k := 3) (x := v3) C hl 1 rfl dX1_replaceOld_46 ?_
      refine tr_backI (tr_runV (r := v4) (As := [.int v6, .int v3]) C hl.1 (c_X0_write l hll K _ v4 v6 v3) (cwV 2 C.1.2.2.2.2 (gi_V (zm kw_47) (zm kw_48) (zm kw_49) (zm kw_10) (zm kw_46)) rfl rfl rfl (by decide +kernel) ⟨(Nat.le_of_ble_eq_true rfl), (Nat.le_of_ble_eq_true rfl)⟩) rfl rfl dX1_replaceOld_47 ⟨(Nat.le_of_ble_eq_true rfl), (Nat.le_of_ble_eq_true rfl)⟩ [] rfl (Nat.le_of_ble_eq_true rfl) rfl hW hS hw) hS (fun x_47 G_47 H locs hw hW hS => ?_)
      refine lv_pop C.1.1 C.1.2.1 dX1_replaceOld_50 rfl ?_
      refine lv_iconst (v := (1 : Int32)) C.1.1 C.1.2.1 dX1_replaceOld_51 (by decide) ?_
      refine tr_istore (x := (1 : Int32)) C hl [(5, .inl (1 : Int32)), (2, .inl v2), (3, .inl v3), (4, .inr (.inr v4)), (6, .inl v6)] (by decide) rfl dX1_replaceOld_52 (fun ls hl => ?_)
      exact s_X1_replaceOld_54 C hr ht hll post postX k21 hk21 v2 v3 v4 ((1 : Int32)) v6 _ _ _ _ hW hS (tl_sub hl [1, 2, 3, 0, 4] rfl) hw
set_option maxHeartbeats 4000000 in
set_option maxRecDepth 100000 in
theorem s_X1_replaceOld_21 {K : tK} (C : tc_B p l s m args meth c D K A wz_X1_replaceOld RX1 cX1_replaceOld 7) (hr : meth.sig.returnType = (some .int)) (ht : ∀ x ∈ c.exceptionTable.toList, False) (hll : l.stackTraces = false)  (post : Int32 → tG → Prop) (postX : String → tG → Prop) : ∀ (n : Nat) (v2 : Int32) (v3 : Int32) (v4 : Option Nat) (v5 : Int32) (v6 : Int32) (G : tG) (H : Heap) (locs : List Loc) (ls : Array Slot), tg_W D A s H G → va_S A s.heap H locs → tl ls 7 [(2, .inl v2), (3, .inl v3), (4, .inr (.inr v4)), (5, .inl v5), (6, .inl v6)] → w_X1_replaceOld_21 K post postX n v2 v3 v4 v5 v6 G → W p l e ({ frames := 8, cells := 3, slots := 18, locals := 124 } : Room) s m args below meth c H locs 3 18 (vx_MQ below (tc_Qc D A (retI post)) (tc_XC D A postX) args s 3 18 A) (F0 m 21 ls []) := by
  intro n
  induction n with
  | zero =>
    intro v2 v3 v4 v5 v6 G H locs ls hW hS hl hw
    exact hw.elim
  | succ n ih => exact s_X1_replaceOld_21_b C hr ht hll post postX _ ih
set_option maxHeartbeats 4000000 in
set_option maxRecDepth 100000 in
theorem s_X1_replaceOld {K : tK} (C : tc_B p l s m args meth c D K A wz_X1_replaceOld RX1 cX1_replaceOld 7) (hr : meth.sig.returnType = (some .int)) (ht : ∀ x ∈ c.exceptionTable.toList, False) (hll : l.stackTraces = false)  (post : Int32 → tG → Prop) (postX : String → tG → Prop) (v0 : Option Nat) (v1 : Int32) (v2 : Int32) (v3 : Int32) : ∀ (G : tG) (H : Heap) (locs : List Loc) (ls : Array Slot), tg_W D A s H G → va_S A s.heap H locs → tl ls 7 [(0, .inr (.inr v0)), (1, .inl v1), (2, .inl v2), (3, .inl v3)] → w_X1_replaceOld K post postX v0 v1 v2 v3 G → W p l e ({ frames := 8, cells := 3, slots := 18, locals := 124 } : Room) s m args below meth c H locs 0 0 (vx_MQ below (tc_Qc D A (retI post)) (tc_XC D A postX) args s 3 18 A) (F0 m 0 ls []) := by
  intro G H locs ls hW hS hl hw
  unfold w_X1_replaceOld at hw
  refine tr_aload_n (k := 0) (x := v0) C hl 0 rfl dX1_replaceOld_0 ?_
  refine tr_iload_n (k := 1) (x := v1) C hl 1 rfl dX1_replaceOld_1 ?_
  refine tx_backR (tx_runV (r := v0) (As := [.int v1]) C hl.1 (c_X1_listAt l hll K _ _ v0 v1) (cwV 1 C.1.2.2.2.2 (gi_V (zm kw_94) (zm kw_95) (zm kw_96) (zm kw_33) (zm kw_93)) rfl rfl rfl (by decide +kernel) ⟨(Nat.le_of_ble_eq_true rfl), (Nat.le_of_ble_eq_true rfl)⟩) rfl rfl dX1_replaceOld_2 ⟨(Nat.le_of_ble_eq_true rfl), (Nat.le_of_ble_eq_true rfl)⟩ [] rfl (Nat.le_of_ble_eq_true rfl) rfl hW hS hw) hS C.2.1 ht (Nat.le_of_ble_eq_true rfl) (Nat.le_of_ble_eq_true rfl) (fun x_2 G_2 H locs hw hW hS => ?_)
  refine tr_astore (x := x_2) C hl [(4, .inr (.inr x_2)), (0, .inr (.inr v0)), (1, .inl v1), (2, .inl v2), (3, .inl v3)] (by decide) rfl dX1_replaceOld_5 (fun ls hl => ?_)
  refine tr_iload_n (k := 2) (x := v2) C hl 3 rfl dX1_replaceOld_7 ?_
  refine tx_backV (tx_runS (As := [.int v2]) C hl.1 (c_X1_checkValue l hll K _ _ v2) (va_cwS 1 C.1.2.2.2.2 (gi_S (zm kw_269) (zm kw_270) (zm kw_33) (zm kw_268)) rfl rfl rfl (by decide +kernel) ⟨(Nat.le_of_ble_eq_true rfl), (Nat.le_of_ble_eq_true rfl)⟩) rfl dX1_replaceOld_8 ⟨(Nat.le_of_ble_eq_true rfl), (Nat.le_of_ble_eq_true rfl)⟩ [] rfl (Nat.le_of_ble_eq_true rfl) rfl hW hS hw) hS C.2.1 ht (Nat.le_of_ble_eq_true rfl) (Nat.le_of_ble_eq_true rfl) (fun G_8 H locs hw hW hS => ?_)
  refine tr_iload_n (k := 3) (x := v3) C hl 4 rfl dX1_replaceOld_11 ?_
  refine tx_backV (tx_runS (As := [.int v3]) C hl.1 (c_X1_checkValue l hll K _ _ v3) (va_cwS 1 C.1.2.2.2.2 (gi_S (zm kw_269) (zm kw_270) (zm kw_33) (zm kw_268)) rfl rfl rfl (by decide +kernel) ⟨(Nat.le_of_ble_eq_true rfl), (Nat.le_of_ble_eq_true rfl)⟩) rfl dX1_replaceOld_12 ⟨(Nat.le_of_ble_eq_true rfl), (Nat.le_of_ble_eq_true rfl)⟩ [] rfl (Nat.le_of_ble_eq_true rfl) rfl hW hS hw) hS C.2.1 ht (Nat.le_of_ble_eq_true rfl) (Nat.le_of_ble_eq_true rfl) (fun G_12 H locs hw hW hS => ?_)
  refine lv_iconst (v := (0 : Int32)) C.1.1 C.1.2.1 dX1_replaceOld_15 (by decide) ?_
  refine tr_istore (x := (0 : Int32)) C hl [(5, .inl (0 : Int32)), (4, .inr (.inr x_2)), (0, .inr (.inr v0)), (1, .inl v1), (2, .inl v2), (3, .inl v3)] (by decide) rfl dX1_replaceOld_16 (fun ls hl => ?_)
  refine lv_iconst (v := (0 : Int32)) C.1.1 C.1.2.1 dX1_replaceOld_18 (by decide) ?_
  refine tr_istore (x := (0 : Int32)) C hl [(6, .inl (0 : Int32)), (5, .inl (0 : Int32)), (4, .inr (.inr x_2)), (0, .inr (.inr v0)), (1, .inl v1), (2, .inl v2), (3, .inl v3)] (by decide) rfl dX1_replaceOld_19 (fun ls hl => ?_)
  obtain ⟨n21, hw⟩ := hw
  exact s_X1_replaceOld_21 C hr ht hll post postX n21 v2 v3 x_2 ((0 : Int32)) ((0 : Int32)) _ _ _ _ hW hS (tl_sub hl [5, 6, 2, 1, 0] rfl) hw
end Z_X1_replaceOld
set_option maxHeartbeats 4000000 in
set_option maxRecDepth 100000 in
theorem c_X1_replaceOld (l : Launch) (hll : l.stackTraces = false) (K : tK) (post : Int32 → tG → Prop) (postX : String → tG → Prop) (v0 : Option Nat) (v1 : Int32) (v2 : Int32) (v3 : Int32) : Cx l yX1_replaceOld wz_X1_replaceOld ({ frames := 8, cells := 3, slots := 18, locals := 124 } : Room) 3 18 [va_rf v0, .int v1, .int v2, .int v3] K (retI post) postX (fun G => w_X1_replaceOld K post postX v0 v1 v2 v3 G) := by
  refine tx_of (cc := cX1_replaceOld) (maxL := 7) (ret := (some .int)) (own := RX1) (by decide) rfl rfl hll [.inr (.inr v0), .inl v1, .inl v2, .inl v3] rfl (Nat.le_of_ble_eq_true rfl) ?_
  intro p e s m args below meth c D A G ls C hr hn ht hl hW hS hw
  exact s_X1_replaceOld C hr ht hll post postX v0 v1 v2 v3 _ _ _ _ hW hS hl hw

/-! L_replaceOld -/
def wz_L_replaceOld : List Cond := Cond.codeWith yL_replaceOld cL_replaceOld 6 (some .int) [(0, 13, 16, 19), (0, 13, 20, 21)] :: w0
section Z_L_replaceOld
variable {p : Program} {l : Launch} {e : Env} {s : State} {m : MethodId} {args : Array Value} {below : List Frame} {meth : Method} {c : Code} {D : va_G} {A : Nat → Prop}
set_option maxHeartbeats 4000000 in
set_option maxRecDepth 100000 in
theorem s_L_replaceOld {K : tK} (C : tc_B p l s m args meth c D K A wz_L_replaceOld RL cL_replaceOld 6) (hr : meth.sig.returnType = (some .int)) (htab : c.exceptionTable.toList = tableOf [(0, 13, 16, 19), (0, 13, 20, 21)]) (hcC : kx_C s) (hll : l.stackTraces = false)  (post : Int32 → tG → Prop) (v0 : Option Nat) (v1 : Int32) (v2 : Int32) (v3 : Int32) (v4 : Option Nat) : ∀ (G : tG) (H : Heap) (locs : List Loc) (ls : Array Slot), tg_W D A s H G → va_S A s.heap H locs → tl ls 6 [(0, .inr (.inr v0)), (1, .inl v1), (2, .inl v2), (3, .inl v3), (4, .inr (.inr v4))] → w_L_replaceOld K post v0 v1 v2 v3 v4 G → W p l e ({ frames := 9, cells := 3, slots := 18, locals := 150 } : Room) s m args below meth c H locs 0 0 (vx_MQ below (tc_Qc D A (retI post)) (tc_XC D A (fun _ _ => False)) args s 3 18 A) (F0 m 0 ls []) := by
  intro G H locs ls hW hS hl hw
  unfold w_L_replaceOld at hw
  refine tr_aload (x := v4) C hl 4 rfl dL_replaceOld_0 ?_
  refine tr_aload_n (k := 0) (x := v0) C hl 0 rfl dL_replaceOld_2 ?_
  refine tr_iload_n (k := 1) (x := v1) C hl 1 rfl dL_replaceOld_3 ?_
  refine tr_iload_n (k := 2) (x := v2) C hl 2 rfl dL_replaceOld_4 ?_
  refine tr_iload_n (k := 3) (x := v3) C hl 3 rfl dL_replaceOld_5 ?_
  refine tx_backCI (tx_runV (r := v0) (As := [.int v1, .int v2, .int v3]) C hl.1 (c_X1_replaceOld l hll K _ _ v0 v1 v2 v3) (cwV 3 C.1.2.2.2.2 (gi_V (zm kw_345) (zm kw_346) (zm kw_347) (zm kw_33) (zm kw_344)) rfl rfl rfl (by decide +kernel) ⟨(Nat.le_of_ble_eq_true rfl), (Nat.le_of_ble_eq_true rfl)⟩) rfl rfl dL_replaceOld_6 ⟨(Nat.le_of_ble_eq_true rfl), (Nat.le_of_ble_eq_true rfl)⟩ [.inr (.inr v4)] rfl (Nat.le_of_ble_eq_true rfl) rfl hW hS hw) hS (fun E ce q9 GX H locs hw hW hS hce hcv hcl => ?_) (fun x_6 G_6 H locs hw hW hS => ?_)
  · by_cases hq0 : E = "java/lang/IndexOutOfBoundsException"
    · replace hw := hw.1 hq0
      subst hq0
      refine vx_catch (name := "java/lang/IndexOutOfBoundsException") C.1.2.2.2.1 [] (⟨0, 13, 16, 19⟩ : ExceptionTableEntry) [(⟨0, 13, 20, 21⟩ : ExceptionTableEntry)] (by rw [htab]; rfl) (fun z hz => nomatch hz) (by decide) (by decide) (C.1.2.2.2.2 _ (zm kw_209)) hcC.2.2.1 hce hcv hcl ?_
      refine tr_astore (x := (some q9)) C hl [(5, .inr (.inr (some q9))), (0, .inr (.inr v0)), (1, .inl v1), (2, .inl v2), (3, .inl v3), (4, .inr (.inr v4))] (by decide) rfl dL_replaceOld_16 (fun ls hl => ?_)
      refine lv_iconst (v := (1 : Int32)) C.1.1 C.1.2.1 dL_replaceOld_18 (by decide) ?_
      exact vx_ret (tr_iret C hr dL_replaceOld_19 (Nat.le_of_ble_eq_true rfl) (Nat.le_of_ble_eq_true rfl) hW hS hw)
    replace hw := hw.2 hq0
    by_cases hq1 : E = "java/lang/IllegalArgumentException"
    · replace hw := hw.1 hq1
      subst hq1
      refine vx_catch (name := "java/lang/IllegalArgumentException") C.1.2.2.2.1 [(⟨0, 13, 16, 19⟩ : ExceptionTableEntry)] (⟨0, 13, 20, 21⟩ : ExceptionTableEntry) [] (by rw [htab]; rfl) (kx_pass1 C hcC rfl (by decide) (zm kw_209)) (by decide) (by decide) (C.1.2.2.2.2 _ (zm kw_188)) hcC.2.2.2.1 hce hcv hcl ?_
      refine tr_astore (x := (some q9)) C hl [(5, .inr (.inr (some q9))), (0, .inr (.inr v0)), (1, .inl v1), (2, .inl v2), (3, .inl v3), (4, .inr (.inr v4))] (by decide) rfl dL_replaceOld_20 (fun ls hl => ?_)
      refine lv_iconst (v := (2 : Int32)) C.1.1 C.1.2.1 dL_replaceOld_22 (by decide) ?_
      exact vx_ret (tr_iret C hr dL_replaceOld_23 (Nat.le_of_ble_eq_true rfl) (Nat.le_of_ble_eq_true rfl) hW hS hw)
    replace hw := hw.2 hq1
    exact hw.elim
  · refine lv_i2l (v := ((x_6).toInt64)) C.1.1 C.1.2.1 dL_replaceOld_9 rfl ?_
    refine tr_pfN (C0 := RX2) (T := TX2) (N := 2) (ci := 4) (ref := "TwinrowLaw$Out") (host := "TwinrowLaw") (k := 0) (ty := .long) (v := .long (((x_6).toInt64))) (r := v4) C (zh hw_X2) tyX2 tyX2_ok nmX2 rfl (by decide) hcC.1 rfl rfl (by decide +kernel) rfl rfl dL_replaceOld_10 hW hS hw (fun G_10 H locs hw hW hS => ?_)
    refine lv_goto (tgt := 24) C.1.1 C.1.2.1 dL_replaceOld_13 (by decide) ?_
    refine lv_iconst (v := (0 : Int32)) C.1.1 C.1.2.1 dL_replaceOld_24 (by decide) ?_
    exact vx_ret (tr_iret C hr dL_replaceOld_25 (Nat.le_of_ble_eq_true rfl) (Nat.le_of_ble_eq_true rfl) hW hS hw)
end Z_L_replaceOld
set_option maxHeartbeats 4000000 in
set_option maxRecDepth 100000 in
theorem c_L_replaceOld (l : Launch) (hll : l.stackTraces = false) (K : tK) (post : Int32 → tG → Prop) (v0 : Option Nat) (v1 : Int32) (v2 : Int32) (v3 : Int32) (v4 : Option Nat) : Cx l yL_replaceOld wz_L_replaceOld ({ frames := 9, cells := 3, slots := 18, locals := 150 } : Room) 3 18 [va_rf v0, .int v1, .int v2, .int v3, va_rf v4] K (retI post) (fun _ _ => False) (fun G => w_L_replaceOld K post v0 v1 v2 v3 v4 G) := by
  refine tx_ofH (cc := cL_replaceOld) (maxL := 6) (ret := (some .int)) (own := RL) (hh := [(0, 13, 16, 19), (0, 13, 20, 21)]) (by decide) rfl rfl hll [.inr (.inr v0), .inl v1, .inl v2, .inl v3, .inr (.inr v4)] rfl (Nat.le_of_ble_eq_true rfl) ?_
  intro p e s m args below meth c D A G ls C hr htab hcC hl hW hS hw
  exact s_L_replaceOld C hr htab hcC hll post v0 v1 v2 v3 v4 _ _ _ _ hW hS hl hw

/-! X3_writeAll -/
def wz_X3_writeAll : List Cond := Cond.code yX3_writeAll cX3_writeAll 4 none :: w0
section Z_X3_writeAll
variable {p : Program} {l : Launch} {e : Env} {s : State} {m : MethodId} {args : Array Value} {below : List Frame} {meth : Method} {c : Code} {D : va_G} {A : Nat → Prop}
set_option maxHeartbeats 4000000 in
set_option maxRecDepth 100000 in
theorem s_X3_writeAll_2_b {K : tK} (C : tc_B p l s m args meth c D K A wz_X3_writeAll RX3 cX3_writeAll 4) (hr : meth.sig.returnType = none) (hll : l.stackTraces = false)  (post : tG → Prop) (k2 : Option Nat → Int32 → Option Nat → Int32 → tG → Prop) (hk2 : ∀ (v0 : Option Nat) (v1 : Int32) (v2 : Option Nat) (v3 : Int32) (G : tG) (H : Heap) (locs : List Loc) (ls : Array Slot), tg_W D A s H G → va_S A s.heap H locs → tl ls 4 [(0, .inr (.inr v0)), (1, .inl v1), (2, .inr (.inr v2)), (3, .inl v3)] → k2 v0 v1 v2 v3 G → W p l e ({ frames := 1, cells := 0, slots := 0, locals := 23 } : Room) s m args below meth c H locs 0 0 (MQ below (tc_Qc D A (retV post)) args s 0 0 A) (F0 m 2 ls [])) : ∀ (v0 : Option Nat) (v1 : Int32) (v2 : Option Nat) (v3 : Int32) (G : tG) (H : Heap) (locs : List Loc) (ls : Array Slot), tg_W D A s H G → va_S A s.heap H locs → tl ls 4 [(0, .inr (.inr v0)), (1, .inl v1), (2, .inr (.inr v2)), (3, .inl v3)] → w_X3_writeAll_2_b K post k2 v0 v1 v2 v3 G → W p l e ({ frames := 1, cells := 0, slots := 0, locals := 23 } : Room) s m args below meth c H locs 0 0 (MQ below (tc_Qc D A (retV post)) args s 0 0 A) (F0 m 2 ls []) := by
  intro v0 v1 v2 v3 G H locs ls hW hS hl hw
  unfold w_X3_writeAll_2_b at hw
  refine tr_iload_n (k := 3) (x := v3) C hl 3 rfl dX3_writeAll_2 ?_
  refine tr_aload_n (k := 2) (x := v2) C hl 2 rfl dX3_writeAll_3 ?_
  refine tr_len (r := v2) C dX3_writeAll_4 hW hw (fun x_4 hw => ?_)
  refine lv_icmp_ge (tgt := 23) C.1.1 C.1.2.1 dX3_writeAll_5 (by decide) (fun hc => ?_) (fun hc => ?_)
  · have hw := hw.1 hc
    exact tr_vret C hr dX3_writeAll_23 (Nat.le_of_ble_eq_true rfl) (Nat.le_of_ble_eq_true rfl) hW hS hw
  · have hw := hw.2 hc
    refine tr_aload_n (k := 0) (x := v0) C hl 0 rfl dX3_writeAll_8 ?_
    refine tr_iload_n (k := 1) (x := v1) C hl 1 rfl dX3_writeAll_9 ?_
    refine tr_iload_n (k := 3) (x := v3) C hl 3 rfl dX3_writeAll_10 ?_
    refine tr_aload_n (k := 2) (x := v2) C hl 2 rfl dX3_writeAll_11 ?_
    refine tr_iload_n (k := 3) (x := v3) C hl 3 rfl dX3_writeAll_12 ?_
    refine tr_alI (r := v2) C dX3_writeAll_13 hW hw (fun x_13 hw => ?_)
    refine tr_backV (tr_runV (r := v0) (As := [.int v1, .int v3, .int x_13]) C hl.1 (c_X3_write l hll K _ v0 v1 v3 x_13) (cwV 3 C.1.2.2.2.2 (gi_V (zm kw_308) (zm kw_309) (zm kw_310) (zm kw_155) (zm kw_307)) rfl rfl rfl (by decide +kernel) ⟨(Nat.le_of_ble_eq_true rfl), (Nat.le_of_ble_eq_true rfl)⟩) rfl rfl dX3_writeAll_14 ⟨(Nat.le_of_ble_eq_true rfl), (Nat.le_of_ble_eq_true rfl)⟩ [] rfl (Nat.le_of_ble_eq_true rfl) rfl hW hS hw) hS (fun G_14 H locs hw hW hS => ?_)
    refine tr_iinc C hl 3 (v3 + (1 : Int32)) [(3, .inl (v3 + (1 : Int32))), (0, .inr (.inr v0)), (1, .inl v1), (2, .inr (.inr v2))] rfl rfl (by decide) rfl dX3_writeAll_17 (fun ls hl => ?_)
    refine lv_goto (tgt := 2) C.1.1 C.1.2.1 dX3_writeAll_20 (by decide) ?_
    exact hk2 v0 v1 v2 ((v3 + (1 : Int32))) _ _ _ _ hW hS (tl_sub hl [1, 2, 3, 0] rfl) hw
set_option maxHeartbeats 4000000 in
set_option maxRecDepth 100000 in
theorem s_X3_writeAll_2 {K : tK} (C : tc_B p l s m args meth c D K A wz_X3_writeAll RX3 cX3_writeAll 4) (hr : meth.sig.returnType = none) (hll : l.stackTraces = false)  (post : tG → Prop) : ∀ (n : Nat) (v0 : Option Nat) (v1 : Int32) (v2 : Option Nat) (v3 : Int32) (G : tG) (H : Heap) (locs : List Loc) (ls : Array Slot), tg_W D A s H G → va_S A s.heap H locs → tl ls 4 [(0, .inr (.inr v0)), (1, .inl v1), (2, .inr (.inr v2)), (3, .inl v3)] → w_X3_writeAll_2 K post n v0 v1 v2 v3 G → W p l e ({ frames := 1, cells := 0, slots := 0, locals := 23 } : Room) s m args below meth c H locs 0 0 (MQ below (tc_Qc D A (retV post)) args s 0 0 A) (F0 m 2 ls []) := by
  intro n
  induction n with
  | zero =>
    intro v0 v1 v2 v3 G H locs ls hW hS hl hw
    exact hw.elim
  | succ n ih => exact s_X3_writeAll_2_b C hr hll post _ ih
set_option maxHeartbeats 4000000 in
set_option maxRecDepth 100000 in
theorem s_X3_writeAll {K : tK} (C : tc_B p l s m args meth c D K A wz_X3_writeAll RX3 cX3_writeAll 4) (hr : meth.sig.returnType = none) (hll : l.stackTraces = false)  (post : tG → Prop) (v0 : Option Nat) (v1 : Int32) (v2 : Option Nat) : ∀ (G : tG) (H : Heap) (locs : List Loc) (ls : Array Slot), tg_W D A s H G → va_S A s.heap H locs → tl ls 4 [(0, .inr (.inr v0)), (1, .inl v1), (2, .inr (.inr v2))] → w_X3_writeAll K post v0 v1 v2 G → W p l e ({ frames := 1, cells := 0, slots := 0, locals := 23 } : Room) s m args below meth c H locs 0 0 (MQ below (tc_Qc D A (retV post)) args s 0 0 A) (F0 m 0 ls []) := by
  intro G H locs ls hW hS hl hw
  unfold w_X3_writeAll at hw
  refine lv_iconst (v := (0 : Int32)) C.1.1 C.1.2.1 dX3_writeAll_0 (by decide) ?_
  refine tr_istore_n (k := 3) (x := (0 : Int32)) C hl [(3, .inl (0 : Int32)), (0, .inr (.inr v0)), (1, .inl v1), (2, .inr (.inr v2))] (by decide) rfl dX3_writeAll_1 (fun ls hl => ?_)
  obtain ⟨n2, hw⟩ := hw
  exact s_X3_writeAll_2 C hr hll post n2 v0 v1 v2 ((0 : Int32)) _ _ _ _ hW hS (tl_sub hl [1, 2, 3, 0] rfl) hw
end Z_X3_writeAll
set_option maxHeartbeats 4000000 in
set_option maxRecDepth 100000 in
theorem c_X3_writeAll (l : Launch) (hll : l.stackTraces = false) (K : tK) (post : tG → Prop) (v0 : Option Nat) (v1 : Int32) (v2 : Option Nat) : Ct l yX3_writeAll wz_X3_writeAll ({ frames := 1, cells := 0, slots := 0, locals := 23 } : Room) 0 0 [va_rf v0, .int v1, va_rf v2] K (retV post) (fun G => w_X3_writeAll K post v0 v1 v2 G) := by
  refine tc_of (cc := cX3_writeAll) (maxL := 4) (ret := none) (own := RX3) (plainFor_of_name (by decide)) rfl rfl hll [.inr (.inr v0), .inl v1, .inr (.inr v2)] rfl (Nat.le_of_ble_eq_true rfl) ?_
  intro p e s m args below meth c D A G ls C hr hn ht hl hW hS hw
  exact s_X3_writeAll C hr hll post v0 v1 v2 _ _ _ _ hW hS hl hw

/-! X3_replaceOld -/
def wz_X3_replaceOld : List Cond := Cond.code yX3_replaceOld cX3_replaceOld 7 (some .int) :: w0
section Z_X3_replaceOld
variable {p : Program} {l : Launch} {e : Env} {s : State} {m : MethodId} {args : Array Value} {below : List Frame} {meth : Method} {c : Code} {D : va_G} {A : Nat → Prop}
set_option maxHeartbeats 4000000 in
set_option maxRecDepth 100000 in
theorem s_X3_replaceOld_81 {K : tK} (C : tc_B p l s m args meth c D K A wz_X3_replaceOld RX3 cX3_replaceOld 7) (hr : meth.sig.returnType = (some .int)) (hll : l.stackTraces = false)  (post : Int32 → tG → Prop) (k51 : Option Nat → Int32 → Int32 → Int32 → Option Nat → Int32 → Int32 → tG → Prop) (hk51 : ∀ (v0 : Option Nat) (v1 : Int32) (v2 : Int32) (v3 : Int32) (v4 : Option Nat) (v5 : Int32) (v6 : Int32) (G : tG) (H : Heap) (locs : List Loc) (ls : Array Slot), tg_W D A s H G → va_S A s.heap H locs → tl ls 7 [(0, .inr (.inr v0)), (1, .inl v1), (2, .inl v2), (3, .inl v3), (4, .inr (.inr v4)), (5, .inl v5), (6, .inl v6)] → k51 v0 v1 v2 v3 v4 v5 v6 G → W p l e ({ frames := 2, cells := 1, slots := 12, locals := 46 } : Room) s m args below meth c H locs 1 12 (MQ below (tc_Qc D A (retI post)) args s 1 12 A) (F0 m 51 ls [])) : ∀ (v0 : Option Nat) (v1 : Int32) (v2 : Int32) (v3 : Int32) (v4 : Option Nat) (v5 : Int32) (v6 : Int32) (u0 : Option Nat) (u1 : Int32) (u2 : Int32) (G : tG) (H : Heap) (locs : List Loc) (ls : Array Slot), tg_W D A s H G → va_S A s.heap H locs → tl ls 7 [(0, .inr (.inr v0)), (1, .inl v1), (2, .inl v2), (3, .inl v3), (4, .inr (.inr v4)), (5, .inl v5), (6, .inl v6)] → w_X3_replaceOld_81 K post k51 v0 v1 v2 v3 v4 v5 v6 u0 u1 u2 G → W p l e ({ frames := 2, cells := 1, slots := 12, locals := 46 } : Room) s m args below meth c H locs 1 12 (MQ below (tc_Qc D A (retI post)) args s 1 12 A) (F0 m 81 ls [.int u2, .int u1, va_rf u0]) := by
  intro v0 v1 v2 v3 v4 v5 v6 u0 u1 u2 G H locs ls hW hS hl hw
  unfold w_X3_replaceOld_81 at hw
  refine tr_asI (r := u0) C dX3_replaceOld_81 hW hS hw (fun G_81 H locs hw hW hS => ?_)
  refine tr_iinc C hl 6 (v6 + (1 : Int32)) [(6, .inl (v6 + (1 : Int32))), (0, .inr (.inr v0)), (1, .inl v1), (2, .inl v2), (3, .inl v3), (4, .inr (.inr v4)), (5, .inl v5)] rfl rfl (by decide) rfl dX3_replaceOld_82 (fun ls hl => ?_)
  refine lv_goto (tgt := 51) C.1.1 C.1.2.1 dX3_replaceOld_85 (by decide) ?_
  exact hk51 v0 v1 v2 v3 v4 v5 ((v6 + (1 : Int32))) _ _ _ _ hW hS (tl_sub hl [1, 2, 3, 4, 5, 6, 0] rfl) hw
set_option maxHeartbeats 4000000 in
set_option maxRecDepth 100000 in
theorem s_X3_replaceOld_105 {K : tK} (C : tc_B p l s m args meth c D K A wz_X3_replaceOld RX3 cX3_replaceOld 7) (hr : meth.sig.returnType = (some .int)) (hll : l.stackTraces = false)  (post : Int32 → tG → Prop) : ∀ (u0 : Int32) (G : tG) (H : Heap) (locs : List Loc) (ls : Array Slot), tg_W D A s H G → va_S A s.heap H locs → tl ls 7 [] → w_X3_replaceOld_105 K post u0 G → W p l e ({ frames := 2, cells := 1, slots := 12, locals := 46 } : Room) s m args below meth c H locs 1 12 (MQ below (tc_Qc D A (retI post)) args s 1 12 A) (F0 m 105 ls [.int u0]) := by
  intro u0 G H locs ls hW hS hl hw
  unfold w_X3_replaceOld_105 at hw
  refine tr_backI (tr_runS (As := [.int u0]) C hl.1 (c_X3_one l hll K _ u0) (va_cwS 1 C.1.2.2.2.2 (gi_S (zm kw_161) (zm kw_162) (zm kw_155) (zm kw_160)) rfl rfl rfl (by decide +kernel) ⟨(Nat.le_of_ble_eq_true rfl), (Nat.le_of_ble_eq_true rfl)⟩) rfl dX3_replaceOld_105 ⟨(Nat.le_of_ble_eq_true rfl), (Nat.le_of_ble_eq_true rfl)⟩ [] rfl (Nat.le_of_ble_eq_true rfl) rfl hW hS hw) hS (fun x_105 G_105 H locs hw hW hS => ?_)
  exact tr_iret C hr dX3_replaceOld_108 (Nat.le_of_ble_eq_true rfl) (Nat.le_of_ble_eq_true rfl) hW hS hw
set_option maxHeartbeats 4000000 in
set_option maxRecDepth 100000 in
theorem s_X3_replaceOld_51_b {K : tK} (C : tc_B p l s m args meth c D K A wz_X3_replaceOld RX3 cX3_replaceOld 7) (hr : meth.sig.returnType = (some .int)) (hll : l.stackTraces = false)  (post : Int32 → tG → Prop) (k51 : Option Nat → Int32 → Int32 → Int32 → Option Nat → Int32 → Int32 → tG → Prop) (hk51 : ∀ (v0 : Option Nat) (v1 : Int32) (v2 : Int32) (v3 : Int32) (v4 : Option Nat) (v5 : Int32) (v6 : Int32) (G : tG) (H : Heap) (locs : List Loc) (ls : Array Slot), tg_W D A s H G → va_S A s.heap H locs → tl ls 7 [(0, .inr (.inr v0)), (1, .inl v1), (2, .inl v2), (3, .inl v3), (4, .inr (.inr v4)), (5, .inl v5), (6, .inl v6)] → k51 v0 v1 v2 v3 v4 v5 v6 G → W p l e ({ frames := 2, cells := 1, slots := 12, locals := 46 } : Room) s m args below meth c H locs 1 12 (MQ below (tc_Qc D A (retI post)) args s 1 12 A) (F0 m 51 ls [])) : ∀ (v0 : Option Nat) (v1 : Int32) (v2 : Int32) (v3 : Int32) (v4 : Option Nat) (v5 : Int32) (v6 : Int32) (G : tG) (H : Heap) (locs : List Loc) (ls : Array Slot), tg_W D A s H G → va_S A s.heap H locs → tl ls 7 [(0, .inr (.inr v0)), (1, .inl v1), (2, .inl v2), (3, .inl v3), (4, .inr (.inr v4)), (5, .inl v5), (6, .inl v6)] → w_X3_replaceOld_51_b K post k51 v0 v1 v2 v3 v4 v5 v6 G → W p l e ({ frames := 2, cells := 1, slots := 12, locals := 46 } : Room) s m args below meth c H locs 1 12 (MQ below (tc_Qc D A (retI post)) args s 1 12 A) (F0 m 51 ls []) := by
  intro v0 v1 v2 v3 v4 v5 v6 G H locs ls hW hS hl hw
  unfold w_X3_replaceOld_51_b at hw
  refine tr_iload (x := v6) C hl 6 rfl dX3_replaceOld_51 ?_
  refine tr_aload (x := v4) C hl 4 rfl dX3_replaceOld_53 ?_
  refine tr_len (r := v4) C dX3_replaceOld_55 hW hw (fun x_55 hw => ?_)
  refine lv_icmp_ge (tgt := 88) C.1.1 C.1.2.1 dX3_replaceOld_56 (by decide) (fun hc => ?_) (fun hc => ?_)
  · have hw := hw.1 hc
    refine tr_aload_n (k := 0) (x := v0) C hl 0 rfl dX3_replaceOld_88 ?_
    refine tr_iload_n (k := 1) (x := v1) C hl 1 rfl dX3_replaceOld_89 ?_
    refine tr_aload (x := v4) C hl 4 rfl dX3_replaceOld_90 ?_
    refine tr_backV (tr_runV (r := v0) (As := [.int v1, va_rf v4]) C hl.1 (c_X3_writeAll l hll K _ v0 v1 v4) (cwV 2 C.1.2.2.2.2 (gi_V (zm kw_349) (zm kw_350) (zm kw_351) (zm kw_155) (zm kw_348)) rfl rfl rfl (by decide +kernel) ⟨(Nat.le_of_ble_eq_true rfl), (Nat.le_of_ble_eq_true rfl)⟩) rfl rfl dX3_replaceOld_92 ⟨(Nat.le_of_ble_eq_true rfl), (Nat.le_of_ble_eq_true rfl)⟩ [] rfl (Nat.le_of_ble_eq_true rfl) rfl hW hS hw) hS (fun G_92 H locs hw hW hS => ?_)
    refine tr_iload (x := v5) C hl 5 rfl dX3_replaceOld_95 ?_
    refine lv_if_le (tgt := 104) C.1.1 C.1.2.1 dX3_replaceOld_97 (by decide) (fun hc => ?_) (fun hc => ?_)
    · have hw := hw.1 hc
      refine lv_iconst (v := (0 : Int32)) C.1.1 C.1.2.1 dX3_replaceOld_104 (by decide) ?_
      exact s_X3_replaceOld_105 C hr hll post ((0 : Int32)) _ _ _ _ hW hS (tl_sub hl [] rfl) hw
    · have hw := hw.2 hc
      refine lv_iconst (v := (1 : Int32)) C.1.1 C.1.2.1 dX3_replaceOld_100 (by decide) ?_
      refine lv_goto (tgt := 105) C.1.1 C.1.2.1 dX3_replaceOld_101 (by decide) ?_
      exact s_X3_replaceOld_105 C hr hll post ((1 : Int32)) _ _ _ _ hW hS (tl_sub hl [] rfl) hw
  · have hw := hw.2 hc
    refine tr_aload (x := v4) C hl 4 rfl dX3_replaceOld_59 ?_
    refine tr_iload (x := v6) C hl 6 rfl dX3_replaceOld_61 ?_
    refine tr_aload (x := v4) C hl 4 rfl dX3_replaceOld_63 ?_
    refine tr_iload (x := v6) C hl 6 rfl dX3_replaceOld_65 ?_
    refine tr_alI (r := v4) C dX3_replaceOld_67 hW hw (fun x_67 hw => ?_)
    refine tr_iload_n (k := 2) (x := v2) C hl 2 rfl dX3_replaceOld_68 ?_
    refine lv_icmp_ne (tgt := 76) C.1.1 C.1.2.1 dX3_replaceOld_69 (by decide) (fun hc => ?_) (fun hc => ?_)
    · have hw := hw.1 hc
      refine tr_aload (x := v4) C hl 4 rfl dX3_replaceOld_76 ?_
      refine tr_iload (x := v6) C hl 6 rfl dX3_replaceOld_78 ?_
      refine tr_alI (r := v4) C dX3_replaceOld_80 hW hw (fun x_80 hw => ?_)
      exact s_X3_replaceOld_81 C hr hll post k51 hk51 v0 v1 v2 v3 v4 v5 v6 v4 v6 x_80 _ _ _ _ hW hS (tl_sub hl [0, 1, 2, 3, 4, 5, 6] rfl) hw
    · have hw := hw.2 hc
      refine tr_iload_n (k := 3) (x := v3) C hl 3 rfl dX3_replaceOld_72 ?_
      refine lv_goto (tgt := 81) C.1.1 C.1.2.1 dX3_replaceOld_73 (by decide) ?_
      exact s_X3_replaceOld_81 C hr hll post k51 hk51 v0 v1 v2 v3 v4 v5 v6 v4 v6 v3 _ _ _ _ hW hS (tl_sub hl [0, 1, 2, 3, 4, 5, 6] rfl) hw
set_option maxHeartbeats 4000000 in
set_option maxRecDepth 100000 in
theorem s_X3_replaceOld_51 {K : tK} (C : tc_B p l s m args meth c D K A wz_X3_replaceOld RX3 cX3_replaceOld 7) (hr : meth.sig.returnType = (some .int)) (hll : l.stackTraces = false)  (post : Int32 → tG → Prop) : ∀ (n : Nat) (v0 : Option Nat) (v1 : Int32) (v2 : Int32) (v3 : Int32) (v4 : Option Nat) (v5 : Int32) (v6 : Int32) (G : tG) (H : Heap) (locs : List Loc) (ls : Array Slot), tg_W D A s H G → va_S A s.heap H locs → tl ls 7 [(0, .inr (.inr v0)), (1, .inl v1), (2, .inl v2), (3, .inl v3), (4, .inr (.inr v4)), (5, .inl v5), (6, .inl v6)] → w_X3_replaceOld_51 K post n v0 v1 v2 v3 v4 v5 v6 G → W p l e ({ frames := 2, cells := 1, slots := 12, locals := 46 } : Room) s m args below meth c H locs 1 12 (MQ below (tc_Qc D A (retI post)) args s 1 12 A) (F0 m 51 ls []) := by
  intro n
  induction n with
  | zero =>
    intro v0 v1 v2 v3 v4 v5 v6 G H locs ls hW hS hl hw
    exact hw.elim
  | succ n ih => exact s_X3_replaceOld_51_b C hr hll post _ ih
set_option maxHeartbeats 4000000 in
set_option maxRecDepth 100000 in
theorem s_X3_replaceOld_25 {K : tK} (C : tc_B p l s m args meth c D K A wz_X3_replaceOld RX3 cX3_replaceOld 7) (hr : meth.sig.returnType = (some .int)) (hll : l.stackTraces = false)  (post : Int32 → tG → Prop) : ∀ (v0 : Option Nat) (v1 : Int32) (v2 : Int32) (v3 : Int32) (u0 : Option Nat) (u1 : Int32) (u2 : Int32) (G : tG) (H : Heap) (locs : List Loc) (ls : Array Slot), tg_W D A s H G → va_S A s.heap H locs → tl ls 7 [(0, .inr (.inr v0)), (1, .inl v1), (2, .inl v2), (3, .inl v3)] → w_X3_replaceOld_25 K post v0 v1 v2 v3 u0 u1 u2 G → W p l e ({ frames := 2, cells := 1, slots := 12, locals := 46 } : Room) s m args below meth c H locs 0 0 (MQ below (tc_Qc D A (retI post)) args s 1 12 A) (F0 m 25 ls [.int u2, .int u1, va_rf u0]) := by
  intro v0 v1 v2 v3 u0 u1 u2 G H locs ls hW hS hl hw
  unfold w_X3_replaceOld_25 at hw
  refine tr_backI (tr_runV (r := u0) (As := [.int u1, .int u2]) C hl.1 (c_X3_fails l hll K _ u0 u1 u2) (cwV 2 C.1.2.2.2.2 (gi_V (zm kw_190) (zm kw_191) (zm kw_192) (zm kw_155) (zm kw_189)) rfl rfl rfl (by decide +kernel) ⟨(Nat.le_of_ble_eq_true rfl), (Nat.le_of_ble_eq_true rfl)⟩) rfl rfl dX3_replaceOld_25 ⟨(Nat.le_of_ble_eq_true rfl), (Nat.le_of_ble_eq_true rfl)⟩ [] rfl (Nat.le_of_ble_eq_true rfl) rfl hW hS hw) hS (fun x_25 G_25 H locs hw hW hS => ?_)
  refine lv_if_eq (tgt := 33) C.1.1 C.1.2.1 dX3_replaceOld_28 (by decide) (fun hc => ?_) (fun hc => ?_)
  · have hw := hw.1 hc
    refine tr_aload_n (k := 0) (x := v0) C hl 0 rfl dX3_replaceOld_33 ?_
    refine tr_iload_n (k := 1) (x := v1) C hl 1 rfl dX3_replaceOld_34 ?_
    refine tr_backR (tr_runV (r := v0) (As := [.int v1]) C hl.1 (c_X3_all l hll K _ v0 v1) (cwV 1 C.1.2.2.2.2 (gi_V (zm kw_157) (zm kw_158) (zm kw_159) (zm kw_155) (zm kw_156)) rfl rfl rfl (by decide +kernel) ⟨(Nat.le_of_ble_eq_true rfl), (Nat.le_of_ble_eq_true rfl)⟩) rfl rfl dX3_replaceOld_35 ⟨(Nat.le_of_ble_eq_true rfl), (Nat.le_of_ble_eq_true rfl)⟩ [] rfl (Nat.le_of_ble_eq_true rfl) rfl hW hS hw) hS (fun x_35 G_35 H locs hw hW hS => ?_)
    refine tr_astore (x := x_35) C hl [(4, .inr (.inr x_35)), (0, .inr (.inr v0)), (1, .inl v1), (2, .inl v2), (3, .inl v3)] (by decide) rfl dX3_replaceOld_38 (fun ls hl => ?_)
    refine tr_aload (x := x_35) C hl 0 rfl dX3_replaceOld_40 ?_
    refine tr_iload_n (k := 2) (x := v2) C hl 3 rfl dX3_replaceOld_42 ?_
    refine tr_backI (tr_runS (As := [va_rf x_35, .int v2]) C hl.1 (c_X3_oftenIn l hll K _ x_35 v2) (va_cwS 2 C.1.2.2.2.2 (gi_S (zm kw_254) (zm kw_255) (zm kw_155) (zm kw_253)) rfl rfl rfl (by decide +kernel) ⟨(Nat.le_of_ble_eq_true rfl), (Nat.le_of_ble_eq_true rfl)⟩) rfl dX3_replaceOld_43 ⟨(Nat.le_of_ble_eq_true rfl), (Nat.le_of_ble_eq_true rfl)⟩ [] rfl (Nat.le_of_ble_eq_true rfl) rfl hW hS hw) hS (fun x_43 G_43 H locs hw hW hS => ?_)
    refine tr_istore (x := x_43) C hl [(5, .inl x_43), (4, .inr (.inr x_35)), (0, .inr (.inr v0)), (1, .inl v1), (2, .inl v2), (3, .inl v3)] (by decide) rfl dX3_replaceOld_46 (fun ls hl => ?_)
    refine lv_iconst (v := (0 : Int32)) C.1.1 C.1.2.1 dX3_replaceOld_48 (by decide) ?_
    refine tr_istore (x := (0 : Int32)) C hl [(6, .inl (0 : Int32)), (5, .inl x_43), (4, .inr (.inr x_35)), (0, .inr (.inr v0)), (1, .inl v1), (2, .inl v2), (3, .inl v3)] (by decide) rfl dX3_replaceOld_49 (fun ls hl => ?_)
    obtain ⟨n51, hw⟩ := hw
    exact s_X3_replaceOld_51 C hr hll post n51 v0 v1 v2 v3 x_35 x_43 ((0 : Int32)) _ _ _ _ hW hS (tl_sub hl [3, 4, 5, 6, 2, 1, 0] rfl) hw
  · have hw := hw.2 hc
    refine lv_iconst (v := (0 : Int32)) C.1.1 C.1.2.1 dX3_replaceOld_31 (by decide) ?_
    exact tr_iret C hr dX3_replaceOld_32 (Nat.le_of_ble_eq_true rfl) (Nat.le_of_ble_eq_true rfl) hW hS hw
set_option maxHeartbeats 4000000 in
set_option maxRecDepth 100000 in
theorem s_X3_replaceOld_20 {K : tK} (C : tc_B p l s m args meth c D K A wz_X3_replaceOld RX3 cX3_replaceOld 7) (hr : meth.sig.returnType = (some .int)) (hll : l.stackTraces = false)  (post : Int32 → tG → Prop) : ∀ (v0 : Option Nat) (v1 : Int32) (v2 : Int32) (v3 : Int32) (u0 : Option Nat) (u1 : Int32) (G : tG) (H : Heap) (locs : List Loc) (ls : Array Slot), tg_W D A s H G → va_S A s.heap H locs → tl ls 7 [(0, .inr (.inr v0)), (1, .inl v1), (2, .inl v2), (3, .inl v3)] → w_X3_replaceOld_20 K post v0 v1 v2 v3 u0 u1 G → W p l e ({ frames := 2, cells := 1, slots := 12, locals := 46 } : Room) s m args below meth c H locs 0 0 (MQ below (tc_Qc D A (retI post)) args s 1 12 A) (F0 m 20 ls [.int u1, va_rf u0]) := by
  intro v0 v1 v2 v3 u0 u1 G H locs ls hW hS hl hw
  unfold w_X3_replaceOld_20 at hw
  refine lv_iconst (v := (1 : Int32)) C.1.1 C.1.2.1 dX3_replaceOld_20 (by decide) ?_
  refine lv_goto (tgt := 25) C.1.1 C.1.2.1 dX3_replaceOld_21 (by decide) ?_
  exact s_X3_replaceOld_25 C hr hll post v0 v1 v2 v3 u0 u1 ((1 : Int32)) _ _ _ _ hW hS (tl_sub hl [0, 1, 2, 3] rfl) hw
set_option maxHeartbeats 4000000 in
set_option maxRecDepth 100000 in
theorem s_X3_replaceOld {K : tK} (C : tc_B p l s m args meth c D K A wz_X3_replaceOld RX3 cX3_replaceOld 7) (hr : meth.sig.returnType = (some .int)) (hll : l.stackTraces = false)  (post : Int32 → tG → Prop) (v0 : Option Nat) (v1 : Int32) (v2 : Int32) (v3 : Int32) : ∀ (G : tG) (H : Heap) (locs : List Loc) (ls : Array Slot), tg_W D A s H G → va_S A s.heap H locs → tl ls 7 [(0, .inr (.inr v0)), (1, .inl v1), (2, .inl v2), (3, .inl v3)] → w_X3_replaceOld K post v0 v1 v2 v3 G → W p l e ({ frames := 2, cells := 1, slots := 12, locals := 46 } : Room) s m args below meth c H locs 0 0 (MQ below (tc_Qc D A (retI post)) args s 1 12 A) (F0 m 0 ls []) := by
  intro G H locs ls hW hS hl hw
  unfold w_X3_replaceOld at hw
  refine tr_aload_n (k := 0) (x := v0) C hl 0 rfl dX3_replaceOld_0 ?_
  refine tr_aload_n (k := 0) (x := v0) C hl 0 rfl dX3_replaceOld_1 ?_
  refine tr_iload_n (k := 1) (x := v1) C hl 1 rfl dX3_replaceOld_2 ?_
  refine tr_backI (tr_runV (r := v0) (As := [.int v1]) C hl.1 (c_X3_isNoList l hll K _ v0 v1) (cwV 1 C.1.2.2.2.2 (gi_V (zm kw_211) (zm kw_212) (zm kw_213) (zm kw_155) (zm kw_210)) rfl rfl rfl (by decide +kernel) ⟨(Nat.le_of_ble_eq_true rfl), (Nat.le_of_ble_eq_true rfl)⟩) rfl rfl dX3_replaceOld_3 ⟨(Nat.le_of_ble_eq_true rfl), (Nat.le_of_ble_eq_true rfl)⟩ [.inr (.inr v0)] rfl (Nat.le_of_ble_eq_true rfl) rfl hW hS hw) hS (fun x_3 G_3 H locs hw hW hS => ?_)
  refine tr_iload_n (k := 2) (x := v2) C hl 2 rfl dX3_replaceOld_6 ?_
  refine tr_backI (tr_runS (As := [.int v2]) C hl.1 (c_X3_isNoValue l hll K _ v2) (va_cwS 1 C.1.2.2.2.2 (gi_S (zm kw_276) (zm kw_277) (zm kw_155) (zm kw_275)) rfl rfl rfl (by decide +kernel) ⟨(Nat.le_of_ble_eq_true rfl), (Nat.le_of_ble_eq_true rfl)⟩) rfl dX3_replaceOld_7 ⟨(Nat.le_of_ble_eq_true rfl), (Nat.le_of_ble_eq_true rfl)⟩ [.inl x_3, .inr (.inr v0)] rfl (Nat.le_of_ble_eq_true rfl) rfl hW hS hw) hS (fun x_7 G_7 H locs hw hW hS => ?_)
  refine lv_if_ne (tgt := 20) C.1.1 C.1.2.1 dX3_replaceOld_10 (by decide) (fun hc => ?_) (fun hc => ?_)
  · have hw := hw.1 hc
    exact s_X3_replaceOld_20 C hr hll post v0 v1 v2 v3 v0 x_3 _ _ _ _ hW hS (tl_sub hl [0, 1, 2, 3] rfl) hw
  · have hw := hw.2 hc
    refine tr_iload_n (k := 3) (x := v3) C hl 3 rfl dX3_replaceOld_13 ?_
    refine tr_backI (tr_runS (As := [.int v3]) C hl.1 (c_X3_isNoValue l hll K _ v3) (va_cwS 1 C.1.2.2.2.2 (gi_S (zm kw_276) (zm kw_277) (zm kw_155) (zm kw_275)) rfl rfl rfl (by decide +kernel) ⟨(Nat.le_of_ble_eq_true rfl), (Nat.le_of_ble_eq_true rfl)⟩) rfl dX3_replaceOld_14 ⟨(Nat.le_of_ble_eq_true rfl), (Nat.le_of_ble_eq_true rfl)⟩ [.inl x_3, .inr (.inr v0)] rfl (Nat.le_of_ble_eq_true rfl) rfl hW hS hw) hS (fun x_14 G_14 H locs hw hW hS => ?_)
    refine lv_if_eq (tgt := 24) C.1.1 C.1.2.1 dX3_replaceOld_17 (by decide) (fun hc => ?_) (fun hc => ?_)
    · have hw := hw.1 hc
      refine lv_iconst (v := (0 : Int32)) C.1.1 C.1.2.1 dX3_replaceOld_24 (by decide) ?_
      exact s_X3_replaceOld_25 C hr hll post v0 v1 v2 v3 v0 x_3 ((0 : Int32)) _ _ _ _ hW hS (tl_sub hl [0, 1, 2, 3] rfl) hw
    · have hw := hw.2 hc
      exact s_X3_replaceOld_20 C hr hll post v0 v1 v2 v3 v0 x_3 _ _ _ _ hW hS (tl_sub hl [0, 1, 2, 3] rfl) hw
end Z_X3_replaceOld
set_option maxHeartbeats 4000000 in
set_option maxRecDepth 100000 in
theorem c_X3_replaceOld (l : Launch) (hll : l.stackTraces = false) (K : tK) (post : Int32 → tG → Prop) (v0 : Option Nat) (v1 : Int32) (v2 : Int32) (v3 : Int32) : Ct l yX3_replaceOld wz_X3_replaceOld ({ frames := 2, cells := 1, slots := 12, locals := 46 } : Room) 1 12 [va_rf v0, .int v1, .int v2, .int v3] K (retI post) (fun G => w_X3_replaceOld K post v0 v1 v2 v3 G) := by
  refine tc_of (cc := cX3_replaceOld) (maxL := 7) (ret := (some .int)) (own := RX3) (plainFor_of_name (by decide)) rfl rfl hll [.inr (.inr v0), .inl v1, .inl v2, .inl v3] rfl (Nat.le_of_ble_eq_true rfl) ?_
  intro p e s m args below meth c D A G ls C hr hn ht hl hW hS hw
  exact s_X3_replaceOld C hr hll post v0 v1 v2 v3 _ _ _ _ hW hS hl hw

/-! X1_checkRule -/
def wz_X1_checkRule : List Cond := Cond.code yX1_checkRule cX1_checkRule 2 none :: w0
section Z_X1_checkRule
variable {p : Program} {l : Launch} {e : Env} {s : State} {m : MethodId} {args : Array Value} {below : List Frame} {meth : Method} {c : Code} {D : va_G} {A : Nat → Prop}
set_option maxHeartbeats 4000000 in
set_option maxRecDepth 100000 in
theorem s_X1_checkRule {K : tK} (C : tc_B p l s m args meth c D K A wz_X1_checkRule RX1 cX1_checkRule 2) (hr : meth.sig.returnType = none) (ht : ∀ x ∈ c.exceptionTable.toList, False) (hll : l.stackTraces = false)  (post : tG → Prop) (postX : String → tG → Prop) (v0 : Int32) (v1 : Int32) : ∀ (G : tG) (H : Heap) (locs : List Loc) (ls : Array Slot), tg_W D A s H G → va_S A s.heap H locs → tl ls 2 [(0, .inl v0), (1, .inl v1)] → w_X1_checkRule K post postX v0 v1 G → W p l e ({ frames := 7, cells := 2, slots := 12, locals := 104 } : Room) s m args below meth c H locs 0 0 (vx_MQ below (tc_Qc D A (retV post)) (tc_XC D A postX) args s 2 12 A) (F0 m 0 ls []) := by
  intro G H locs ls hW hS hl hw
  unfold w_X1_checkRule at hw
  refine tr_iload_n (k := 0) (x := v0) C hl 0 rfl dX1_checkRule_0 ?_
  refine lv_iconst (v := (0 : Int32)) C.1.1 C.1.2.1 dX1_checkRule_1 (by decide) ?_
  refine lv_iconst (v := (3 : Int32)) C.1.1 C.1.2.1 dX1_checkRule_2 (by decide) ?_
  refine tx_backV (tx_runS (As := [.int v0, .int ((0 : Int32)), .int ((3 : Int32))]) C hl.1 (c_X1_checkNumber l hll K _ _ v0 ((0 : Int32)) ((3 : Int32))) (va_cwS 3 C.1.2.2.2.2 (gi_S (zm kw_89) (zm kw_90) (zm kw_33) (zm kw_88)) rfl rfl rfl (by decide +kernel) ⟨(Nat.le_of_ble_eq_true rfl), (Nat.le_of_ble_eq_true rfl)⟩) rfl dX1_checkRule_3 ⟨(Nat.le_of_ble_eq_true rfl), (Nat.le_of_ble_eq_true rfl)⟩ [] rfl (Nat.le_of_ble_eq_true rfl) rfl hW hS hw) hS C.2.1 ht (Nat.le_of_ble_eq_true rfl) (Nat.le_of_ble_eq_true rfl) (fun G_3 H locs hw hW hS => ?_)
  refine tr_iload_n (k := 1) (x := v1) C hl 1 rfl dX1_checkRule_6 ?_
  refine lv_bipush (v := (-99 : Int32)) C.1.1 C.1.2.1 dX1_checkRule_7 (by decide) ?_
  refine lv_bipush (v := (99 : Int32)) C.1.1 C.1.2.1 dX1_checkRule_9 (by decide) ?_
  refine tx_backV (tx_runS (As := [.int v1, .int ((-99 : Int32)), .int ((99 : Int32))]) C hl.1 (c_X1_checkNumber l hll K _ _ v1 ((-99 : Int32)) ((99 : Int32))) (va_cwS 3 C.1.2.2.2.2 (gi_S (zm kw_89) (zm kw_90) (zm kw_33) (zm kw_88)) rfl rfl rfl (by decide +kernel) ⟨(Nat.le_of_ble_eq_true rfl), (Nat.le_of_ble_eq_true rfl)⟩) rfl dX1_checkRule_11 ⟨(Nat.le_of_ble_eq_true rfl), (Nat.le_of_ble_eq_true rfl)⟩ [] rfl (Nat.le_of_ble_eq_true rfl) rfl hW hS hw) hS C.2.1 ht (Nat.le_of_ble_eq_true rfl) (Nat.le_of_ble_eq_true rfl) (fun G_11 H locs hw hW hS => ?_)
  exact vx_ret (tr_vret C hr dX1_checkRule_14 (Nat.le_of_ble_eq_true rfl) (Nat.le_of_ble_eq_true rfl) hW hS hw)
end Z_X1_checkRule
set_option maxHeartbeats 4000000 in
set_option maxRecDepth 100000 in
theorem c_X1_checkRule (l : Launch) (hll : l.stackTraces = false) (K : tK) (post : tG → Prop) (postX : String → tG → Prop) (v0 : Int32) (v1 : Int32) : Cx l yX1_checkRule wz_X1_checkRule ({ frames := 7, cells := 2, slots := 12, locals := 104 } : Room) 2 12 [.int v0, .int v1] K (retV post) postX (fun G => w_X1_checkRule K post postX v0 v1 G) := by
  refine tx_of (cc := cX1_checkRule) (maxL := 2) (ret := none) (own := RX1) (by decide) rfl rfl hll [.inl v0, .inl v1] rfl (Nat.le_of_ble_eq_true rfl) ?_
  intro p e s m args below meth c D A G ls C hr hn ht hl hW hS hw
  exact s_X1_checkRule C hr ht hll post postX v0 v1 _ _ _ _ hW hS hl hw

/-! X1_stepsLeft -/
def wz_X1_stepsLeft : List Cond := Cond.code yX1_stepsLeft cX1_stepsLeft 3 (some .int) :: w0
section Z_X1_stepsLeft
variable {p : Program} {l : Launch} {e : Env} {s : State} {m : MethodId} {args : Array Value} {below : List Frame} {meth : Method} {c : Code} {D : va_G} {A : Nat → Prop}
set_option maxHeartbeats 4000000 in
set_option maxRecDepth 100000 in
theorem s_X1_stepsLeft_14 {K : tK} (C : tc_B p l s m args meth c D K A wz_X1_stepsLeft RX1 cX1_stepsLeft 3) (hr : meth.sig.returnType = (some .int)) (hll : l.stackTraces = false)  (post : Int32 → tG → Prop) : ∀ (u0 : Int32) (G : tG) (H : Heap) (locs : List Loc) (ls : Array Slot), tg_W D A s H G → va_S A s.heap H locs → tl ls 3 [] → w_X1_stepsLeft_14 K post u0 G → W p l e ({ frames := 0, cells := 0, slots := 0, locals := 0 } : Room) s m args below meth c H locs 0 0 (MQ below (tc_Qc D A (retI post)) args s 0 0 A) (F0 m 14 ls [.int u0]) := by
  intro u0 G H locs ls hW hS hl hw
  unfold w_X1_stepsLeft_14 at hw
  exact tr_iret C hr dX1_stepsLeft_14 (Nat.le_of_ble_eq_true rfl) (Nat.le_of_ble_eq_true rfl) hW hS hw
set_option maxHeartbeats 4000000 in
set_option maxRecDepth 100000 in
theorem s_X1_stepsLeft {K : tK} (C : tc_B p l s m args meth c D K A wz_X1_stepsLeft RX1 cX1_stepsLeft 3) (hr : meth.sig.returnType = (some .int)) (hll : l.stackTraces = false)  (post : Int32 → tG → Prop) (v0 : Option Nat) (v1 : Int32) (v2 : Int32) : ∀ (G : tG) (H : Heap) (locs : List Loc) (ls : Array Slot), tg_W D A s H G → va_S A s.heap H locs → tl ls 3 [(0, .inr (.inr v0)), (1, .inl v1), (2, .inl v2)] → w_X1_stepsLeft K post v0 v1 v2 G → W p l e ({ frames := 0, cells := 0, slots := 0, locals := 0 } : Room) s m args below meth c H locs 0 0 (MQ below (tc_Qc D A (retI post)) args s 0 0 A) (F0 m 0 ls []) := by
  intro G H locs ls hW hS hl hw
  unfold w_X1_stepsLeft at hw
  refine tr_iload_n (k := 2) (x := v2) C hl 2 rfl dX1_stepsLeft_0 ?_
  refine lv_if_eq (tgt := 8) C.1.1 C.1.2.1 dX1_stepsLeft_1 (by decide) (fun hc => ?_) (fun hc => ?_)
  · have hw := hw.1 hc
    refine tr_aload_n (k := 0) (x := v0) C hl 0 rfl dX1_stepsLeft_8 ?_
    refine tr_gfI (C0 := RX0) (T := TX0) (N := 4) (ci := 2) (ref := "Twinrow$RowList") (k := 3) (r := v0) C (zh hw_X0) rfl (by decide) (zm kw_34) rfl dX1_stepsLeft_9 hW hw (fun x_9 hw => ?_)
    refine tr_iload_n (k := 1) (x := v1) C hl 1 rfl dX1_stepsLeft_12 ?_
    refine lv_isub C.1.1 C.1.2.1 dX1_stepsLeft_13 ?_
    exact s_X1_stepsLeft_14 C hr hll post ((x_9 - v1)) _ _ _ _ hW hS (tl_sub hl [] rfl) hw
  · have hw := hw.2 hc
    refine tr_iload_n (k := 1) (x := v1) C hl 1 rfl dX1_stepsLeft_4 ?_
    refine lv_goto (tgt := 14) C.1.1 C.1.2.1 dX1_stepsLeft_5 (by decide) ?_
    exact s_X1_stepsLeft_14 C hr hll post v1 _ _ _ _ hW hS (tl_sub hl [] rfl) hw
end Z_X1_stepsLeft
set_option maxHeartbeats 4000000 in
set_option maxRecDepth 100000 in
theorem c_X1_stepsLeft (l : Launch) (hll : l.stackTraces = false) (K : tK) (post : Int32 → tG → Prop) (v0 : Option Nat) (v1 : Int32) (v2 : Int32) : Ct l yX1_stepsLeft wz_X1_stepsLeft ({ frames := 0, cells := 0, slots := 0, locals := 0 } : Room) 0 0 [va_rf v0, .int v1, .int v2] K (retI post) (fun G => w_X1_stepsLeft K post v0 v1 v2 G) := by
  refine tc_of (cc := cX1_stepsLeft) (maxL := 3) (ret := (some .int)) (own := RX1) (plainFor_of_name (by decide)) rfl rfl hll [.inr (.inr v0), .inl v1, .inl v2] rfl (Nat.le_of_ble_eq_true rfl) ?_
  intro p e s m args below meth c D A G ls C hr hn ht hl hW hS hw
  exact s_X1_stepsLeft C hr hll post v0 v1 v2 _ _ _ _ hW hS hl hw

/-! X1_withinNumbers -/
def wz_X1_withinNumbers : List Cond := Cond.code yX1_withinNumbers cX1_withinNumbers 1 (some .int) :: w0
section Z_X1_withinNumbers
variable {p : Program} {l : Launch} {e : Env} {s : State} {m : MethodId} {args : Array Value} {below : List Frame} {meth : Method} {c : Code} {D : va_G} {A : Nat → Prop}
set_option maxHeartbeats 4000000 in
set_option maxRecDepth 100000 in
theorem s_X1_withinNumbers {K : tK} (C : tc_B p l s m args meth c D K A wz_X1_withinNumbers RX1 cX1_withinNumbers 1) (hr : meth.sig.returnType = (some .int)) (hll : l.stackTraces = false)  (post : Int32 → tG → Prop) (v0 : Int32) : ∀ (G : tG) (H : Heap) (locs : List Loc) (ls : Array Slot), tg_W D A s H G → va_S A s.heap H locs → tl ls 1 [(0, .inl v0)] → w_X1_withinNumbers K post v0 G → W p l e ({ frames := 1, cells := 0, slots := 0, locals := 21 } : Room) s m args below meth c H locs 0 0 (MQ below (tc_Qc D A (retI post)) args s 0 0 A) (F0 m 0 ls []) := by
  intro G H locs ls hW hS hl hw
  unfold w_X1_withinNumbers at hw
  refine lv_bipush (v := (-99 : Int32)) C.1.1 C.1.2.1 dX1_withinNumbers_0 (by decide) ?_
  refine lv_bipush (v := (99 : Int32)) C.1.1 C.1.2.1 dX1_withinNumbers_2 (by decide) ?_
  refine tr_iload_n (k := 0) (x := v0) C hl 0 rfl dX1_withinNumbers_4 ?_
  refine tr_min C hl.1 (zm kw_352) (zm kw_353) (zm kw_354) (zm kw_355) [.inl ((-99 : Int32))] rfl (Nat.le_of_ble_eq_true rfl) (Nat.le_of_ble_eq_true rfl) (Nat.le_of_ble_eq_true rfl) (Nat.le_of_ble_eq_true rfl) dX1_withinNumbers_5 ?_
  refine tr_max C hl.1 (zm kw_356) (zm kw_357) (zm kw_354) (zm kw_358) [] rfl (Nat.le_of_ble_eq_true rfl) (Nat.le_of_ble_eq_true rfl) (Nat.le_of_ble_eq_true rfl) (Nat.le_of_ble_eq_true rfl) dX1_withinNumbers_8 ?_
  exact tr_iret C hr dX1_withinNumbers_11 (Nat.le_of_ble_eq_true rfl) (Nat.le_of_ble_eq_true rfl) hW hS hw
end Z_X1_withinNumbers
set_option maxHeartbeats 4000000 in
set_option maxRecDepth 100000 in
theorem c_X1_withinNumbers (l : Launch) (hll : l.stackTraces = false) (K : tK) (post : Int32 → tG → Prop) (v0 : Int32) : Ct l yX1_withinNumbers wz_X1_withinNumbers ({ frames := 1, cells := 0, slots := 0, locals := 21 } : Room) 0 0 [.int v0] K (retI post) (fun G => w_X1_withinNumbers K post v0 G) := by
  refine tc_of (cc := cX1_withinNumbers) (maxL := 1) (ret := (some .int)) (own := RX1) (plainFor_of_name (by decide)) rfl rfl hll [.inl v0] rfl (Nat.le_of_ble_eq_true rfl) ?_
  intro p e s m args below meth c D A G ls C hr hn ht hl hW hS hw
  exact s_X1_withinNumbers C hr hll post v0 _ _ _ _ hW hS hl hw

/-! X1_ruled -/
def wz_X1_ruled : List Cond := Cond.code yX1_ruled cX1_ruled 4 (some .int) :: w0
section Z_X1_ruled
variable {p : Program} {l : Launch} {e : Env} {s : State} {m : MethodId} {args : Array Value} {below : List Frame} {meth : Method} {c : Code} {D : va_G} {A : Nat → Prop}
set_option maxHeartbeats 4000000 in
set_option maxRecDepth 100000 in
theorem s_X1_ruled_64 {K : tK} (C : tc_B p l s m args meth c D K A wz_X1_ruled RX1 cX1_ruled 4) (hr : meth.sig.returnType = (some .int)) (hll : l.stackTraces = false)  (post : Int32 → tG → Prop) : ∀ (u0 : Int32) (G : tG) (H : Heap) (locs : List Loc) (ls : Array Slot), tg_W D A s H G → va_S A s.heap H locs → tl ls 4 [] → w_X1_ruled_64 K post u0 G → W p l e ({ frames := 2, cells := 0, slots := 0, locals := 41 } : Room) s m args below meth c H locs 0 0 (MQ below (tc_Qc D A (retI post)) args s 0 0 A) (F0 m 64 ls [.int u0]) := by
  intro u0 G H locs ls hW hS hl hw
  unfold w_X1_ruled_64 at hw
  exact tr_iret C hr dX1_ruled_64 (Nat.le_of_ble_eq_true rfl) (Nat.le_of_ble_eq_true rfl) hW hS hw
set_option maxHeartbeats 4000000 in
set_option maxRecDepth 100000 in
theorem s_X1_ruled {K : tK} (C : tc_B p l s m args meth c D K A wz_X1_ruled RX1 cX1_ruled 4) (hr : meth.sig.returnType = (some .int)) (hll : l.stackTraces = false)  (post : Int32 → tG → Prop) (v0 : Int32) (v1 : Int32) (v2 : Int32) : ∀ (G : tG) (H : Heap) (locs : List Loc) (ls : Array Slot), tg_W D A s H G → va_S A s.heap H locs → tl ls 4 [(0, .inl v0), (1, .inl v1), (2, .inl v2)] → w_X1_ruled K post v0 v1 v2 G → W p l e ({ frames := 2, cells := 0, slots := 0, locals := 41 } : Room) s m args below meth c H locs 0 0 (MQ below (tc_Qc D A (retI post)) args s 0 0 A) (F0 m 0 ls []) := by
  intro G H locs ls hW hS hl hw
  unfold w_X1_ruled at hw
  refine tr_iload_n (k := 0) (x := v0) C hl 0 rfl dX1_ruled_0 ?_
  refine tr_backI (tr_runS (As := [.int v0]) C hl.1 (c_X1_numberOf l hll K _ v0) (va_cwS 1 C.1.2.2.2.2 (gi_S (zm kw_31) (zm kw_32) (zm kw_33) (zm kw_30)) rfl rfl rfl (by decide +kernel) ⟨(Nat.le_of_ble_eq_true rfl), (Nat.le_of_ble_eq_true rfl)⟩) rfl dX1_ruled_1 ⟨(Nat.le_of_ble_eq_true rfl), (Nat.le_of_ble_eq_true rfl)⟩ [] rfl (Nat.le_of_ble_eq_true rfl) rfl hW hS hw) hS (fun x_1 G_1 H locs hw hW hS => ?_)
  refine tr_istore_n (k := 3) (x := x_1) C hl [(3, .inl x_1), (0, .inl v0), (1, .inl v1), (2, .inl v2)] (by decide) rfl dX1_ruled_4 (fun ls hl => ?_)
  refine tr_iload_n (k := 1) (x := v1) C hl 2 rfl dX1_ruled_5 ?_
  by_cases hc0 : v1 = (0 : Int32)
  · have hw := hw.1 hc0
    refine lv_tableIn (off := 26) (tgt := 32) C.1.1 C.1.2.1 dX1_ruled_6 (by rw [hc0]; decide) (by rw [hc0]; decide) (by rw [hc0]; rfl) (by decide) ?_
    refine tr_iload_n (k := 3) (x := x_1) C hl 0 rfl dX1_ruled_32 ?_
    refine tr_iload_n (k := 2) (x := v2) C hl 3 rfl dX1_ruled_33 ?_
    refine lv_iadd C.1.1 C.1.2.1 dX1_ruled_34 ?_
    refine tr_backI (tr_runS (As := [.int ((x_1 + v2))]) C hl.1 (c_X1_withinNumbers l hll K _ ((x_1 + v2))) (va_cwS 1 C.1.2.2.2.2 (gi_S (zm kw_360) (zm kw_361) (zm kw_33) (zm kw_359)) rfl rfl rfl (by decide +kernel) ⟨(Nat.le_of_ble_eq_true rfl), (Nat.le_of_ble_eq_true rfl)⟩) rfl dX1_ruled_35 ⟨(Nat.le_of_ble_eq_true rfl), (Nat.le_of_ble_eq_true rfl)⟩ [] rfl (Nat.le_of_ble_eq_true rfl) rfl hW hS hw) hS (fun x_35 G_35 H locs hw hW hS => ?_)
    exact tr_iret C hr dX1_ruled_38 (Nat.le_of_ble_eq_true rfl) (Nat.le_of_ble_eq_true rfl) hW hS hw
  have hw := hw.2
  by_cases hc1 : v1 = (1 : Int32)
  · have hw := hw.1 hc1
    refine lv_tableIn (off := 33) (tgt := 39) C.1.1 C.1.2.1 dX1_ruled_6 (by rw [hc1]; decide) (by rw [hc1]; decide) (by rw [hc1]; rfl) (by decide) ?_
    refine tr_iload_n (k := 3) (x := x_1) C hl 0 rfl dX1_ruled_39 ?_
    refine tr_iload_n (k := 2) (x := v2) C hl 3 rfl dX1_ruled_40 ?_
    refine tr_max C hl.1 (zm kw_356) (zm kw_357) (zm kw_354) (zm kw_358) [] rfl (Nat.le_of_ble_eq_true rfl) (Nat.le_of_ble_eq_true rfl) (Nat.le_of_ble_eq_true rfl) (Nat.le_of_ble_eq_true rfl) dX1_ruled_41 ?_
    exact tr_iret C hr dX1_ruled_44 (Nat.le_of_ble_eq_true rfl) (Nat.le_of_ble_eq_true rfl) hW hS hw
  have hw := hw.2
  by_cases hc2 : v1 = (2 : Int32)
  · have hw := hw.1 hc2
    refine lv_tableIn (off := 39) (tgt := 45) C.1.1 C.1.2.1 dX1_ruled_6 (by rw [hc2]; decide) (by rw [hc2]; decide) (by rw [hc2]; rfl) (by decide) ?_
    refine tr_iload_n (k := 3) (x := x_1) C hl 0 rfl dX1_ruled_45 ?_
    refine tr_iload_n (k := 2) (x := v2) C hl 3 rfl dX1_ruled_46 ?_
    refine lv_imul C.1.1 C.1.2.1 dX1_ruled_47 ?_
    refine tr_backI (tr_runS (As := [.int ((x_1 * v2))]) C hl.1 (c_X1_withinNumbers l hll K _ ((x_1 * v2))) (va_cwS 1 C.1.2.2.2.2 (gi_S (zm kw_360) (zm kw_361) (zm kw_33) (zm kw_359)) rfl rfl rfl (by decide +kernel) ⟨(Nat.le_of_ble_eq_true rfl), (Nat.le_of_ble_eq_true rfl)⟩) rfl dX1_ruled_48 ⟨(Nat.le_of_ble_eq_true rfl), (Nat.le_of_ble_eq_true rfl)⟩ [] rfl (Nat.le_of_ble_eq_true rfl) rfl hW hS hw) hS (fun x_48 G_48 H locs hw hW hS => ?_)
    exact tr_iret C hr dX1_ruled_51 (Nat.le_of_ble_eq_true rfl) (Nat.le_of_ble_eq_true rfl) hW hS hw
  have hw := hw.2
  have hcd : ((v1).toInt < 0 ∨ 2 < (v1).toInt) := by
    have q0 := lv_neT (a := 0) hc0 (by decide)
    have q1 := lv_neT (a := 1) hc1 (by decide)
    have q2 := lv_neT (a := 2) hc2 (by decide)
    omega
  have hw := hw hcd
  refine lv_tableOut (tgt := 52) C.1.1 C.1.2.1 dX1_ruled_6 hcd (by decide) ?_
  refine tr_iload_n (k := 3) (x := x_1) C hl 0 rfl dX1_ruled_52 ?_
  refine tr_iload_n (k := 2) (x := v2) C hl 3 rfl dX1_ruled_53 ?_
  refine lv_icmp_ne (tgt := 63) C.1.1 C.1.2.1 dX1_ruled_54 (by decide) (fun hc => ?_) (fun hc => ?_)
  · have hw := hw.1 hc
    refine tr_iload_n (k := 3) (x := x_1) C hl 0 rfl dX1_ruled_63 ?_
    exact s_X1_ruled_64 C hr hll post x_1 _ _ _ _ hW hS (tl_sub hl [] rfl) hw
  · have hw := hw.2 hc
    refine lv_sipush (v := (-1000 : Int32)) C.1.1 C.1.2.1 dX1_ruled_57 (by decide) ?_
    refine lv_goto (tgt := 64) C.1.1 C.1.2.1 dX1_ruled_60 (by decide) ?_
    exact s_X1_ruled_64 C hr hll post ((-1000 : Int32)) _ _ _ _ hW hS (tl_sub hl [] rfl) hw
end Z_X1_ruled
set_option maxHeartbeats 4000000 in
set_option maxRecDepth 100000 in
theorem c_X1_ruled (l : Launch) (hll : l.stackTraces = false) (K : tK) (post : Int32 → tG → Prop) (v0 : Int32) (v1 : Int32) (v2 : Int32) : Ct l yX1_ruled wz_X1_ruled ({ frames := 2, cells := 0, slots := 0, locals := 41 } : Room) 0 0 [.int v0, .int v1, .int v2] K (retI post) (fun G => w_X1_ruled K post v0 v1 v2 G) := by
  refine tc_of (cc := cX1_ruled) (maxL := 4) (ret := (some .int)) (own := RX1) (plainFor_of_name (by decide)) rfl rfl hll [.inl v0, .inl v1, .inl v2] rfl (Nat.le_of_ble_eq_true rfl) ?_
  intro p e s m args below meth c D A G ls C hr hn ht hl hW hS hw
  exact s_X1_ruled C hr hll post v0 v1 v2 _ _ _ _ hW hS hl hw

/-! X1_writeRuled -/
def wz_X1_writeRuled : List Cond := Cond.code yX1_writeRuled cX1_writeRuled 8 (some .int) :: w0
section Z_X1_writeRuled
variable {p : Program} {l : Launch} {e : Env} {s : State} {m : MethodId} {args : Array Value} {below : List Frame} {meth : Method} {c : Code} {D : va_G} {A : Nat → Prop}
set_option maxHeartbeats 4000000 in
set_option maxRecDepth 100000 in
theorem s_X1_writeRuled_12_b {K : tK} (C : tc_B p l s m args meth c D K A wz_X1_writeRuled RX1 cX1_writeRuled 8) (hr : meth.sig.returnType = (some .int)) (hll : l.stackTraces = false)  (post : Int32 → tG → Prop) (k12 : Option Nat → Int32 → Int32 → Int32 → Int32 → Int32 → Int32 → tG → Prop) (hk12 : ∀ (v0 : Option Nat) (v1 : Int32) (v2 : Int32) (v3 : Int32) (v4 : Int32) (v5 : Int32) (v6 : Int32) (G : tG) (H : Heap) (locs : List Loc) (ls : Array Slot), tg_W D A s H G → va_S A s.heap H locs → tl ls 8 [(0, .inr (.inr v0)), (1, .inl v1), (2, .inl v2), (3, .inl v3), (4, .inl v4), (5, .inl v5), (6, .inl v6)] → k12 v0 v1 v2 v3 v4 v5 v6 G → W p l e ({ frames := 3, cells := 0, slots := 0, locals := 64 } : Room) s m args below meth c H locs 0 0 (MQ below (tc_Qc D A (retI post)) args s 0 0 A) (F0 m 12 ls [])) : ∀ (v0 : Option Nat) (v1 : Int32) (v2 : Int32) (v3 : Int32) (v4 : Int32) (v5 : Int32) (v6 : Int32) (G : tG) (H : Heap) (locs : List Loc) (ls : Array Slot), tg_W D A s H G → va_S A s.heap H locs → tl ls 8 [(0, .inr (.inr v0)), (1, .inl v1), (2, .inl v2), (3, .inl v3), (4, .inl v4), (5, .inl v5), (6, .inl v6)] → w_X1_writeRuled_12_b K post k12 v0 v1 v2 v3 v4 v5 v6 G → W p l e ({ frames := 3, cells := 0, slots := 0, locals := 64 } : Room) s m args below meth c H locs 0 0 (MQ below (tc_Qc D A (retI post)) args s 0 0 A) (F0 m 12 ls []) := by
  intro v0 v1 v2 v3 v4 v5 v6 G H locs ls hW hS hl hw
  unfold w_X1_writeRuled_12_b at hw
  refine tr_iload (x := v6) C hl 6 rfl dX1_writeRuled_12 ?_
  refine tr_iload (x := v5) C hl 5 rfl dX1_writeRuled_14 ?_
  refine lv_icmp_ge (tgt := 53) C.1.1 C.1.2.1 dX1_writeRuled_16 (by decide) (fun hc => ?_) (fun hc => ?_)
  · have hw := hw.1 hc
    refine tr_iload (x := v5) C hl 5 rfl dX1_writeRuled_53 ?_
    exact tr_iret C hr dX1_writeRuled_55 (Nat.le_of_ble_eq_true rfl) (Nat.le_of_ble_eq_true rfl) hW hS hw
  · have hw := hw.2 hc
    refine tr_iload_n (k := 1) (x := v1) C hl 1 rfl dX1_writeRuled_19 ?_
    refine tr_iload (x := v6) C hl 6 rfl dX1_writeRuled_20 ?_
    refine tr_iload (x := v4) C hl 4 rfl dX1_writeRuled_22 ?_
    refine tr_backI (tr_runS (As := [.int v1, .int v6, .int v4]) C hl.1 (c_X1_placeAfter l hll K _ v1 v6 v4) (va_cwS 3 C.1.2.2.2.2 (gi_S (zm kw_51) (zm kw_52) (zm kw_33) (zm kw_50)) rfl rfl rfl (by decide +kernel) ⟨(Nat.le_of_ble_eq_true rfl), (Nat.le_of_ble_eq_true rfl)⟩) rfl dX1_writeRuled_24 ⟨(Nat.le_of_ble_eq_true rfl), (Nat.le_of_ble_eq_true rfl)⟩ [] rfl (Nat.le_of_ble_eq_true rfl) rfl hW hS hw) hS (fun x_24 G_24 H locs hw hW hS => ?_)
    refine tr_istore (x := x_24) C hl [(7, .inl x_24), (0, .inr (.inr v0)), (1, .inl v1), (2, .inl v2), (3, .inl v3), (4, .inl v4), (5, .inl v5), (6, .inl v6)] (by decide) rfl dX1_writeRuled_27 (fun ls hl => ?_)
    refine tr_aload_n (k := 0) (x := v0) C hl 1 rfl dX1_writeRuled_29 ?_
    refine tr_iload (x := x_24) C hl 0 rfl dX1_writeRuled_30 ?_
    refine tr_aload_n (k := 0) (x := v0) C hl 1 rfl dX1_writeRuled_32 ?_
    refine tr_iload (x := x_24) C hl 0 rfl dX1_writeRuled_33 ?_
    refine tr_backI (tr_runV (r := v0) (As := [.int x_24]) C hl.1 (c_X0_read l hll K _ v0 x_24) (cwV 1 C.1.2.2.2.2 (gi_V (zm kw_27) (zm kw_28) (zm kw_29) (zm kw_10) (zm kw_26)) rfl rfl rfl (by decide +kernel) ⟨(Nat.le_of_ble_eq_true rfl), (Nat.le_of_ble_eq_true rfl)⟩) rfl rfl dX1_writeRuled_35 ⟨(Nat.le_of_ble_eq_true rfl), (Nat.le_of_ble_eq_true rfl)⟩ [.inl x_24, .inr (.inr v0)] rfl (Nat.le_of_ble_eq_true rfl) rfl hW hS hw) hS (fun x_35 G_35 H locs hw hW hS => ?_)
    refine tr_iload_n (k := 2) (x := v2) C hl 3 rfl dX1_writeRuled_38 ?_
    refine tr_iload_n (k := 3) (x := v3) C hl 4 rfl dX1_writeRuled_39 ?_
    refine tr_backI (tr_runS (As := [.int x_35, .int v2, .int v3]) C hl.1 (c_X1_ruled l hll K _ x_35 v2 v3) (va_cwS 3 C.1.2.2.2.2 (gi_S (zm kw_363) (zm kw_364) (zm kw_33) (zm kw_362)) rfl rfl rfl (by decide +kernel) ⟨(Nat.le_of_ble_eq_true rfl), (Nat.le_of_ble_eq_true rfl)⟩) rfl dX1_writeRuled_40 ⟨(Nat.le_of_ble_eq_true rfl), (Nat.le_of_ble_eq_true rfl)⟩ [.inl x_24, .inr (.inr v0)] rfl (Nat.le_of_ble_eq_true rfl) rfl hW hS hw) hS (fun x_40 G_40 H locs hw hW hS => ?_)
    refine tr_backI (tr_runV (r := v0) (As := [.int x_24, .int x_40]) C hl.1 (c_X0_write l hll K _ v0 x_24 x_40) (cwV 2 C.1.2.2.2.2 (gi_V (zm kw_47) (zm kw_48) (zm kw_49) (zm kw_10) (zm kw_46)) rfl rfl rfl (by decide +kernel) ⟨(Nat.le_of_ble_eq_true rfl), (Nat.le_of_ble_eq_true rfl)⟩) rfl rfl dX1_writeRuled_43 ⟨(Nat.le_of_ble_eq_true rfl), (Nat.le_of_ble_eq_true rfl)⟩ [] rfl (Nat.le_of_ble_eq_true rfl) rfl hW hS hw) hS (fun x_43 G_43 H locs hw hW hS => ?_)
    refine lv_pop C.1.1 C.1.2.1 dX1_writeRuled_46 rfl ?_
    refine tr_iinc C hl 7 (v6 + (1 : Int32)) [(6, .inl (v6 + (1 : Int32))), (7, .inl x_24), (0, .inr (.inr v0)), (1, .inl v1), (2, .inl v2), (3, .inl v3), (4, .inl v4), (5, .inl v5)] rfl rfl (by decide) rfl dX1_writeRuled_47 (fun ls hl => ?_)
    refine lv_goto (tgt := 12) C.1.1 C.1.2.1 dX1_writeRuled_50 (by decide) ?_
    exact hk12 v0 v1 v2 v3 v4 v5 ((v6 + (1 : Int32))) _ _ _ _ hW hS (tl_sub hl [2, 3, 4, 5, 6, 7, 0] rfl) hw
set_option maxHeartbeats 4000000 in
set_option maxRecDepth 100000 in
theorem s_X1_writeRuled_12 {K : tK} (C : tc_B p l s m args meth c D K A wz_X1_writeRuled RX1 cX1_writeRuled 8) (hr : meth.sig.returnType = (some .int)) (hll : l.stackTraces = false)  (post : Int32 → tG → Prop) : ∀ (n : Nat) (v0 : Option Nat) (v1 : Int32) (v2 : Int32) (v3 : Int32) (v4 : Int32) (v5 : Int32) (v6 : Int32) (G : tG) (H : Heap) (locs : List Loc) (ls : Array Slot), tg_W D A s H G → va_S A s.heap H locs → tl ls 8 [(0, .inr (.inr v0)), (1, .inl v1), (2, .inl v2), (3, .inl v3), (4, .inl v4), (5, .inl v5), (6, .inl v6)] → w_X1_writeRuled_12 K post n v0 v1 v2 v3 v4 v5 v6 G → W p l e ({ frames := 3, cells := 0, slots := 0, locals := 64 } : Room) s m args below meth c H locs 0 0 (MQ below (tc_Qc D A (retI post)) args s 0 0 A) (F0 m 12 ls []) := by
  intro n
  induction n with
  | zero =>
    intro v0 v1 v2 v3 v4 v5 v6 G H locs ls hW hS hl hw
    exact hw.elim
  | succ n ih => exact s_X1_writeRuled_12_b C hr hll post _ ih
set_option maxHeartbeats 4000000 in
set_option maxRecDepth 100000 in
theorem s_X1_writeRuled {K : tK} (C : tc_B p l s m args meth c D K A wz_X1_writeRuled RX1 cX1_writeRuled 8) (hr : meth.sig.returnType = (some .int)) (hll : l.stackTraces = false)  (post : Int32 → tG → Prop) (v0 : Option Nat) (v1 : Int32) (v2 : Int32) (v3 : Int32) (v4 : Int32) : ∀ (G : tG) (H : Heap) (locs : List Loc) (ls : Array Slot), tg_W D A s H G → va_S A s.heap H locs → tl ls 8 [(0, .inr (.inr v0)), (1, .inl v1), (2, .inl v2), (3, .inl v3), (4, .inl v4)] → w_X1_writeRuled K post v0 v1 v2 v3 v4 G → W p l e ({ frames := 3, cells := 0, slots := 0, locals := 64 } : Room) s m args below meth c H locs 0 0 (MQ below (tc_Qc D A (retI post)) args s 0 0 A) (F0 m 0 ls []) := by
  intro G H locs ls hW hS hl hw
  unfold w_X1_writeRuled at hw
  refine tr_aload_n (k := 0) (x := v0) C hl 0 rfl dX1_writeRuled_0 ?_
  refine tr_iload_n (k := 1) (x := v1) C hl 1 rfl dX1_writeRuled_1 ?_
  refine tr_iload (x := v4) C hl 4 rfl dX1_writeRuled_2 ?_
  refine tr_backI (tr_runS (As := [va_rf v0, .int v1, .int v4]) C hl.1 (c_X1_stepsLeft l hll K _ v0 v1 v4) (va_cwS 3 C.1.2.2.2.2 (gi_S (zm kw_366) (zm kw_367) (zm kw_33) (zm kw_365)) rfl rfl rfl (by decide +kernel) ⟨(Nat.le_of_ble_eq_true rfl), (Nat.le_of_ble_eq_true rfl)⟩) rfl dX1_writeRuled_4 ⟨(Nat.le_of_ble_eq_true rfl), (Nat.le_of_ble_eq_true rfl)⟩ [] rfl (Nat.le_of_ble_eq_true rfl) rfl hW hS hw) hS (fun x_4 G_4 H locs hw hW hS => ?_)
  refine tr_istore (x := x_4) C hl [(5, .inl x_4), (0, .inr (.inr v0)), (1, .inl v1), (2, .inl v2), (3, .inl v3), (4, .inl v4)] (by decide) rfl dX1_writeRuled_7 (fun ls hl => ?_)
  refine lv_iconst (v := (0 : Int32)) C.1.1 C.1.2.1 dX1_writeRuled_9 (by decide) ?_
  refine tr_istore (x := (0 : Int32)) C hl [(6, .inl (0 : Int32)), (5, .inl x_4), (0, .inr (.inr v0)), (1, .inl v1), (2, .inl v2), (3, .inl v3), (4, .inl v4)] (by decide) rfl dX1_writeRuled_10 (fun ls hl => ?_)
  obtain ⟨n12, hw⟩ := hw
  exact s_X1_writeRuled_12 C hr hll post n12 v0 v1 v2 v3 v4 x_4 ((0 : Int32)) _ _ _ _ hW hS (tl_sub hl [2, 3, 4, 5, 6, 1, 0] rfl) hw
end Z_X1_writeRuled
set_option maxHeartbeats 4000000 in
set_option maxRecDepth 100000 in
theorem c_X1_writeRuled (l : Launch) (hll : l.stackTraces = false) (K : tK) (post : Int32 → tG → Prop) (v0 : Option Nat) (v1 : Int32) (v2 : Int32) (v3 : Int32) (v4 : Int32) : Ct l yX1_writeRuled wz_X1_writeRuled ({ frames := 3, cells := 0, slots := 0, locals := 64 } : Room) 0 0 [va_rf v0, .int v1, .int v2, .int v3, .int v4] K (retI post) (fun G => w_X1_writeRuled K post v0 v1 v2 v3 v4 G) := by
  refine tc_of (cc := cX1_writeRuled) (maxL := 8) (ret := (some .int)) (own := RX1) (plainFor_of_name (by decide)) rfl rfl hll [.inr (.inr v0), .inl v1, .inl v2, .inl v3, .inl v4] rfl (Nat.le_of_ble_eq_true rfl) ?_
  intro p e s m args below meth c D A G ls C hr hn ht hl hW hS hw
  exact s_X1_writeRuled C hr hll post v0 v1 v2 v3 v4 _ _ _ _ hW hS hl hw

/-! X1_replaceAll -/
def wz_X1_replaceAll : List Cond := Cond.code yX1_replaceAll cX1_replaceAll 5 (some .int) :: w0
section Z_X1_replaceAll
variable {p : Program} {l : Launch} {e : Env} {s : State} {m : MethodId} {args : Array Value} {below : List Frame} {meth : Method} {c : Code} {D : va_G} {A : Nat → Prop}
set_option maxHeartbeats 4000000 in
set_option maxRecDepth 100000 in
theorem s_X1_replaceAll {K : tK} (C : tc_B p l s m args meth c D K A wz_X1_replaceAll RX1 cX1_replaceAll 5) (hr : meth.sig.returnType = (some .int)) (ht : ∀ x ∈ c.exceptionTable.toList, False) (hll : l.stackTraces = false)  (post : Int32 → tG → Prop) (postX : String → tG → Prop) (v0 : Option Nat) (v1 : Int32) (v2 : Int32) (v3 : Int32) : ∀ (G : tG) (H : Heap) (locs : List Loc) (ls : Array Slot), tg_W D A s H G → va_S A s.heap H locs → tl ls 5 [(0, .inr (.inr v0)), (1, .inl v1), (2, .inl v2), (3, .inl v3)] → w_X1_replaceAll K post postX v0 v1 v2 v3 G → W p l e ({ frames := 8, cells := 3, slots := 18, locals := 125 } : Room) s m args below meth c H locs 0 0 (vx_MQ below (tc_Qc D A (retI post)) (tc_XC D A postX) args s 3 18 A) (F0 m 0 ls []) := by
  intro G H locs ls hW hS hl hw
  unfold w_X1_replaceAll at hw
  refine tr_aload_n (k := 0) (x := v0) C hl 0 rfl dX1_replaceAll_0 ?_
  refine tr_iload_n (k := 1) (x := v1) C hl 1 rfl dX1_replaceAll_1 ?_
  refine tx_backR (tx_runV (r := v0) (As := [.int v1]) C hl.1 (c_X1_listAt l hll K _ _ v0 v1) (cwV 1 C.1.2.2.2.2 (gi_V (zm kw_94) (zm kw_95) (zm kw_96) (zm kw_33) (zm kw_93)) rfl rfl rfl (by decide +kernel) ⟨(Nat.le_of_ble_eq_true rfl), (Nat.le_of_ble_eq_true rfl)⟩) rfl rfl dX1_replaceAll_2 ⟨(Nat.le_of_ble_eq_true rfl), (Nat.le_of_ble_eq_true rfl)⟩ [] rfl (Nat.le_of_ble_eq_true rfl) rfl hW hS hw) hS C.2.1 ht (Nat.le_of_ble_eq_true rfl) (Nat.le_of_ble_eq_true rfl) (fun x_2 G_2 H locs hw hW hS => ?_)
  refine tr_astore (x := x_2) C hl [(4, .inr (.inr x_2)), (0, .inr (.inr v0)), (1, .inl v1), (2, .inl v2), (3, .inl v3)] (by decide) rfl dX1_replaceAll_5 (fun ls hl => ?_)
  refine tr_iload_n (k := 2) (x := v2) C hl 3 rfl dX1_replaceAll_7 ?_
  refine tr_iload_n (k := 3) (x := v3) C hl 4 rfl dX1_replaceAll_8 ?_
  refine tx_backV (tx_runS (As := [.int v2, .int v3]) C hl.1 (c_X1_checkRule l hll K _ _ v2 v3) (va_cwS 2 C.1.2.2.2.2 (gi_S (zm kw_369) (zm kw_370) (zm kw_33) (zm kw_368)) rfl rfl rfl (by decide +kernel) ⟨(Nat.le_of_ble_eq_true rfl), (Nat.le_of_ble_eq_true rfl)⟩) rfl dX1_replaceAll_9 ⟨(Nat.le_of_ble_eq_true rfl), (Nat.le_of_ble_eq_true rfl)⟩ [] rfl (Nat.le_of_ble_eq_true rfl) rfl hW hS hw) hS C.2.1 ht (Nat.le_of_ble_eq_true rfl) (Nat.le_of_ble_eq_true rfl) (fun G_9 H locs hw hW hS => ?_)
  refine tr_aload (x := x_2) C hl 0 rfl dX1_replaceAll_12 ?_
  refine lv_iconst (v := (0 : Int32)) C.1.1 C.1.2.1 dX1_replaceAll_14 (by decide) ?_
  refine tr_iload_n (k := 2) (x := v2) C hl 3 rfl dX1_replaceAll_15 ?_
  refine tr_iload_n (k := 3) (x := v3) C hl 4 rfl dX1_replaceAll_16 ?_
  refine lv_iconst (v := (0 : Int32)) C.1.1 C.1.2.1 dX1_replaceAll_17 (by decide) ?_
  refine tr_backI (tr_runS (As := [va_rf x_2, .int ((0 : Int32)), .int v2, .int v3, .int ((0 : Int32))]) C hl.1 (c_X1_writeRuled l hll K _ x_2 ((0 : Int32)) v2 v3 ((0 : Int32))) (va_cwS 5 C.1.2.2.2.2 (gi_S (zm kw_372) (zm kw_373) (zm kw_33) (zm kw_371)) rfl rfl rfl (by decide +kernel) ⟨(Nat.le_of_ble_eq_true rfl), (Nat.le_of_ble_eq_true rfl)⟩) rfl dX1_replaceAll_18 ⟨(Nat.le_of_ble_eq_true rfl), (Nat.le_of_ble_eq_true rfl)⟩ [] rfl (Nat.le_of_ble_eq_true rfl) rfl hW hS hw) hS (fun x_18 G_18 H locs hw hW hS => ?_)
  exact vx_ret (tr_iret C hr dX1_replaceAll_21 (Nat.le_of_ble_eq_true rfl) (Nat.le_of_ble_eq_true rfl) hW hS hw)
end Z_X1_replaceAll
set_option maxHeartbeats 4000000 in
set_option maxRecDepth 100000 in
theorem c_X1_replaceAll (l : Launch) (hll : l.stackTraces = false) (K : tK) (post : Int32 → tG → Prop) (postX : String → tG → Prop) (v0 : Option Nat) (v1 : Int32) (v2 : Int32) (v3 : Int32) : Cx l yX1_replaceAll wz_X1_replaceAll ({ frames := 8, cells := 3, slots := 18, locals := 125 } : Room) 3 18 [va_rf v0, .int v1, .int v2, .int v3] K (retI post) postX (fun G => w_X1_replaceAll K post postX v0 v1 v2 v3 G) := by
  refine tx_of (cc := cX1_replaceAll) (maxL := 5) (ret := (some .int)) (own := RX1) (by decide) rfl rfl hll [.inr (.inr v0), .inl v1, .inl v2, .inl v3] rfl (Nat.le_of_ble_eq_true rfl) ?_
  intro p e s m args below meth c D A G ls C hr hn ht hl hW hS hw
  exact s_X1_replaceAll C hr ht hll post postX v0 v1 v2 v3 _ _ _ _ hW hS hl hw

/-! L_replaceAll -/
def wz_L_replaceAll : List Cond := Cond.codeWith yL_replaceAll cL_replaceAll 6 (some .int) [(0, 13, 16, 19), (0, 13, 20, 21)] :: w0
section Z_L_replaceAll
variable {p : Program} {l : Launch} {e : Env} {s : State} {m : MethodId} {args : Array Value} {below : List Frame} {meth : Method} {c : Code} {D : va_G} {A : Nat → Prop}
set_option maxHeartbeats 4000000 in
set_option maxRecDepth 100000 in
theorem s_L_replaceAll {K : tK} (C : tc_B p l s m args meth c D K A wz_L_replaceAll RL cL_replaceAll 6) (hr : meth.sig.returnType = (some .int)) (htab : c.exceptionTable.toList = tableOf [(0, 13, 16, 19), (0, 13, 20, 21)]) (hcC : kx_C s) (hll : l.stackTraces = false)  (post : Int32 → tG → Prop) (v0 : Option Nat) (v1 : Int32) (v2 : Int32) (v3 : Int32) (v4 : Option Nat) : ∀ (G : tG) (H : Heap) (locs : List Loc) (ls : Array Slot), tg_W D A s H G → va_S A s.heap H locs → tl ls 6 [(0, .inr (.inr v0)), (1, .inl v1), (2, .inl v2), (3, .inl v3), (4, .inr (.inr v4))] → w_L_replaceAll K post v0 v1 v2 v3 v4 G → W p l e ({ frames := 9, cells := 3, slots := 18, locals := 149 } : Room) s m args below meth c H locs 0 0 (vx_MQ below (tc_Qc D A (retI post)) (tc_XC D A (fun _ _ => False)) args s 3 18 A) (F0 m 0 ls []) := by
  intro G H locs ls hW hS hl hw
  unfold w_L_replaceAll at hw
  refine tr_aload (x := v4) C hl 4 rfl dL_replaceAll_0 ?_
  refine tr_aload_n (k := 0) (x := v0) C hl 0 rfl dL_replaceAll_2 ?_
  refine tr_iload_n (k := 1) (x := v1) C hl 1 rfl dL_replaceAll_3 ?_
  refine tr_iload_n (k := 2) (x := v2) C hl 2 rfl dL_replaceAll_4 ?_
  refine tr_iload_n (k := 3) (x := v3) C hl 3 rfl dL_replaceAll_5 ?_
  refine tx_backCI (tx_runV (r := v0) (As := [.int v1, .int v2, .int v3]) C hl.1 (c_X1_replaceAll l hll K _ _ v0 v1 v2 v3) (cwV 3 C.1.2.2.2.2 (gi_V (zm kw_375) (zm kw_376) (zm kw_377) (zm kw_33) (zm kw_374)) rfl rfl rfl (by decide +kernel) ⟨(Nat.le_of_ble_eq_true rfl), (Nat.le_of_ble_eq_true rfl)⟩) rfl rfl dL_replaceAll_6 ⟨(Nat.le_of_ble_eq_true rfl), (Nat.le_of_ble_eq_true rfl)⟩ [.inr (.inr v4)] rfl (Nat.le_of_ble_eq_true rfl) rfl hW hS hw) hS (fun E ce q9 GX H locs hw hW hS hce hcv hcl => ?_) (fun x_6 G_6 H locs hw hW hS => ?_)
  · by_cases hq0 : E = "java/lang/IndexOutOfBoundsException"
    · replace hw := hw.1 hq0
      subst hq0
      refine vx_catch (name := "java/lang/IndexOutOfBoundsException") C.1.2.2.2.1 [] (⟨0, 13, 16, 19⟩ : ExceptionTableEntry) [(⟨0, 13, 20, 21⟩ : ExceptionTableEntry)] (by rw [htab]; rfl) (fun z hz => nomatch hz) (by decide) (by decide) (C.1.2.2.2.2 _ (zm kw_209)) hcC.2.2.1 hce hcv hcl ?_
      refine tr_astore (x := (some q9)) C hl [(5, .inr (.inr (some q9))), (0, .inr (.inr v0)), (1, .inl v1), (2, .inl v2), (3, .inl v3), (4, .inr (.inr v4))] (by decide) rfl dL_replaceAll_16 (fun ls hl => ?_)
      refine lv_iconst (v := (1 : Int32)) C.1.1 C.1.2.1 dL_replaceAll_18 (by decide) ?_
      exact vx_ret (tr_iret C hr dL_replaceAll_19 (Nat.le_of_ble_eq_true rfl) (Nat.le_of_ble_eq_true rfl) hW hS hw)
    replace hw := hw.2 hq0
    by_cases hq1 : E = "java/lang/IllegalArgumentException"
    · replace hw := hw.1 hq1
      subst hq1
      refine vx_catch (name := "java/lang/IllegalArgumentException") C.1.2.2.2.1 [(⟨0, 13, 16, 19⟩ : ExceptionTableEntry)] (⟨0, 13, 20, 21⟩ : ExceptionTableEntry) [] (by rw [htab]; rfl) (kx_pass1 C hcC rfl (by decide) (zm kw_209)) (by decide) (by decide) (C.1.2.2.2.2 _ (zm kw_188)) hcC.2.2.2.1 hce hcv hcl ?_
      refine tr_astore (x := (some q9)) C hl [(5, .inr (.inr (some q9))), (0, .inr (.inr v0)), (1, .inl v1), (2, .inl v2), (3, .inl v3), (4, .inr (.inr v4))] (by decide) rfl dL_replaceAll_20 (fun ls hl => ?_)
      refine lv_iconst (v := (2 : Int32)) C.1.1 C.1.2.1 dL_replaceAll_22 (by decide) ?_
      exact vx_ret (tr_iret C hr dL_replaceAll_23 (Nat.le_of_ble_eq_true rfl) (Nat.le_of_ble_eq_true rfl) hW hS hw)
    replace hw := hw.2 hq1
    exact hw.elim
  · refine lv_i2l (v := ((x_6).toInt64)) C.1.1 C.1.2.1 dL_replaceAll_9 rfl ?_
    refine tr_pfN (C0 := RX2) (T := TX2) (N := 2) (ci := 4) (ref := "TwinrowLaw$Out") (host := "TwinrowLaw") (k := 0) (ty := .long) (v := .long (((x_6).toInt64))) (r := v4) C (zh hw_X2) tyX2 tyX2_ok nmX2 rfl (by decide) hcC.1 rfl rfl (by decide +kernel) rfl rfl dL_replaceAll_10 hW hS hw (fun G_10 H locs hw hW hS => ?_)
    refine lv_goto (tgt := 24) C.1.1 C.1.2.1 dL_replaceAll_13 (by decide) ?_
    refine lv_iconst (v := (0 : Int32)) C.1.1 C.1.2.1 dL_replaceAll_24 (by decide) ?_
    exact vx_ret (tr_iret C hr dL_replaceAll_25 (Nat.le_of_ble_eq_true rfl) (Nat.le_of_ble_eq_true rfl) hW hS hw)
end Z_L_replaceAll
set_option maxHeartbeats 4000000 in
set_option maxRecDepth 100000 in
theorem c_L_replaceAll (l : Launch) (hll : l.stackTraces = false) (K : tK) (post : Int32 → tG → Prop) (v0 : Option Nat) (v1 : Int32) (v2 : Int32) (v3 : Int32) (v4 : Option Nat) : Cx l yL_replaceAll wz_L_replaceAll ({ frames := 9, cells := 3, slots := 18, locals := 149 } : Room) 3 18 [va_rf v0, .int v1, .int v2, .int v3, va_rf v4] K (retI post) (fun _ _ => False) (fun G => w_L_replaceAll K post v0 v1 v2 v3 v4 G) := by
  refine tx_ofH (cc := cL_replaceAll) (maxL := 6) (ret := (some .int)) (own := RL) (hh := [(0, 13, 16, 19), (0, 13, 20, 21)]) (by decide) rfl rfl hll [.inr (.inr v0), .inl v1, .inl v2, .inl v3, .inr (.inr v4)] rfl (Nat.le_of_ble_eq_true rfl) ?_
  intro p e s m args below meth c D A G ls C hr htab hcC hl hW hS hw
  exact s_L_replaceAll C hr htab hcC hll post v0 v1 v2 v3 v4 _ _ _ _ hW hS hl hw

/-! X3_isNoRule -/
def wz_X3_isNoRule : List Cond := Cond.code yX3_isNoRule cX3_isNoRule 2 (some .boolean) :: w0
section Z_X3_isNoRule
variable {p : Program} {l : Launch} {e : Env} {s : State} {m : MethodId} {args : Array Value} {below : List Frame} {meth : Method} {c : Code} {D : va_G} {A : Nat → Prop}
set_option maxHeartbeats 4000000 in
set_option maxRecDepth 100000 in
theorem s_X3_isNoRule_25 {K : tK} (C : tc_B p l s m args meth c D K A wz_X3_isNoRule RX3 cX3_isNoRule 2) (hr : meth.sig.returnType = (some .boolean)) (hll : l.stackTraces = false)  (post : Int32 → tG → Prop) : ∀ (u0 : Int32) (G : tG) (H : Heap) (locs : List Loc) (ls : Array Slot), tg_W D A s H G → va_S A s.heap H locs → tl ls 2 [] → w_X3_isNoRule_25 K post u0 G → W p l e ({ frames := 1, cells := 0, slots := 0, locals := 22 } : Room) s m args below meth c H locs 0 0 (MQ below (tc_Qc D A (retI post)) args s 0 0 A) (F0 m 25 ls [.int u0]) := by
  intro u0 G H locs ls hW hS hl hw
  unfold w_X3_isNoRule_25 at hw
  exact tr_zret C hr dX3_isNoRule_25 (Nat.le_of_ble_eq_true rfl) (Nat.le_of_ble_eq_true rfl) hW hS hw
set_option maxHeartbeats 4000000 in
set_option maxRecDepth 100000 in
theorem s_X3_isNoRule_20 {K : tK} (C : tc_B p l s m args meth c D K A wz_X3_isNoRule RX3 cX3_isNoRule 2) (hr : meth.sig.returnType = (some .boolean)) (hll : l.stackTraces = false)  (post : Int32 → tG → Prop) : ∀ (G : tG) (H : Heap) (locs : List Loc) (ls : Array Slot), tg_W D A s H G → va_S A s.heap H locs → tl ls 2 [] → w_X3_isNoRule_20 K post G → W p l e ({ frames := 1, cells := 0, slots := 0, locals := 22 } : Room) s m args below meth c H locs 0 0 (MQ below (tc_Qc D A (retI post)) args s 0 0 A) (F0 m 20 ls []) := by
  intro G H locs ls hW hS hl hw
  unfold w_X3_isNoRule_20 at hw
  refine lv_iconst (v := (1 : Int32)) C.1.1 C.1.2.1 dX3_isNoRule_20 (by decide) ?_
  refine lv_goto (tgt := 25) C.1.1 C.1.2.1 dX3_isNoRule_21 (by decide) ?_
  exact s_X3_isNoRule_25 C hr hll post ((1 : Int32)) _ _ _ _ hW hS (tl_sub hl [] rfl) hw
set_option maxHeartbeats 4000000 in
set_option maxRecDepth 100000 in
theorem s_X3_isNoRule {K : tK} (C : tc_B p l s m args meth c D K A wz_X3_isNoRule RX3 cX3_isNoRule 2) (hr : meth.sig.returnType = (some .boolean)) (hll : l.stackTraces = false)  (post : Int32 → tG → Prop) (v0 : Int32) (v1 : Int32) : ∀ (G : tG) (H : Heap) (locs : List Loc) (ls : Array Slot), tg_W D A s H G → va_S A s.heap H locs → tl ls 2 [(0, .inl v0), (1, .inl v1)] → w_X3_isNoRule K post v0 v1 G → W p l e ({ frames := 1, cells := 0, slots := 0, locals := 22 } : Room) s m args below meth c H locs 0 0 (MQ below (tc_Qc D A (retI post)) args s 0 0 A) (F0 m 0 ls []) := by
  intro G H locs ls hW hS hl hw
  unfold w_X3_isNoRule at hw
  refine tr_iload_n (k := 0) (x := v0) C hl 0 rfl dX3_isNoRule_0 ?_
  refine lv_iconst (v := (0 : Int32)) C.1.1 C.1.2.1 dX3_isNoRule_1 (by decide) ?_
  refine lv_iconst (v := (3 : Int32)) C.1.1 C.1.2.1 dX3_isNoRule_2 (by decide) ?_
  refine tr_backI (tr_runS (As := [.int v0, .int ((0 : Int32)), .int ((3 : Int32))]) C hl.1 (c_X3_isIn l hll K _ v0 ((0 : Int32)) ((3 : Int32))) (va_cwS 3 C.1.2.2.2.2 (gi_S (zm kw_194) (zm kw_195) (zm kw_155) (zm kw_193)) rfl rfl rfl (by decide +kernel) ⟨(Nat.le_of_ble_eq_true rfl), (Nat.le_of_ble_eq_true rfl)⟩) rfl dX3_isNoRule_3 ⟨(Nat.le_of_ble_eq_true rfl), (Nat.le_of_ble_eq_true rfl)⟩ [] rfl (Nat.le_of_ble_eq_true rfl) rfl hW hS hw) hS (fun x_3 G_3 H locs hw hW hS => ?_)
  refine lv_if_eq (tgt := 20) C.1.1 C.1.2.1 dX3_isNoRule_6 (by decide) (fun hc => ?_) (fun hc => ?_)
  · have hw := hw.1 hc
    exact s_X3_isNoRule_20 C hr hll post _ _ _ _ hW hS (tl_sub hl [] rfl) hw
  · have hw := hw.2 hc
    refine tr_iload_n (k := 1) (x := v1) C hl 1 rfl dX3_isNoRule_9 ?_
    refine lv_bipush (v := (-99 : Int32)) C.1.1 C.1.2.1 dX3_isNoRule_10 (by decide) ?_
    refine lv_bipush (v := (99 : Int32)) C.1.1 C.1.2.1 dX3_isNoRule_12 (by decide) ?_
    refine tr_backI (tr_runS (As := [.int v1, .int ((-99 : Int32)), .int ((99 : Int32))]) C hl.1 (c_X3_isIn l hll K _ v1 ((-99 : Int32)) ((99 : Int32))) (va_cwS 3 C.1.2.2.2.2 (gi_S (zm kw_194) (zm kw_195) (zm kw_155) (zm kw_193)) rfl rfl rfl (by decide +kernel) ⟨(Nat.le_of_ble_eq_true rfl), (Nat.le_of_ble_eq_true rfl)⟩) rfl dX3_isNoRule_14 ⟨(Nat.le_of_ble_eq_true rfl), (Nat.le_of_ble_eq_true rfl)⟩ [] rfl (Nat.le_of_ble_eq_true rfl) rfl hW hS hw) hS (fun x_14 G_14 H locs hw hW hS => ?_)
    refine lv_if_ne (tgt := 24) C.1.1 C.1.2.1 dX3_isNoRule_17 (by decide) (fun hc => ?_) (fun hc => ?_)
    · have hw := hw.1 hc
      refine lv_iconst (v := (0 : Int32)) C.1.1 C.1.2.1 dX3_isNoRule_24 (by decide) ?_
      exact s_X3_isNoRule_25 C hr hll post ((0 : Int32)) _ _ _ _ hW hS (tl_sub hl [] rfl) hw
    · have hw := hw.2 hc
      exact s_X3_isNoRule_20 C hr hll post _ _ _ _ hW hS (tl_sub hl [] rfl) hw
end Z_X3_isNoRule
set_option maxHeartbeats 4000000 in
set_option maxRecDepth 100000 in
theorem c_X3_isNoRule (l : Launch) (hll : l.stackTraces = false) (K : tK) (post : Int32 → tG → Prop) (v0 : Int32) (v1 : Int32) : Ct l yX3_isNoRule wz_X3_isNoRule ({ frames := 1, cells := 0, slots := 0, locals := 22 } : Room) 0 0 [.int v0, .int v1] K (retI post) (fun G => w_X3_isNoRule K post v0 v1 G) := by
  refine tc_of (cc := cX3_isNoRule) (maxL := 2) (ret := (some .boolean)) (own := RX3) (plainFor_of_name (by decide)) rfl rfl hll [.inl v0, .inl v1] rfl (Nat.le_of_ble_eq_true rfl) ?_
  intro p e s m args below meth c D A G ls C hr hn ht hl hW hS hw
  exact s_X3_isNoRule C hr hll post v0 v1 _ _ _ _ hW hS hl hw

/-! X3_bounded -/
def wz_X3_bounded : List Cond := Cond.code yX3_bounded cX3_bounded 1 (some .int) :: w0
section Z_X3_bounded
variable {p : Program} {l : Launch} {e : Env} {s : State} {m : MethodId} {args : Array Value} {below : List Frame} {meth : Method} {c : Code} {D : va_G} {A : Nat → Prop}
set_option maxHeartbeats 4000000 in
set_option maxRecDepth 100000 in
theorem s_X3_bounded {K : tK} (C : tc_B p l s m args meth c D K A wz_X3_bounded RX3 cX3_bounded 1) (hr : meth.sig.returnType = (some .int)) (hll : l.stackTraces = false)  (post : Int32 → tG → Prop) (v0 : Int32) : ∀ (G : tG) (H : Heap) (locs : List Loc) (ls : Array Slot), tg_W D A s H G → va_S A s.heap H locs → tl ls 1 [(0, .inl v0)] → w_X3_bounded K post v0 G → W p l e ({ frames := 1, cells := 0, slots := 0, locals := 21 } : Room) s m args below meth c H locs 0 0 (MQ below (tc_Qc D A (retI post)) args s 0 0 A) (F0 m 0 ls []) := by
  intro G H locs ls hW hS hl hw
  unfold w_X3_bounded at hw
  refine lv_bipush (v := (-99 : Int32)) C.1.1 C.1.2.1 dX3_bounded_0 (by decide) ?_
  refine lv_bipush (v := (99 : Int32)) C.1.1 C.1.2.1 dX3_bounded_2 (by decide) ?_
  refine tr_iload_n (k := 0) (x := v0) C hl 0 rfl dX3_bounded_4 ?_
  refine tr_min C hl.1 (zm kw_378) (zm kw_353) (zm kw_354) (zm kw_355) [.inl ((-99 : Int32))] rfl (Nat.le_of_ble_eq_true rfl) (Nat.le_of_ble_eq_true rfl) (Nat.le_of_ble_eq_true rfl) (Nat.le_of_ble_eq_true rfl) dX3_bounded_5 ?_
  refine tr_max C hl.1 (zm kw_379) (zm kw_357) (zm kw_354) (zm kw_358) [] rfl (Nat.le_of_ble_eq_true rfl) (Nat.le_of_ble_eq_true rfl) (Nat.le_of_ble_eq_true rfl) (Nat.le_of_ble_eq_true rfl) dX3_bounded_8 ?_
  exact tr_iret C hr dX3_bounded_11 (Nat.le_of_ble_eq_true rfl) (Nat.le_of_ble_eq_true rfl) hW hS hw
end Z_X3_bounded
set_option maxHeartbeats 4000000 in
set_option maxRecDepth 100000 in
theorem c_X3_bounded (l : Launch) (hll : l.stackTraces = false) (K : tK) (post : Int32 → tG → Prop) (v0 : Int32) : Ct l yX3_bounded wz_X3_bounded ({ frames := 1, cells := 0, slots := 0, locals := 21 } : Room) 0 0 [.int v0] K (retI post) (fun G => w_X3_bounded K post v0 G) := by
  refine tc_of (cc := cX3_bounded) (maxL := 1) (ret := (some .int)) (own := RX3) (plainFor_of_name (by decide)) rfl rfl hll [.inl v0] rfl (Nat.le_of_ble_eq_true rfl) ?_
  intro p e s m args below meth c D A G ls C hr hn ht hl hW hS hw
  exact s_X3_bounded C hr hll post v0 _ _ _ _ hW hS hl hw

/-! X3_ruled -/
def wz_X3_ruled : List Cond := Cond.code yX3_ruled cX3_ruled 4 (some .int) :: w0
section Z_X3_ruled
variable {p : Program} {l : Launch} {e : Env} {s : State} {m : MethodId} {args : Array Value} {below : List Frame} {meth : Method} {c : Code} {D : va_G} {A : Nat → Prop}
set_option maxHeartbeats 4000000 in
set_option maxRecDepth 100000 in
theorem s_X3_ruled_59 {K : tK} (C : tc_B p l s m args meth c D K A wz_X3_ruled RX3 cX3_ruled 4) (hr : meth.sig.returnType = (some .int)) (hll : l.stackTraces = false)  (post : Int32 → tG → Prop) : ∀ (u0 : Int32) (G : tG) (H : Heap) (locs : List Loc) (ls : Array Slot), tg_W D A s H G → va_S A s.heap H locs → tl ls 4 [] → w_X3_ruled_59 K post u0 G → W p l e ({ frames := 2, cells := 0, slots := 0, locals := 41 } : Room) s m args below meth c H locs 0 0 (MQ below (tc_Qc D A (retI post)) args s 0 0 A) (F0 m 59 ls [.int u0]) := by
  intro u0 G H locs ls hW hS hl hw
  unfold w_X3_ruled_59 at hw
  exact tr_iret C hr dX3_ruled_59 (Nat.le_of_ble_eq_true rfl) (Nat.le_of_ble_eq_true rfl) hW hS hw
set_option maxHeartbeats 4000000 in
set_option maxRecDepth 100000 in
theorem s_X3_ruled_12 {K : tK} (C : tc_B p l s m args meth c D K A wz_X3_ruled RX3 cX3_ruled 4) (hr : meth.sig.returnType = (some .int)) (hll : l.stackTraces = false)  (post : Int32 → tG → Prop) : ∀ (v0 : Int32) (v2 : Int32) (u0 : Int32) (G : tG) (H : Heap) (locs : List Loc) (ls : Array Slot), tg_W D A s H G → va_S A s.heap H locs → tl ls 4 [(0, .inl v0), (2, .inl v2)] → w_X3_ruled_12 K post v0 v2 u0 G → W p l e ({ frames := 2, cells := 0, slots := 0, locals := 41 } : Room) s m args below meth c H locs 0 0 (MQ below (tc_Qc D A (retI post)) args s 0 0 A) (F0 m 12 ls [.int u0]) := by
  intro v0 v2 u0 G H locs ls hW hS hl hw
  unfold w_X3_ruled_12 at hw
  refine tr_istore_n (k := 3) (x := u0) C hl [(3, .inl u0), (0, .inl v0), (2, .inl v2)] (by decide) rfl dX3_ruled_12 (fun ls hl => ?_)
  refine tr_iload_n (k := 0) (x := v0) C hl 1 rfl dX3_ruled_13 ?_
  refine lv_if_ne (tgt := 24) C.1.1 C.1.2.1 dX3_ruled_14 (by decide) (fun hc => ?_) (fun hc => ?_)
  · have hw := hw.1 hc
    refine tr_iload_n (k := 0) (x := v0) C hl 1 rfl dX3_ruled_24 ?_
    refine lv_iconst (v := (1 : Int32)) C.1.1 C.1.2.1 dX3_ruled_25 (by decide) ?_
    refine lv_icmp_ne (tgt := 35) C.1.1 C.1.2.1 dX3_ruled_26 (by decide) (fun hc => ?_) (fun hc => ?_)
    · have hw := hw.1 hc
      refine tr_iload_n (k := 0) (x := v0) C hl 1 rfl dX3_ruled_35 ?_
      refine lv_iconst (v := (2 : Int32)) C.1.1 C.1.2.1 dX3_ruled_36 (by decide) ?_
      refine lv_icmp_ne (tgt := 47) C.1.1 C.1.2.1 dX3_ruled_37 (by decide) (fun hc => ?_) (fun hc => ?_)
      · have hw := hw.1 hc
        refine tr_iload_n (k := 3) (x := u0) C hl 0 rfl dX3_ruled_47 ?_
        refine tr_iload_n (k := 2) (x := v2) C hl 2 rfl dX3_ruled_48 ?_
        refine lv_icmp_ne (tgt := 58) C.1.1 C.1.2.1 dX3_ruled_49 (by decide) (fun hc => ?_) (fun hc => ?_)
        · have hw := hw.1 hc
          refine tr_iload_n (k := 3) (x := u0) C hl 0 rfl dX3_ruled_58 ?_
          exact s_X3_ruled_59 C hr hll post u0 _ _ _ _ hW hS (tl_sub hl [] rfl) hw
        · have hw := hw.2 hc
          refine lv_sipush (v := (-1000 : Int32)) C.1.1 C.1.2.1 dX3_ruled_52 (by decide) ?_
          refine lv_goto (tgt := 59) C.1.1 C.1.2.1 dX3_ruled_55 (by decide) ?_
          exact s_X3_ruled_59 C hr hll post ((-1000 : Int32)) _ _ _ _ hW hS (tl_sub hl [] rfl) hw
      · have hw := hw.2 hc
        refine tr_iload_n (k := 3) (x := u0) C hl 0 rfl dX3_ruled_40 ?_
        refine tr_iload_n (k := 2) (x := v2) C hl 2 rfl dX3_ruled_41 ?_
        refine lv_imul C.1.1 C.1.2.1 dX3_ruled_42 ?_
        refine tr_backI (tr_runS (As := [.int ((u0 * v2))]) C hl.1 (c_X3_bounded l hll K _ ((u0 * v2))) (va_cwS 1 C.1.2.2.2.2 (gi_S (zm kw_381) (zm kw_382) (zm kw_155) (zm kw_380)) rfl rfl rfl (by decide +kernel) ⟨(Nat.le_of_ble_eq_true rfl), (Nat.le_of_ble_eq_true rfl)⟩) rfl dX3_ruled_43 ⟨(Nat.le_of_ble_eq_true rfl), (Nat.le_of_ble_eq_true rfl)⟩ [] rfl (Nat.le_of_ble_eq_true rfl) rfl hW hS hw) hS (fun x_43 G_43 H locs hw hW hS => ?_)
        exact tr_iret C hr dX3_ruled_46 (Nat.le_of_ble_eq_true rfl) (Nat.le_of_ble_eq_true rfl) hW hS hw
    · have hw := hw.2 hc
      refine tr_iload_n (k := 3) (x := u0) C hl 0 rfl dX3_ruled_29 ?_
      refine tr_iload_n (k := 2) (x := v2) C hl 2 rfl dX3_ruled_30 ?_
      refine tr_max C hl.1 (zm kw_379) (zm kw_357) (zm kw_354) (zm kw_358) [] rfl (Nat.le_of_ble_eq_true rfl) (Nat.le_of_ble_eq_true rfl) (Nat.le_of_ble_eq_true rfl) (Nat.le_of_ble_eq_true rfl) dX3_ruled_31 ?_
      exact tr_iret C hr dX3_ruled_34 (Nat.le_of_ble_eq_true rfl) (Nat.le_of_ble_eq_true rfl) hW hS hw
  · have hw := hw.2 hc
    refine tr_iload_n (k := 3) (x := u0) C hl 0 rfl dX3_ruled_17 ?_
    refine tr_iload_n (k := 2) (x := v2) C hl 2 rfl dX3_ruled_18 ?_
    refine lv_iadd C.1.1 C.1.2.1 dX3_ruled_19 ?_
    refine tr_backI (tr_runS (As := [.int ((u0 + v2))]) C hl.1 (c_X3_bounded l hll K _ ((u0 + v2))) (va_cwS 1 C.1.2.2.2.2 (gi_S (zm kw_381) (zm kw_382) (zm kw_155) (zm kw_380)) rfl rfl rfl (by decide +kernel) ⟨(Nat.le_of_ble_eq_true rfl), (Nat.le_of_ble_eq_true rfl)⟩) rfl dX3_ruled_20 ⟨(Nat.le_of_ble_eq_true rfl), (Nat.le_of_ble_eq_true rfl)⟩ [] rfl (Nat.le_of_ble_eq_true rfl) rfl hW hS hw) hS (fun x_20 G_20 H locs hw hW hS => ?_)
    exact tr_iret C hr dX3_ruled_23 (Nat.le_of_ble_eq_true rfl) (Nat.le_of_ble_eq_true rfl) hW hS hw
set_option maxHeartbeats 4000000 in
set_option maxRecDepth 100000 in
theorem s_X3_ruled {K : tK} (C : tc_B p l s m args meth c D K A wz_X3_ruled RX3 cX3_ruled 4) (hr : meth.sig.returnType = (some .int)) (hll : l.stackTraces = false)  (post : Int32 → tG → Prop) (v0 : Int32) (v1 : Int32) (v2 : Int32) : ∀ (G : tG) (H : Heap) (locs : List Loc) (ls : Array Slot), tg_W D A s H G → va_S A s.heap H locs → tl ls 4 [(0, .inl v0), (1, .inl v1), (2, .inl v2)] → w_X3_ruled K post v0 v1 v2 G → W p l e ({ frames := 2, cells := 0, slots := 0, locals := 41 } : Room) s m args below meth c H locs 0 0 (MQ below (tc_Qc D A (retI post)) args s 0 0 A) (F0 m 0 ls []) := by
  intro G H locs ls hW hS hl hw
  unfold w_X3_ruled at hw
  refine tr_iload_n (k := 1) (x := v1) C hl 1 rfl dX3_ruled_0 ?_
  refine lv_sipush (v := (-1000 : Int32)) C.1.1 C.1.2.1 dX3_ruled_1 (by decide) ?_
  refine lv_icmp_ne (tgt := 11) C.1.1 C.1.2.1 dX3_ruled_4 (by decide) (fun hc => ?_) (fun hc => ?_)
  · have hw := hw.1 hc
    refine tr_iload_n (k := 1) (x := v1) C hl 1 rfl dX3_ruled_11 ?_
    exact s_X3_ruled_12 C hr hll post v0 v2 v1 _ _ _ _ hW hS (tl_sub hl [0, 2] rfl) hw
  · have hw := hw.2 hc
    refine lv_iconst (v := (0 : Int32)) C.1.1 C.1.2.1 dX3_ruled_7 (by decide) ?_
    refine lv_goto (tgt := 12) C.1.1 C.1.2.1 dX3_ruled_8 (by decide) ?_
    exact s_X3_ruled_12 C hr hll post v0 v2 ((0 : Int32)) _ _ _ _ hW hS (tl_sub hl [0, 2] rfl) hw
end Z_X3_ruled
set_option maxHeartbeats 4000000 in
set_option maxRecDepth 100000 in
theorem c_X3_ruled (l : Launch) (hll : l.stackTraces = false) (K : tK) (post : Int32 → tG → Prop) (v0 : Int32) (v1 : Int32) (v2 : Int32) : Ct l yX3_ruled wz_X3_ruled ({ frames := 2, cells := 0, slots := 0, locals := 41 } : Room) 0 0 [.int v0, .int v1, .int v2] K (retI post) (fun G => w_X3_ruled K post v0 v1 v2 G) := by
  refine tc_of (cc := cX3_ruled) (maxL := 4) (ret := (some .int)) (own := RX3) (plainFor_of_name (by decide)) rfl rfl hll [.inl v0, .inl v1, .inl v2] rfl (Nat.le_of_ble_eq_true rfl) ?_
  intro p e s m args below meth c D A G ls C hr hn ht hl hW hS hw
  exact s_X3_ruled C hr hll post v0 v1 v2 _ _ _ _ hW hS hl hw

/-! X3_ruledAll -/
def wz_X3_ruledAll : List Cond := Cond.code yX3_ruledAll cX3_ruledAll 7 (some .int) :: w0
section Z_X3_ruledAll
variable {p : Program} {l : Launch} {e : Env} {s : State} {m : MethodId} {args : Array Value} {below : List Frame} {meth : Method} {c : Code} {D : va_G} {A : Nat → Prop}
set_option maxHeartbeats 4000000 in
set_option maxRecDepth 100000 in
theorem s_X3_ruledAll_3_b {K : tK} (C : tc_B p l s m args meth c D K A wz_X3_ruledAll RX3 cX3_ruledAll 7) (hr : meth.sig.returnType = (some .int)) (hll : l.stackTraces = false)  (post : Int32 → tG → Prop) (k3 : Option Nat → Int32 → Int32 → Int32 → Int32 → Int32 → Int32 → tG → Prop) (hk3 : ∀ (v0 : Option Nat) (v1 : Int32) (v2 : Int32) (v3 : Int32) (v4 : Int32) (v5 : Int32) (v6 : Int32) (G : tG) (H : Heap) (locs : List Loc) (ls : Array Slot), tg_W D A s H G → va_S A s.heap H locs → tl ls 7 [(0, .inr (.inr v0)), (1, .inl v1), (2, .inl v2), (3, .inl v3), (4, .inl v4), (5, .inl v5), (6, .inl v6)] → k3 v0 v1 v2 v3 v4 v5 v6 G → W p l e ({ frames := 3, cells := 0, slots := 0, locals := 64 } : Room) s m args below meth c H locs 0 0 (MQ below (tc_Qc D A (retI post)) args s 0 0 A) (F0 m 3 ls [])) : ∀ (v0 : Option Nat) (v1 : Int32) (v2 : Int32) (v3 : Int32) (v4 : Int32) (v5 : Int32) (v6 : Int32) (G : tG) (H : Heap) (locs : List Loc) (ls : Array Slot), tg_W D A s H G → va_S A s.heap H locs → tl ls 7 [(0, .inr (.inr v0)), (1, .inl v1), (2, .inl v2), (3, .inl v3), (4, .inl v4), (5, .inl v5), (6, .inl v6)] → w_X3_ruledAll_3_b K post k3 v0 v1 v2 v3 v4 v5 v6 G → W p l e ({ frames := 3, cells := 0, slots := 0, locals := 64 } : Room) s m args below meth c H locs 0 0 (MQ below (tc_Qc D A (retI post)) args s 0 0 A) (F0 m 3 ls []) := by
  intro v0 v1 v2 v3 v4 v5 v6 G H locs ls hW hS hl hw
  unfold w_X3_ruledAll_3_b at hw
  refine tr_iload (x := v6) C hl 6 rfl dX3_ruledAll_3 ?_
  refine tr_iload_n (k := 3) (x := v3) C hl 3 rfl dX3_ruledAll_5 ?_
  refine lv_icmp_ge (tgt := 36) C.1.1 C.1.2.1 dX3_ruledAll_6 (by decide) (fun hc => ?_) (fun hc => ?_)
  · have hw := hw.1 hc
    refine tr_iload_n (k := 3) (x := v3) C hl 3 rfl dX3_ruledAll_36 ?_
    refine tr_iload_n (k := 2) (x := v2) C hl 2 rfl dX3_ruledAll_37 ?_
    refine lv_isub C.1.1 C.1.2.1 dX3_ruledAll_38 ?_
    exact tr_iret C hr dX3_ruledAll_39 (Nat.le_of_ble_eq_true rfl) (Nat.le_of_ble_eq_true rfl) hW hS hw
  · have hw := hw.2 hc
    refine tr_aload_n (k := 0) (x := v0) C hl 0 rfl dX3_ruledAll_9 ?_
    refine tr_iload_n (k := 1) (x := v1) C hl 1 rfl dX3_ruledAll_10 ?_
    refine tr_iload (x := v6) C hl 6 rfl dX3_ruledAll_11 ?_
    refine tr_iload (x := v4) C hl 4 rfl dX3_ruledAll_13 ?_
    refine tr_aload_n (k := 0) (x := v0) C hl 0 rfl dX3_ruledAll_15 ?_
    refine tr_iload_n (k := 1) (x := v1) C hl 1 rfl dX3_ruledAll_16 ?_
    refine tr_iload (x := v6) C hl 6 rfl dX3_ruledAll_17 ?_
    refine tr_backI (tr_runV (r := v0) (As := [.int v1, .int v6]) C hl.1 (c_X3_value l hll K _ v0 v1 v6) (cwV 2 C.1.2.2.2.2 (gi_V (zm kw_152) (zm kw_153) (zm kw_154) (zm kw_155) (zm kw_151)) rfl rfl rfl (by decide +kernel) ⟨(Nat.le_of_ble_eq_true rfl), (Nat.le_of_ble_eq_true rfl)⟩) rfl rfl dX3_ruledAll_19 ⟨(Nat.le_of_ble_eq_true rfl), (Nat.le_of_ble_eq_true rfl)⟩ [.inl v4, .inl v6, .inl v1, .inr (.inr v0)] rfl (Nat.le_of_ble_eq_true rfl) rfl hW hS hw) hS (fun x_19 G_19 H locs hw hW hS => ?_)
    refine tr_iload (x := v5) C hl 5 rfl dX3_ruledAll_22 ?_
    refine tr_backI (tr_runS (As := [.int v4, .int x_19, .int v5]) C hl.1 (c_X3_ruled l hll K _ v4 x_19 v5) (va_cwS 3 C.1.2.2.2.2 (gi_S (zm kw_384) (zm kw_385) (zm kw_155) (zm kw_383)) rfl rfl rfl (by decide +kernel) ⟨(Nat.le_of_ble_eq_true rfl), (Nat.le_of_ble_eq_true rfl)⟩) rfl dX3_ruledAll_24 ⟨(Nat.le_of_ble_eq_true rfl), (Nat.le_of_ble_eq_true rfl)⟩ [.inl v6, .inl v1, .inr (.inr v0)] rfl (Nat.le_of_ble_eq_true rfl) rfl hW hS hw) hS (fun x_24 G_24 H locs hw hW hS => ?_)
    refine tr_backV (tr_runV (r := v0) (As := [.int v1, .int v6, .int x_24]) C hl.1 (c_X3_write l hll K _ v0 v1 v6 x_24) (cwV 3 C.1.2.2.2.2 (gi_V (zm kw_308) (zm kw_309) (zm kw_310) (zm kw_155) (zm kw_307)) rfl rfl rfl (by decide +kernel) ⟨(Nat.le_of_ble_eq_true rfl), (Nat.le_of_ble_eq_true rfl)⟩) rfl rfl dX3_ruledAll_27 ⟨(Nat.le_of_ble_eq_true rfl), (Nat.le_of_ble_eq_true rfl)⟩ [] rfl (Nat.le_of_ble_eq_true rfl) rfl hW hS hw) hS (fun G_27 H locs hw hW hS => ?_)
    refine tr_iinc C hl 6 (v6 + (1 : Int32)) [(6, .inl (v6 + (1 : Int32))), (0, .inr (.inr v0)), (1, .inl v1), (2, .inl v2), (3, .inl v3), (4, .inl v4), (5, .inl v5)] rfl rfl (by decide) rfl dX3_ruledAll_30 (fun ls hl => ?_)
    refine lv_goto (tgt := 3) C.1.1 C.1.2.1 dX3_ruledAll_33 (by decide) ?_
    exact hk3 v0 v1 v2 v3 v4 v5 ((v6 + (1 : Int32))) _ _ _ _ hW hS (tl_sub hl [1, 2, 3, 4, 5, 6, 0] rfl) hw
set_option maxHeartbeats 4000000 in
set_option maxRecDepth 100000 in
theorem s_X3_ruledAll_3 {K : tK} (C : tc_B p l s m args meth c D K A wz_X3_ruledAll RX3 cX3_ruledAll 7) (hr : meth.sig.returnType = (some .int)) (hll : l.stackTraces = false)  (post : Int32 → tG → Prop) : ∀ (n : Nat) (v0 : Option Nat) (v1 : Int32) (v2 : Int32) (v3 : Int32) (v4 : Int32) (v5 : Int32) (v6 : Int32) (G : tG) (H : Heap) (locs : List Loc) (ls : Array Slot), tg_W D A s H G → va_S A s.heap H locs → tl ls 7 [(0, .inr (.inr v0)), (1, .inl v1), (2, .inl v2), (3, .inl v3), (4, .inl v4), (5, .inl v5), (6, .inl v6)] → w_X3_ruledAll_3 K post n v0 v1 v2 v3 v4 v5 v6 G → W p l e ({ frames := 3, cells := 0, slots := 0, locals := 64 } : Room) s m args below meth c H locs 0 0 (MQ below (tc_Qc D A (retI post)) args s 0 0 A) (F0 m 3 ls []) := by
  intro n
  induction n with
  | zero =>
    intro v0 v1 v2 v3 v4 v5 v6 G H locs ls hW hS hl hw
    exact hw.elim
  | succ n ih => exact s_X3_ruledAll_3_b C hr hll post _ ih
set_option maxHeartbeats 4000000 in
set_option maxRecDepth 100000 in
theorem s_X3_ruledAll {K : tK} (C : tc_B p l s m args meth c D K A wz_X3_ruledAll RX3 cX3_ruledAll 7) (hr : meth.sig.returnType = (some .int)) (hll : l.stackTraces = false)  (post : Int32 → tG → Prop) (v0 : Option Nat) (v1 : Int32) (v2 : Int32) (v3 : Int32) (v4 : Int32) (v5 : Int32) : ∀ (G : tG) (H : Heap) (locs : List Loc) (ls : Array Slot), tg_W D A s H G → va_S A s.heap H locs → tl ls 7 [(0, .inr (.inr v0)), (1, .inl v1), (2, .inl v2), (3, .inl v3), (4, .inl v4), (5, .inl v5)] → w_X3_ruledAll K post v0 v1 v2 v3 v4 v5 G → W p l e ({ frames := 3, cells := 0, slots := 0, locals := 64 } : Room) s m args below meth c H locs 0 0 (MQ below (tc_Qc D A (retI post)) args s 0 0 A) (F0 m 0 ls []) := by
  intro G H locs ls hW hS hl hw
  unfold w_X3_ruledAll at hw
  refine tr_iload_n (k := 2) (x := v2) C hl 2 rfl dX3_ruledAll_0 ?_
  refine tr_istore (x := v2) C hl [(6, .inl v2), (0, .inr (.inr v0)), (1, .inl v1), (2, .inl v2), (3, .inl v3), (4, .inl v4), (5, .inl v5)] (by decide) rfl dX3_ruledAll_1 (fun ls hl => ?_)
  obtain ⟨n3, hw⟩ := hw
  exact s_X3_ruledAll_3 C hr hll post n3 v0 v1 v2 v3 v4 v5 v2 _ _ _ _ hW hS (tl_sub hl [1, 2, 3, 4, 5, 6, 0] rfl) hw
end Z_X3_ruledAll
set_option maxHeartbeats 4000000 in
set_option maxRecDepth 100000 in
theorem c_X3_ruledAll (l : Launch) (hll : l.stackTraces = false) (K : tK) (post : Int32 → tG → Prop) (v0 : Option Nat) (v1 : Int32) (v2 : Int32) (v3 : Int32) (v4 : Int32) (v5 : Int32) : Ct l yX3_ruledAll wz_X3_ruledAll ({ frames := 3, cells := 0, slots := 0, locals := 64 } : Room) 0 0 [va_rf v0, .int v1, .int v2, .int v3, .int v4, .int v5] K (retI post) (fun G => w_X3_ruledAll K post v0 v1 v2 v3 v4 v5 G) := by
  refine tc_of (cc := cX3_ruledAll) (maxL := 7) (ret := (some .int)) (own := RX3) (plainFor_of_name (by decide)) rfl rfl hll [.inr (.inr v0), .inl v1, .inl v2, .inl v3, .inl v4, .inl v5] rfl (Nat.le_of_ble_eq_true rfl) ?_
  intro p e s m args below meth c D A G ls C hr hn ht hl hW hS hw
  exact s_X3_ruledAll C hr hll post v0 v1 v2 v3 v4 v5 _ _ _ _ hW hS hl hw

/-! X3_replaceAll -/
def wz_X3_replaceAll : List Cond := Cond.code yX3_replaceAll cX3_replaceAll 4 (some .int) :: w0
section Z_X3_replaceAll
variable {p : Program} {l : Launch} {e : Env} {s : State} {m : MethodId} {args : Array Value} {below : List Frame} {meth : Method} {c : Code} {D : va_G} {A : Nat → Prop}
set_option maxHeartbeats 4000000 in
set_option maxRecDepth 100000 in
theorem s_X3_replaceAll_35 {K : tK} (C : tc_B p l s m args meth c D K A wz_X3_replaceAll RX3 cX3_replaceAll 4) (hr : meth.sig.returnType = (some .int)) (hll : l.stackTraces = false)  (post : Int32 → tG → Prop) : ∀ (u0 : Int32) (G : tG) (H : Heap) (locs : List Loc) (ls : Array Slot), tg_W D A s H G → va_S A s.heap H locs → tl ls 4 [] → w_X3_replaceAll_35 K post u0 G → W p l e ({ frames := 4, cells := 0, slots := 0, locals := 90 } : Room) s m args below meth c H locs 0 0 (MQ below (tc_Qc D A (retI post)) args s 0 0 A) (F0 m 35 ls [.int u0]) := by
  intro u0 G H locs ls hW hS hl hw
  unfold w_X3_replaceAll_35 at hw
  exact tr_iret C hr dX3_replaceAll_35 (Nat.le_of_ble_eq_true rfl) (Nat.le_of_ble_eq_true rfl) hW hS hw
set_option maxHeartbeats 4000000 in
set_option maxRecDepth 100000 in
theorem s_X3_replaceAll {K : tK} (C : tc_B p l s m args meth c D K A wz_X3_replaceAll RX3 cX3_replaceAll 4) (hr : meth.sig.returnType = (some .int)) (hll : l.stackTraces = false)  (post : Int32 → tG → Prop) (v0 : Option Nat) (v1 : Int32) (v2 : Int32) (v3 : Int32) : ∀ (G : tG) (H : Heap) (locs : List Loc) (ls : Array Slot), tg_W D A s H G → va_S A s.heap H locs → tl ls 4 [(0, .inr (.inr v0)), (1, .inl v1), (2, .inl v2), (3, .inl v3)] → w_X3_replaceAll K post v0 v1 v2 v3 G → W p l e ({ frames := 4, cells := 0, slots := 0, locals := 90 } : Room) s m args below meth c H locs 0 0 (MQ below (tc_Qc D A (retI post)) args s 0 0 A) (F0 m 0 ls []) := by
  intro G H locs ls hW hS hl hw
  unfold w_X3_replaceAll at hw
  refine tr_aload_n (k := 0) (x := v0) C hl 0 rfl dX3_replaceAll_0 ?_
  refine tr_aload_n (k := 0) (x := v0) C hl 0 rfl dX3_replaceAll_1 ?_
  refine tr_iload_n (k := 1) (x := v1) C hl 1 rfl dX3_replaceAll_2 ?_
  refine tr_backI (tr_runV (r := v0) (As := [.int v1]) C hl.1 (c_X3_isNoList l hll K _ v0 v1) (cwV 1 C.1.2.2.2.2 (gi_V (zm kw_211) (zm kw_212) (zm kw_213) (zm kw_155) (zm kw_210)) rfl rfl rfl (by decide +kernel) ⟨(Nat.le_of_ble_eq_true rfl), (Nat.le_of_ble_eq_true rfl)⟩) rfl rfl dX3_replaceAll_3 ⟨(Nat.le_of_ble_eq_true rfl), (Nat.le_of_ble_eq_true rfl)⟩ [.inr (.inr v0)] rfl (Nat.le_of_ble_eq_true rfl) rfl hW hS hw) hS (fun x_3 G_3 H locs hw hW hS => ?_)
  refine tr_iload_n (k := 2) (x := v2) C hl 2 rfl dX3_replaceAll_6 ?_
  refine tr_iload_n (k := 3) (x := v3) C hl 3 rfl dX3_replaceAll_7 ?_
  refine tr_backI (tr_runS (As := [.int v2, .int v3]) C hl.1 (c_X3_isNoRule l hll K _ v2 v3) (va_cwS 2 C.1.2.2.2.2 (gi_S (zm kw_387) (zm kw_388) (zm kw_155) (zm kw_386)) rfl rfl rfl (by decide +kernel) ⟨(Nat.le_of_ble_eq_true rfl), (Nat.le_of_ble_eq_true rfl)⟩) rfl dX3_replaceAll_8 ⟨(Nat.le_of_ble_eq_true rfl), (Nat.le_of_ble_eq_true rfl)⟩ [.inl x_3, .inr (.inr v0)] rfl (Nat.le_of_ble_eq_true rfl) rfl hW hS hw) hS (fun x_8 G_8 H locs hw hW hS => ?_)
  refine tr_backI (tr_runV (r := v0) (As := [.int x_3, .int x_8]) C hl.1 (c_X3_fails l hll K _ v0 x_3 x_8) (cwV 2 C.1.2.2.2.2 (gi_V (zm kw_190) (zm kw_191) (zm kw_192) (zm kw_155) (zm kw_189)) rfl rfl rfl (by decide +kernel) ⟨(Nat.le_of_ble_eq_true rfl), (Nat.le_of_ble_eq_true rfl)⟩) rfl rfl dX3_replaceAll_11 ⟨(Nat.le_of_ble_eq_true rfl), (Nat.le_of_ble_eq_true rfl)⟩ [] rfl (Nat.le_of_ble_eq_true rfl) rfl hW hS hw) hS (fun x_11 G_11 H locs hw hW hS => ?_)
  refine lv_if_eq (tgt := 21) C.1.1 C.1.2.1 dX3_replaceAll_14 (by decide) (fun hc => ?_) (fun hc => ?_)
  · have hw := hw.1 hc
    refine tr_aload_n (k := 0) (x := v0) C hl 0 rfl dX3_replaceAll_21 ?_
    refine tr_iload_n (k := 1) (x := v1) C hl 1 rfl dX3_replaceAll_22 ?_
    refine lv_iconst (v := (0 : Int32)) C.1.1 C.1.2.1 dX3_replaceAll_23 (by decide) ?_
    refine tr_aload_n (k := 0) (x := v0) C hl 0 rfl dX3_replaceAll_24 ?_
    refine tr_gfR (C0 := RX3) (T := TX3) (N := 8) (ci := 5) (ref := "TwinrowModel") (k := 3) (r := v0) C (zh hw_X3) rfl (by decide) (zm kw_24) rfl dX3_replaceAll_25 hW hw (fun x_25 hw => ?_)
    refine tr_iload_n (k := 1) (x := v1) C hl 1 rfl dX3_replaceAll_28 ?_
    refine tr_alI (r := x_25) C dX3_replaceAll_29 hW hw (fun x_29 hw => ?_)
    refine tr_iload_n (k := 2) (x := v2) C hl 2 rfl dX3_replaceAll_30 ?_
    refine tr_iload_n (k := 3) (x := v3) C hl 3 rfl dX3_replaceAll_31 ?_
    refine tr_backI (tr_runV (r := v0) (As := [.int v1, .int ((0 : Int32)), .int x_29, .int v2, .int v3]) C hl.1 (c_X3_ruledAll l hll K _ v0 v1 ((0 : Int32)) x_29 v2 v3) (cwV 5 C.1.2.2.2.2 (gi_V (zm kw_390) (zm kw_391) (zm kw_392) (zm kw_155) (zm kw_389)) rfl rfl rfl (by decide +kernel) ⟨(Nat.le_of_ble_eq_true rfl), (Nat.le_of_ble_eq_true rfl)⟩) rfl rfl dX3_replaceAll_32 ⟨(Nat.le_of_ble_eq_true rfl), (Nat.le_of_ble_eq_true rfl)⟩ [] rfl (Nat.le_of_ble_eq_true rfl) rfl hW hS hw) hS (fun x_32 G_32 H locs hw hW hS => ?_)
    exact s_X3_replaceAll_35 C hr hll post x_32 _ _ _ _ hW hS (tl_sub hl [] rfl) hw
  · have hw := hw.2 hc
    refine lv_iconst (v := (0 : Int32)) C.1.1 C.1.2.1 dX3_replaceAll_17 (by decide) ?_
    refine lv_goto (tgt := 35) C.1.1 C.1.2.1 dX3_replaceAll_18 (by decide) ?_
    exact s_X3_replaceAll_35 C hr hll post ((0 : Int32)) _ _ _ _ hW hS (tl_sub hl [] rfl) hw
end Z_X3_replaceAll
set_option maxHeartbeats 4000000 in
set_option maxRecDepth 100000 in
theorem c_X3_replaceAll (l : Launch) (hll : l.stackTraces = false) (K : tK) (post : Int32 → tG → Prop) (v0 : Option Nat) (v1 : Int32) (v2 : Int32) (v3 : Int32) : Ct l yX3_replaceAll wz_X3_replaceAll ({ frames := 4, cells := 0, slots := 0, locals := 90 } : Room) 0 0 [va_rf v0, .int v1, .int v2, .int v3] K (retI post) (fun G => w_X3_replaceAll K post v0 v1 v2 v3 G) := by
  refine tc_of (cc := cX3_replaceAll) (maxL := 4) (ret := (some .int)) (own := RX3) (plainFor_of_name (by decide)) rfl rfl hll [.inr (.inr v0), .inl v1, .inl v2, .inl v3] rfl (Nat.le_of_ble_eq_true rfl) ?_
  intro p e s m args below meth c D A G ls C hr hn ht hl hW hS hw
  exact s_X3_replaceAll C hr hll post v0 v1 v2 v3 _ _ _ _ hW hS hl hw

/-! X1_walkSet -/
def wz_X1_walkSet : List Cond := Cond.code yX1_walkSet cX1_walkSet 7 (some .int) :: w0
section Z_X1_walkSet
variable {p : Program} {l : Launch} {e : Env} {s : State} {m : MethodId} {args : Array Value} {below : List Frame} {meth : Method} {c : Code} {D : va_G} {A : Nat → Prop}
set_option maxHeartbeats 4000000 in
set_option maxRecDepth 100000 in
theorem s_X1_walkSet {K : tK} (C : tc_B p l s m args meth c D K A wz_X1_walkSet RX1 cX1_walkSet 7) (hr : meth.sig.returnType = (some .int)) (ht : ∀ x ∈ c.exceptionTable.toList, False) (hll : l.stackTraces = false)  (post : Int32 → tG → Prop) (postX : String → tG → Prop) (v0 : Option Nat) (v1 : Int32) (v2 : Int32) (v3 : Int32) (v4 : Int32) (v5 : Int32) : ∀ (G : tG) (H : Heap) (locs : List Loc) (ls : Array Slot), tg_W D A s H G → va_S A s.heap H locs → tl ls 7 [(0, .inr (.inr v0)), (1, .inl v1), (2, .inl v2), (3, .inl v3), (4, .inl v4), (5, .inl v5)] → w_X1_walkSet K post postX v0 v1 v2 v3 v4 v5 G → W p l e ({ frames := 8, cells := 4, slots := 24, locals := 125 } : Room) s m args below meth c H locs 0 0 (vx_MQ below (tc_Qc D A (retI post)) (tc_XC D A postX) args s 4 24 A) (F0 m 0 ls []) := by
  intro G H locs ls hW hS hl hw
  unfold w_X1_walkSet at hw
  refine tr_aload_n (k := 0) (x := v0) C hl 0 rfl dX1_walkSet_0 ?_
  refine tr_iload_n (k := 1) (x := v1) C hl 1 rfl dX1_walkSet_1 ?_
  refine tx_backR (tx_runV (r := v0) (As := [.int v1]) C hl.1 (c_X1_listAt l hll K _ _ v0 v1) (cwV 1 C.1.2.2.2.2 (gi_V (zm kw_94) (zm kw_95) (zm kw_96) (zm kw_33) (zm kw_93)) rfl rfl rfl (by decide +kernel) ⟨(Nat.le_of_ble_eq_true rfl), (Nat.le_of_ble_eq_true rfl)⟩) rfl rfl dX1_walkSet_2 ⟨(Nat.le_of_ble_eq_true rfl), (Nat.le_of_ble_eq_true rfl)⟩ [] rfl (Nat.le_of_ble_eq_true rfl) rfl hW hS hw) hS C.2.1 ht (Nat.le_of_ble_eq_true rfl) (Nat.le_of_ble_eq_true rfl) (fun x_2 G_2 H locs hw hW hS => ?_)
  refine tr_astore (x := x_2) C hl [(6, .inr (.inr x_2)), (0, .inr (.inr v0)), (1, .inl v1), (2, .inl v2), (3, .inl v3), (4, .inl v4), (5, .inl v5)] (by decide) rfl dX1_walkSet_5 (fun ls hl => ?_)
  refine tr_iload_n (k := 2) (x := v2) C hl 3 rfl dX1_walkSet_7 ?_
  refine lv_iconst (v := (0 : Int32)) C.1.1 C.1.2.1 dX1_walkSet_8 (by decide) ?_
  refine tr_aload (x := x_2) C hl 0 rfl dX1_walkSet_9 ?_
  refine tr_gfI (C0 := RX0) (T := TX0) (N := 4) (ci := 2) (ref := "Twinrow$RowList") (k := 3) (r := x_2) C (zh hw_X0) rfl (by decide) (zm kw_34) rfl dX1_walkSet_11 hW hw (fun x_11 hw => ?_)
  refine tx_backV (tx_runS (As := [.int v2, .int ((0 : Int32)), .int x_11]) C hl.1 (c_X1_checkNumber l hll K _ _ v2 ((0 : Int32)) x_11) (va_cwS 3 C.1.2.2.2.2 (gi_S (zm kw_89) (zm kw_90) (zm kw_33) (zm kw_88)) rfl rfl rfl (by decide +kernel) ⟨(Nat.le_of_ble_eq_true rfl), (Nat.le_of_ble_eq_true rfl)⟩) rfl dX1_walkSet_14 ⟨(Nat.le_of_ble_eq_true rfl), (Nat.le_of_ble_eq_true rfl)⟩ [] rfl (Nat.le_of_ble_eq_true rfl) rfl hW hS hw) hS C.2.1 ht (Nat.le_of_ble_eq_true rfl) (Nat.le_of_ble_eq_true rfl) (fun G_14 H locs hw hW hS => ?_)
  refine tr_iload_n (k := 3) (x := v3) C hl 4 rfl dX1_walkSet_17 ?_
  refine tr_iload (x := v4) C hl 5 rfl dX1_walkSet_18 ?_
  refine tx_backV (tx_runS (As := [.int v3, .int v4]) C hl.1 (c_X1_checkRule l hll K _ _ v3 v4) (va_cwS 2 C.1.2.2.2.2 (gi_S (zm kw_369) (zm kw_370) (zm kw_33) (zm kw_368)) rfl rfl rfl (by decide +kernel) ⟨(Nat.le_of_ble_eq_true rfl), (Nat.le_of_ble_eq_true rfl)⟩) rfl dX1_walkSet_20 ⟨(Nat.le_of_ble_eq_true rfl), (Nat.le_of_ble_eq_true rfl)⟩ [] rfl (Nat.le_of_ble_eq_true rfl) rfl hW hS hw) hS C.2.1 ht (Nat.le_of_ble_eq_true rfl) (Nat.le_of_ble_eq_true rfl) (fun G_20 H locs hw hW hS => ?_)
  refine tr_aload (x := x_2) C hl 0 rfl dX1_walkSet_23 ?_
  refine tr_iload_n (k := 2) (x := v2) C hl 3 rfl dX1_walkSet_25 ?_
  refine tr_iload_n (k := 3) (x := v3) C hl 4 rfl dX1_walkSet_26 ?_
  refine tr_iload (x := v4) C hl 5 rfl dX1_walkSet_27 ?_
  refine tr_iload (x := v5) C hl 6 rfl dX1_walkSet_29 ?_
  refine tr_backI (tr_runS (As := [va_rf x_2, .int v2, .int v3, .int v4, .int v5]) C hl.1 (c_X1_writeRuled l hll K _ x_2 v2 v3 v4 v5) (va_cwS 5 C.1.2.2.2.2 (gi_S (zm kw_372) (zm kw_373) (zm kw_33) (zm kw_371)) rfl rfl rfl (by decide +kernel) ⟨(Nat.le_of_ble_eq_true rfl), (Nat.le_of_ble_eq_true rfl)⟩) rfl dX1_walkSet_31 ⟨(Nat.le_of_ble_eq_true rfl), (Nat.le_of_ble_eq_true rfl)⟩ [] rfl (Nat.le_of_ble_eq_true rfl) rfl hW hS hw) hS (fun x_31 G_31 H locs hw hW hS => ?_)
  exact vx_ret (tr_iret C hr dX1_walkSet_34 (Nat.le_of_ble_eq_true rfl) (Nat.le_of_ble_eq_true rfl) hW hS hw)
end Z_X1_walkSet
set_option maxHeartbeats 4000000 in
set_option maxRecDepth 100000 in
theorem c_X1_walkSet (l : Launch) (hll : l.stackTraces = false) (K : tK) (post : Int32 → tG → Prop) (postX : String → tG → Prop) (v0 : Option Nat) (v1 : Int32) (v2 : Int32) (v3 : Int32) (v4 : Int32) (v5 : Int32) : Cx l yX1_walkSet wz_X1_walkSet ({ frames := 8, cells := 4, slots := 24, locals := 125 } : Room) 4 24 [va_rf v0, .int v1, .int v2, .int v3, .int v4, .int v5] K (retI post) postX (fun G => w_X1_walkSet K post postX v0 v1 v2 v3 v4 v5 G) := by
  refine tx_of (cc := cX1_walkSet) (maxL := 7) (ret := (some .int)) (own := RX1) (by decide) rfl rfl hll [.inr (.inr v0), .inl v1, .inl v2, .inl v3, .inl v4, .inl v5] rfl (Nat.le_of_ble_eq_true rfl) ?_
  intro p e s m args below meth c D A G ls C hr hn ht hl hW hS hw
  exact s_X1_walkSet C hr ht hll post postX v0 v1 v2 v3 v4 v5 _ _ _ _ hW hS hl hw

/-! L_walkSet -/
def wz_L_walkSet : List Cond := Cond.codeWith yL_walkSet cL_walkSet 8 (some .int) [(0, 17, 20, 19), (0, 17, 24, 21)] :: w0
section Z_L_walkSet
variable {p : Program} {l : Launch} {e : Env} {s : State} {m : MethodId} {args : Array Value} {below : List Frame} {meth : Method} {c : Code} {D : va_G} {A : Nat → Prop}
set_option maxHeartbeats 4000000 in
set_option maxRecDepth 100000 in
theorem s_L_walkSet {K : tK} (C : tc_B p l s m args meth c D K A wz_L_walkSet RL cL_walkSet 8) (hr : meth.sig.returnType = (some .int)) (htab : c.exceptionTable.toList = tableOf [(0, 17, 20, 19), (0, 17, 24, 21)]) (hcC : kx_C s) (hll : l.stackTraces = false)  (post : Int32 → tG → Prop) (v0 : Option Nat) (v1 : Int32) (v2 : Int32) (v3 : Int32) (v4 : Int32) (v5 : Int32) (v6 : Option Nat) : ∀ (G : tG) (H : Heap) (locs : List Loc) (ls : Array Slot), tg_W D A s H G → va_S A s.heap H locs → tl ls 8 [(0, .inr (.inr v0)), (1, .inl v1), (2, .inl v2), (3, .inl v3), (4, .inl v4), (5, .inl v5), (6, .inr (.inr v6))] → w_L_walkSet K post v0 v1 v2 v3 v4 v5 v6 G → W p l e ({ frames := 9, cells := 4, slots := 24, locals := 151 } : Room) s m args below meth c H locs 0 0 (vx_MQ below (tc_Qc D A (retI post)) (tc_XC D A (fun _ _ => False)) args s 4 24 A) (F0 m 0 ls []) := by
  intro G H locs ls hW hS hl hw
  unfold w_L_walkSet at hw
  refine tr_aload (x := v6) C hl 6 rfl dL_walkSet_0 ?_
  refine tr_aload_n (k := 0) (x := v0) C hl 0 rfl dL_walkSet_2 ?_
  refine tr_iload_n (k := 1) (x := v1) C hl 1 rfl dL_walkSet_3 ?_
  refine tr_iload_n (k := 2) (x := v2) C hl 2 rfl dL_walkSet_4 ?_
  refine tr_iload_n (k := 3) (x := v3) C hl 3 rfl dL_walkSet_5 ?_
  refine tr_iload (x := v4) C hl 4 rfl dL_walkSet_6 ?_
  refine tr_iload (x := v5) C hl 5 rfl dL_walkSet_8 ?_
  refine tx_backCI (tx_runV (r := v0) (As := [.int v1, .int v2, .int v3, .int v4, .int v5]) C hl.1 (c_X1_walkSet l hll K _ _ v0 v1 v2 v3 v4 v5) (cwV 5 C.1.2.2.2.2 (gi_V (zm kw_394) (zm kw_395) (zm kw_396) (zm kw_33) (zm kw_393)) rfl rfl rfl (by decide +kernel) ⟨(Nat.le_of_ble_eq_true rfl), (Nat.le_of_ble_eq_true rfl)⟩) rfl rfl dL_walkSet_10 ⟨(Nat.le_of_ble_eq_true rfl), (Nat.le_of_ble_eq_true rfl)⟩ [.inr (.inr v6)] rfl (Nat.le_of_ble_eq_true rfl) rfl hW hS hw) hS (fun E ce q9 GX H locs hw hW hS hce hcv hcl => ?_) (fun x_10 G_10 H locs hw hW hS => ?_)
  · by_cases hq0 : E = "java/lang/IndexOutOfBoundsException"
    · replace hw := hw.1 hq0
      subst hq0
      refine vx_catch (name := "java/lang/IndexOutOfBoundsException") C.1.2.2.2.1 [] (⟨0, 17, 20, 19⟩ : ExceptionTableEntry) [(⟨0, 17, 24, 21⟩ : ExceptionTableEntry)] (by rw [htab]; rfl) (fun z hz => nomatch hz) (by decide) (by decide) (C.1.2.2.2.2 _ (zm kw_209)) hcC.2.2.1 hce hcv hcl ?_
      refine tr_astore (x := (some q9)) C hl [(7, .inr (.inr (some q9))), (0, .inr (.inr v0)), (1, .inl v1), (2, .inl v2), (3, .inl v3), (4, .inl v4), (5, .inl v5), (6, .inr (.inr v6))] (by decide) rfl dL_walkSet_20 (fun ls hl => ?_)
      refine lv_iconst (v := (1 : Int32)) C.1.1 C.1.2.1 dL_walkSet_22 (by decide) ?_
      exact vx_ret (tr_iret C hr dL_walkSet_23 (Nat.le_of_ble_eq_true rfl) (Nat.le_of_ble_eq_true rfl) hW hS hw)
    replace hw := hw.2 hq0
    by_cases hq1 : E = "java/lang/IllegalArgumentException"
    · replace hw := hw.1 hq1
      subst hq1
      refine vx_catch (name := "java/lang/IllegalArgumentException") C.1.2.2.2.1 [(⟨0, 17, 20, 19⟩ : ExceptionTableEntry)] (⟨0, 17, 24, 21⟩ : ExceptionTableEntry) [] (by rw [htab]; rfl) (kx_pass1 C hcC rfl (by decide) (zm kw_209)) (by decide) (by decide) (C.1.2.2.2.2 _ (zm kw_188)) hcC.2.2.2.1 hce hcv hcl ?_
      refine tr_astore (x := (some q9)) C hl [(7, .inr (.inr (some q9))), (0, .inr (.inr v0)), (1, .inl v1), (2, .inl v2), (3, .inl v3), (4, .inl v4), (5, .inl v5), (6, .inr (.inr v6))] (by decide) rfl dL_walkSet_24 (fun ls hl => ?_)
      refine lv_iconst (v := (2 : Int32)) C.1.1 C.1.2.1 dL_walkSet_26 (by decide) ?_
      exact vx_ret (tr_iret C hr dL_walkSet_27 (Nat.le_of_ble_eq_true rfl) (Nat.le_of_ble_eq_true rfl) hW hS hw)
    replace hw := hw.2 hq1
    exact hw.elim
  · refine lv_i2l (v := ((x_10).toInt64)) C.1.1 C.1.2.1 dL_walkSet_13 rfl ?_
    refine tr_pfN (C0 := RX2) (T := TX2) (N := 2) (ci := 4) (ref := "TwinrowLaw$Out") (host := "TwinrowLaw") (k := 0) (ty := .long) (v := .long (((x_10).toInt64))) (r := v6) C (zh hw_X2) tyX2 tyX2_ok nmX2 rfl (by decide) hcC.1 rfl rfl (by decide +kernel) rfl rfl dL_walkSet_14 hW hS hw (fun G_14 H locs hw hW hS => ?_)
    refine lv_goto (tgt := 28) C.1.1 C.1.2.1 dL_walkSet_17 (by decide) ?_
    refine lv_iconst (v := (0 : Int32)) C.1.1 C.1.2.1 dL_walkSet_28 (by decide) ?_
    exact vx_ret (tr_iret C hr dL_walkSet_29 (Nat.le_of_ble_eq_true rfl) (Nat.le_of_ble_eq_true rfl) hW hS hw)
end Z_L_walkSet
set_option maxHeartbeats 4000000 in
set_option maxRecDepth 100000 in
theorem c_L_walkSet (l : Launch) (hll : l.stackTraces = false) (K : tK) (post : Int32 → tG → Prop) (v0 : Option Nat) (v1 : Int32) (v2 : Int32) (v3 : Int32) (v4 : Int32) (v5 : Int32) (v6 : Option Nat) : Cx l yL_walkSet wz_L_walkSet ({ frames := 9, cells := 4, slots := 24, locals := 151 } : Room) 4 24 [va_rf v0, .int v1, .int v2, .int v3, .int v4, .int v5, va_rf v6] K (retI post) (fun _ _ => False) (fun G => w_L_walkSet K post v0 v1 v2 v3 v4 v5 v6 G) := by
  refine tx_ofH (cc := cL_walkSet) (maxL := 8) (ret := (some .int)) (own := RL) (hh := [(0, 17, 20, 19), (0, 17, 24, 21)]) (by decide) rfl rfl hll [.inr (.inr v0), .inl v1, .inl v2, .inl v3, .inl v4, .inl v5, .inr (.inr v6)] rfl (Nat.le_of_ble_eq_true rfl) ?_
  intro p e s m args below meth c D A G ls C hr htab hcC hl hW hS hw
  exact s_L_walkSet C hr htab hcC hll post v0 v1 v2 v3 v4 v5 v6 _ _ _ _ hW hS hl hw

/-! X3_walkSet -/
def wz_X3_walkSet : List Cond := Cond.code yX3_walkSet cX3_walkSet 6 (some .int) :: w0
section Z_X3_walkSet
variable {p : Program} {l : Launch} {e : Env} {s : State} {m : MethodId} {args : Array Value} {below : List Frame} {meth : Method} {c : Code} {D : va_G} {A : Nat → Prop}
set_option maxHeartbeats 4000000 in
set_option maxRecDepth 100000 in
theorem s_X3_walkSet_64 {K : tK} (C : tc_B p l s m args meth c D K A wz_X3_walkSet RX3 cX3_walkSet 6) (hr : meth.sig.returnType = (some .int)) (hll : l.stackTraces = false)  (post : Int32 → tG → Prop) : ∀ (v3 : Int32) (v4 : Int32) (u0 : Option Nat) (u1 : Int32) (u2 : Int32) (u3 : Int32) (G : tG) (H : Heap) (locs : List Loc) (ls : Array Slot), tg_W D A s H G → va_S A s.heap H locs → tl ls 6 [(3, .inl v3), (4, .inl v4)] → w_X3_walkSet_64 K post v3 v4 u0 u1 u2 u3 G → W p l e ({ frames := 4, cells := 0, slots := 0, locals := 90 } : Room) s m args below meth c H locs 0 0 (MQ below (tc_Qc D A (retI post)) args s 0 0 A) (F0 m 64 ls [.int u3, .int u2, .int u1, va_rf u0]) := by
  intro v3 v4 u0 u1 u2 u3 G H locs ls hW hS hl hw
  unfold w_X3_walkSet_64 at hw
  refine tr_iload_n (k := 3) (x := v3) C hl 0 rfl dX3_walkSet_64 ?_
  refine tr_iload (x := v4) C hl 1 rfl dX3_walkSet_65 ?_
  refine tr_backI (tr_runV (r := u0) (As := [.int u1, .int u2, .int u3, .int v3, .int v4]) C hl.1 (c_X3_ruledAll l hll K _ u0 u1 u2 u3 v3 v4) (cwV 5 C.1.2.2.2.2 (gi_V (zm kw_390) (zm kw_391) (zm kw_392) (zm kw_155) (zm kw_389)) rfl rfl rfl (by decide +kernel) ⟨(Nat.le_of_ble_eq_true rfl), (Nat.le_of_ble_eq_true rfl)⟩) rfl rfl dX3_walkSet_67 ⟨(Nat.le_of_ble_eq_true rfl), (Nat.le_of_ble_eq_true rfl)⟩ [] rfl (Nat.le_of_ble_eq_true rfl) rfl hW hS hw) hS (fun x_67 G_67 H locs hw hW hS => ?_)
  exact tr_iret C hr dX3_walkSet_70 (Nat.le_of_ble_eq_true rfl) (Nat.le_of_ble_eq_true rfl) hW hS hw
set_option maxHeartbeats 4000000 in
set_option maxRecDepth 100000 in
theorem s_X3_walkSet_49 {K : tK} (C : tc_B p l s m args meth c D K A wz_X3_walkSet RX3 cX3_walkSet 6) (hr : meth.sig.returnType = (some .int)) (hll : l.stackTraces = false)  (post : Int32 → tG → Prop) : ∀ (v0 : Option Nat) (v1 : Int32) (v2 : Int32) (v3 : Int32) (v4 : Int32) (v5 : Int32) (u0 : Option Nat) (u1 : Int32) (u2 : Int32) (G : tG) (H : Heap) (locs : List Loc) (ls : Array Slot), tg_W D A s H G → va_S A s.heap H locs → tl ls 6 [(0, .inr (.inr v0)), (1, .inl v1), (2, .inl v2), (3, .inl v3), (4, .inl v4), (5, .inl v5)] → w_X3_walkSet_49 K post v0 v1 v2 v3 v4 v5 u0 u1 u2 G → W p l e ({ frames := 4, cells := 0, slots := 0, locals := 90 } : Room) s m args below meth c H locs 0 0 (MQ below (tc_Qc D A (retI post)) args s 0 0 A) (F0 m 49 ls [.int u2, .int u1, va_rf u0]) := by
  intro v0 v1 v2 v3 v4 v5 u0 u1 u2 G H locs ls hW hS hl hw
  unfold w_X3_walkSet_49 at hw
  refine tr_iload (x := v5) C hl 5 rfl dX3_walkSet_49 ?_
  refine lv_if_eq (tgt := 58) C.1.1 C.1.2.1 dX3_walkSet_51 (by decide) (fun hc => ?_) (fun hc => ?_)
  · have hw := hw.1 hc
    refine tr_aload_n (k := 0) (x := v0) C hl 0 rfl dX3_walkSet_58 ?_
    refine tr_gfR (C0 := RX3) (T := TX3) (N := 8) (ci := 5) (ref := "TwinrowModel") (k := 3) (r := v0) C (zh hw_X3) rfl (by decide) (zm kw_24) rfl dX3_walkSet_59 hW hw (fun x_59 hw => ?_)
    refine tr_iload_n (k := 1) (x := v1) C hl 1 rfl dX3_walkSet_62 ?_
    refine tr_alI (r := x_59) C dX3_walkSet_63 hW hw (fun x_63 hw => ?_)
    exact s_X3_walkSet_64 C hr hll post v3 v4 u0 u1 u2 x_63 _ _ _ _ hW hS (tl_sub hl [3, 4] rfl) hw
  · have hw := hw.2 hc
    refine tr_iload_n (k := 2) (x := v2) C hl 2 rfl dX3_walkSet_54 ?_
    refine lv_goto (tgt := 64) C.1.1 C.1.2.1 dX3_walkSet_55 (by decide) ?_
    exact s_X3_walkSet_64 C hr hll post v3 v4 u0 u1 u2 v2 _ _ _ _ hW hS (tl_sub hl [3, 4] rfl) hw
set_option maxHeartbeats 4000000 in
set_option maxRecDepth 100000 in
theorem s_X3_walkSet_29 {K : tK} (C : tc_B p l s m args meth c D K A wz_X3_walkSet RX3 cX3_walkSet 6) (hr : meth.sig.returnType = (some .int)) (hll : l.stackTraces = false)  (post : Int32 → tG → Prop) : ∀ (v0 : Option Nat) (v1 : Int32) (v2 : Int32) (v3 : Int32) (v4 : Int32) (v5 : Int32) (u0 : Option Nat) (u1 : Int32) (u2 : Int32) (G : tG) (H : Heap) (locs : List Loc) (ls : Array Slot), tg_W D A s H G → va_S A s.heap H locs → tl ls 6 [(0, .inr (.inr v0)), (1, .inl v1), (2, .inl v2), (3, .inl v3), (4, .inl v4), (5, .inl v5)] → w_X3_walkSet_29 K post v0 v1 v2 v3 v4 v5 u0 u1 u2 G → W p l e ({ frames := 4, cells := 0, slots := 0, locals := 90 } : Room) s m args below meth c H locs 0 0 (MQ below (tc_Qc D A (retI post)) args s 0 0 A) (F0 m 29 ls [.int u2, .int u1, va_rf u0]) := by
  intro v0 v1 v2 v3 v4 v5 u0 u1 u2 G H locs ls hW hS hl hw
  unfold w_X3_walkSet_29 at hw
  refine tr_backI (tr_runV (r := u0) (As := [.int u1, .int u2]) C hl.1 (c_X3_fails l hll K _ u0 u1 u2) (cwV 2 C.1.2.2.2.2 (gi_V (zm kw_190) (zm kw_191) (zm kw_192) (zm kw_155) (zm kw_189)) rfl rfl rfl (by decide +kernel) ⟨(Nat.le_of_ble_eq_true rfl), (Nat.le_of_ble_eq_true rfl)⟩) rfl rfl dX3_walkSet_29 ⟨(Nat.le_of_ble_eq_true rfl), (Nat.le_of_ble_eq_true rfl)⟩ [] rfl (Nat.le_of_ble_eq_true rfl) rfl hW hS hw) hS (fun x_29 G_29 H locs hw hW hS => ?_)
  refine lv_if_eq (tgt := 37) C.1.1 C.1.2.1 dX3_walkSet_32 (by decide) (fun hc => ?_) (fun hc => ?_)
  · have hw := hw.1 hc
    refine tr_aload_n (k := 0) (x := v0) C hl 0 rfl dX3_walkSet_37 ?_
    refine tr_iload_n (k := 1) (x := v1) C hl 1 rfl dX3_walkSet_38 ?_
    refine tr_iload (x := v5) C hl 5 rfl dX3_walkSet_39 ?_
    refine lv_if_eq (tgt := 48) C.1.1 C.1.2.1 dX3_walkSet_41 (by decide) (fun hc => ?_) (fun hc => ?_)
    · have hw := hw.1 hc
      refine tr_iload_n (k := 2) (x := v2) C hl 2 rfl dX3_walkSet_48 ?_
      exact s_X3_walkSet_49 C hr hll post v0 v1 v2 v3 v4 v5 v0 v1 v2 _ _ _ _ hW hS (tl_sub hl [0, 1, 2, 3, 4, 5] rfl) hw
    · have hw := hw.2 hc
      refine lv_iconst (v := (0 : Int32)) C.1.1 C.1.2.1 dX3_walkSet_44 (by decide) ?_
      refine lv_goto (tgt := 49) C.1.1 C.1.2.1 dX3_walkSet_45 (by decide) ?_
      exact s_X3_walkSet_49 C hr hll post v0 v1 v2 v3 v4 v5 v0 v1 ((0 : Int32)) _ _ _ _ hW hS (tl_sub hl [0, 1, 2, 3, 4, 5] rfl) hw
  · have hw := hw.2 hc
    refine lv_iconst (v := (0 : Int32)) C.1.1 C.1.2.1 dX3_walkSet_35 (by decide) ?_
    exact tr_iret C hr dX3_walkSet_36 (Nat.le_of_ble_eq_true rfl) (Nat.le_of_ble_eq_true rfl) hW hS hw
set_option maxHeartbeats 4000000 in
set_option maxRecDepth 100000 in
theorem s_X3_walkSet_24 {K : tK} (C : tc_B p l s m args meth c D K A wz_X3_walkSet RX3 cX3_walkSet 6) (hr : meth.sig.returnType = (some .int)) (hll : l.stackTraces = false)  (post : Int32 → tG → Prop) : ∀ (v0 : Option Nat) (v1 : Int32) (v2 : Int32) (v3 : Int32) (v4 : Int32) (v5 : Int32) (u0 : Option Nat) (u1 : Int32) (G : tG) (H : Heap) (locs : List Loc) (ls : Array Slot), tg_W D A s H G → va_S A s.heap H locs → tl ls 6 [(0, .inr (.inr v0)), (1, .inl v1), (2, .inl v2), (3, .inl v3), (4, .inl v4), (5, .inl v5)] → w_X3_walkSet_24 K post v0 v1 v2 v3 v4 v5 u0 u1 G → W p l e ({ frames := 4, cells := 0, slots := 0, locals := 90 } : Room) s m args below meth c H locs 0 0 (MQ below (tc_Qc D A (retI post)) args s 0 0 A) (F0 m 24 ls [.int u1, va_rf u0]) := by
  intro v0 v1 v2 v3 v4 v5 u0 u1 G H locs ls hW hS hl hw
  unfold w_X3_walkSet_24 at hw
  refine lv_iconst (v := (1 : Int32)) C.1.1 C.1.2.1 dX3_walkSet_24 (by decide) ?_
  refine lv_goto (tgt := 29) C.1.1 C.1.2.1 dX3_walkSet_25 (by decide) ?_
  exact s_X3_walkSet_29 C hr hll post v0 v1 v2 v3 v4 v5 u0 u1 ((1 : Int32)) _ _ _ _ hW hS (tl_sub hl [0, 1, 2, 3, 4, 5] rfl) hw
set_option maxHeartbeats 4000000 in
set_option maxRecDepth 100000 in
theorem s_X3_walkSet {K : tK} (C : tc_B p l s m args meth c D K A wz_X3_walkSet RX3 cX3_walkSet 6) (hr : meth.sig.returnType = (some .int)) (hll : l.stackTraces = false)  (post : Int32 → tG → Prop) (v0 : Option Nat) (v1 : Int32) (v2 : Int32) (v3 : Int32) (v4 : Int32) (v5 : Int32) : ∀ (G : tG) (H : Heap) (locs : List Loc) (ls : Array Slot), tg_W D A s H G → va_S A s.heap H locs → tl ls 6 [(0, .inr (.inr v0)), (1, .inl v1), (2, .inl v2), (3, .inl v3), (4, .inl v4), (5, .inl v5)] → w_X3_walkSet K post v0 v1 v2 v3 v4 v5 G → W p l e ({ frames := 4, cells := 0, slots := 0, locals := 90 } : Room) s m args below meth c H locs 0 0 (MQ below (tc_Qc D A (retI post)) args s 0 0 A) (F0 m 0 ls []) := by
  intro G H locs ls hW hS hl hw
  unfold w_X3_walkSet at hw
  refine tr_aload_n (k := 0) (x := v0) C hl 0 rfl dX3_walkSet_0 ?_
  refine tr_aload_n (k := 0) (x := v0) C hl 0 rfl dX3_walkSet_1 ?_
  refine tr_iload_n (k := 1) (x := v1) C hl 1 rfl dX3_walkSet_2 ?_
  refine tr_backI (tr_runV (r := v0) (As := [.int v1]) C hl.1 (c_X3_isNoList l hll K _ v0 v1) (cwV 1 C.1.2.2.2.2 (gi_V (zm kw_211) (zm kw_212) (zm kw_213) (zm kw_155) (zm kw_210)) rfl rfl rfl (by decide +kernel) ⟨(Nat.le_of_ble_eq_true rfl), (Nat.le_of_ble_eq_true rfl)⟩) rfl rfl dX3_walkSet_3 ⟨(Nat.le_of_ble_eq_true rfl), (Nat.le_of_ble_eq_true rfl)⟩ [.inr (.inr v0)] rfl (Nat.le_of_ble_eq_true rfl) rfl hW hS hw) hS (fun x_3 G_3 H locs hw hW hS => ?_)
  refine tr_aload_n (k := 0) (x := v0) C hl 0 rfl dX3_walkSet_6 ?_
  refine tr_iload_n (k := 1) (x := v1) C hl 1 rfl dX3_walkSet_7 ?_
  refine tr_iload_n (k := 2) (x := v2) C hl 2 rfl dX3_walkSet_8 ?_
  refine tr_backI (tr_runV (r := v0) (As := [.int v1, .int v2]) C hl.1 (c_X3_isBeyond l hll K _ v0 v1 v2) (cwV 2 C.1.2.2.2.2 (gi_V (zm kw_291) (zm kw_292) (zm kw_293) (zm kw_155) (zm kw_290)) rfl rfl rfl (by decide +kernel) ⟨(Nat.le_of_ble_eq_true rfl), (Nat.le_of_ble_eq_true rfl)⟩) rfl rfl dX3_walkSet_9 ⟨(Nat.le_of_ble_eq_true rfl), (Nat.le_of_ble_eq_true rfl)⟩ [.inl x_3, .inr (.inr v0)] rfl (Nat.le_of_ble_eq_true rfl) rfl hW hS hw) hS (fun x_9 G_9 H locs hw hW hS => ?_)
  refine lv_if_ne (tgt := 24) C.1.1 C.1.2.1 dX3_walkSet_12 (by decide) (fun hc => ?_) (fun hc => ?_)
  · have hw := hw.1 hc
    exact s_X3_walkSet_24 C hr hll post v0 v1 v2 v3 v4 v5 v0 x_3 _ _ _ _ hW hS (tl_sub hl [0, 1, 2, 3, 4, 5] rfl) hw
  · have hw := hw.2 hc
    refine tr_iload_n (k := 3) (x := v3) C hl 3 rfl dX3_walkSet_15 ?_
    refine tr_iload (x := v4) C hl 4 rfl dX3_walkSet_16 ?_
    refine tr_backI (tr_runS (As := [.int v3, .int v4]) C hl.1 (c_X3_isNoRule l hll K _ v3 v4) (va_cwS 2 C.1.2.2.2.2 (gi_S (zm kw_387) (zm kw_388) (zm kw_155) (zm kw_386)) rfl rfl rfl (by decide +kernel) ⟨(Nat.le_of_ble_eq_true rfl), (Nat.le_of_ble_eq_true rfl)⟩) rfl dX3_walkSet_18 ⟨(Nat.le_of_ble_eq_true rfl), (Nat.le_of_ble_eq_true rfl)⟩ [.inl x_3, .inr (.inr v0)] rfl (Nat.le_of_ble_eq_true rfl) rfl hW hS hw) hS (fun x_18 G_18 H locs hw hW hS => ?_)
    refine lv_if_eq (tgt := 28) C.1.1 C.1.2.1 dX3_walkSet_21 (by decide) (fun hc => ?_) (fun hc => ?_)
    · have hw := hw.1 hc
      refine lv_iconst (v := (0 : Int32)) C.1.1 C.1.2.1 dX3_walkSet_28 (by decide) ?_
      exact s_X3_walkSet_29 C hr hll post v0 v1 v2 v3 v4 v5 v0 x_3 ((0 : Int32)) _ _ _ _ hW hS (tl_sub hl [0, 1, 2, 3, 4, 5] rfl) hw
    · have hw := hw.2 hc
      exact s_X3_walkSet_24 C hr hll post v0 v1 v2 v3 v4 v5 v0 x_3 _ _ _ _ hW hS (tl_sub hl [0, 1, 2, 3, 4, 5] rfl) hw
end Z_X3_walkSet
set_option maxHeartbeats 4000000 in
set_option maxRecDepth 100000 in
theorem c_X3_walkSet (l : Launch) (hll : l.stackTraces = false) (K : tK) (post : Int32 → tG → Prop) (v0 : Option Nat) (v1 : Int32) (v2 : Int32) (v3 : Int32) (v4 : Int32) (v5 : Int32) : Ct l yX3_walkSet wz_X3_walkSet ({ frames := 4, cells := 0, slots := 0, locals := 90 } : Room) 0 0 [va_rf v0, .int v1, .int v2, .int v3, .int v4, .int v5] K (retI post) (fun G => w_X3_walkSet K post v0 v1 v2 v3 v4 v5 G) := by
  refine tc_of (cc := cX3_walkSet) (maxL := 6) (ret := (some .int)) (own := RX3) (plainFor_of_name (by decide)) rfl rfl hll [.inr (.inr v0), .inl v1, .inl v2, .inl v3, .inl v4, .inl v5] rfl (Nat.le_of_ble_eq_true rfl) ?_
  intro p e s m args below meth c D A G ls C hr hn ht hl hW hS hw
  exact s_X3_walkSet C hr hll post v0 v1 v2 v3 v4 v5 _ _ _ _ hW hS hl hw

/-! L_sum -/
def wz_L_sum : List Cond := Cond.codeWith yL_sum cL_sum 4 (some .int) [(0, 10, 13, 19)] :: w0
section Z_L_sum
variable {p : Program} {l : Launch} {e : Env} {s : State} {m : MethodId} {args : Array Value} {below : List Frame} {meth : Method} {c : Code} {D : va_G} {A : Nat → Prop}
set_option maxHeartbeats 4000000 in
set_option maxRecDepth 100000 in
theorem s_L_sum {K : tK} (C : tc_B p l s m args meth c D K A wz_L_sum RL cL_sum 4) (hr : meth.sig.returnType = (some .int)) (htab : c.exceptionTable.toList = tableOf [(0, 10, 13, 19)]) (hcC : kx_C s) (hll : l.stackTraces = false)  (post : Int32 → tG → Prop) (v0 : Option Nat) (v1 : Int32) (v2 : Option Nat) : ∀ (G : tG) (H : Heap) (locs : List Loc) (ls : Array Slot), tg_W D A s H G → va_S A s.heap H locs → tl ls 4 [(0, .inr (.inr v0)), (1, .inl v1), (2, .inr (.inr v2))] → w_L_sum K post v0 v1 v2 G → W p l e ({ frames := 8, cells := 1, slots := 6, locals := 128 } : Room) s m args below meth c H locs 0 0 (vx_MQ below (tc_Qc D A (retI post)) (tc_XC D A (fun _ _ => False)) args s 1 6 A) (F0 m 0 ls []) := by
  intro G H locs ls hW hS hl hw
  unfold w_L_sum at hw
  refine tr_aload_n (k := 2) (x := v2) C hl 2 rfl dL_sum_0 ?_
  refine tr_aload_n (k := 0) (x := v0) C hl 0 rfl dL_sum_1 ?_
  refine tr_iload_n (k := 1) (x := v1) C hl 1 rfl dL_sum_2 ?_
  refine tx_backCI (tx_runV (r := v0) (As := [.int v1]) C hl.1 (c_X1_sum l hll K _ _ v0 v1) (cwV 1 C.1.2.2.2.2 (gi_V (zm kw_397) (zm kw_118) (zm kw_119) (zm kw_33) (zm kw_116)) rfl rfl rfl (by decide +kernel) ⟨(Nat.le_of_ble_eq_true rfl), (Nat.le_of_ble_eq_true rfl)⟩) rfl rfl dL_sum_3 ⟨(Nat.le_of_ble_eq_true rfl), (Nat.le_of_ble_eq_true rfl)⟩ [.inr (.inr v2)] rfl (Nat.le_of_ble_eq_true rfl) rfl hW hS hw) hS (fun E ce q9 GX H locs hw hW hS hce hcv hcl => ?_) (fun x_3 G_3 H locs hw hW hS => ?_)
  · by_cases hq0 : E = "java/lang/IndexOutOfBoundsException"
    · replace hw := hw.1 hq0
      subst hq0
      refine vx_catch (name := "java/lang/IndexOutOfBoundsException") C.1.2.2.2.1 [] (⟨0, 10, 13, 19⟩ : ExceptionTableEntry) [] (by rw [htab]; rfl) (fun z hz => nomatch hz) (by decide) (by decide) (C.1.2.2.2.2 _ (zm kw_209)) hcC.2.2.1 hce hcv hcl ?_
      refine tr_astore_n (k := 3) (x := (some q9)) C hl [(3, .inr (.inr (some q9))), (0, .inr (.inr v0)), (1, .inl v1), (2, .inr (.inr v2))] (by decide) rfl dL_sum_13 (fun ls hl => ?_)
      refine lv_iconst (v := (1 : Int32)) C.1.1 C.1.2.1 dL_sum_14 (by decide) ?_
      exact vx_ret (tr_iret C hr dL_sum_15 (Nat.le_of_ble_eq_true rfl) (Nat.le_of_ble_eq_true rfl) hW hS hw)
    replace hw := hw.2 hq0
    exact hw.elim
  · refine lv_i2l (v := ((x_3).toInt64)) C.1.1 C.1.2.1 dL_sum_6 rfl ?_
    refine tr_pfN (C0 := RX2) (T := TX2) (N := 2) (ci := 4) (ref := "TwinrowLaw$Out") (host := "TwinrowLaw") (k := 0) (ty := .long) (v := .long (((x_3).toInt64))) (r := v2) C (zh hw_X2) tyX2 tyX2_ok nmX2 rfl (by decide) hcC.1 rfl rfl (by decide +kernel) rfl rfl dL_sum_7 hW hS hw (fun G_7 H locs hw hW hS => ?_)
    refine lv_goto (tgt := 16) C.1.1 C.1.2.1 dL_sum_10 (by decide) ?_
    refine lv_iconst (v := (0 : Int32)) C.1.1 C.1.2.1 dL_sum_16 (by decide) ?_
    exact vx_ret (tr_iret C hr dL_sum_17 (Nat.le_of_ble_eq_true rfl) (Nat.le_of_ble_eq_true rfl) hW hS hw)
end Z_L_sum
set_option maxHeartbeats 4000000 in
set_option maxRecDepth 100000 in
theorem c_L_sum (l : Launch) (hll : l.stackTraces = false) (K : tK) (post : Int32 → tG → Prop) (v0 : Option Nat) (v1 : Int32) (v2 : Option Nat) : Cx l yL_sum wz_L_sum ({ frames := 8, cells := 1, slots := 6, locals := 128 } : Room) 1 6 [va_rf v0, .int v1, va_rf v2] K (retI post) (fun _ _ => False) (fun G => w_L_sum K post v0 v1 v2 G) := by
  refine tx_ofH (cc := cL_sum) (maxL := 4) (ret := (some .int)) (own := RL) (hh := [(0, 10, 13, 19)]) (by decide) rfl rfl hll [.inr (.inr v0), .inl v1, .inr (.inr v2)] rfl (Nat.le_of_ble_eq_true rfl) ?_
  intro p e s m args below meth c D A G ls C hr htab hcC hl hW hS hw
  exact s_L_sum C hr htab hcC hll post v0 v1 v2 _ _ _ _ hW hS hl hw

/-! X3_sum -/
def wz_X3_sum : List Cond := Cond.code yX3_sum cX3_sum 2 (some .int) :: w0
section Z_X3_sum
variable {p : Program} {l : Launch} {e : Env} {s : State} {m : MethodId} {args : Array Value} {below : List Frame} {meth : Method} {c : Code} {D : va_G} {A : Nat → Prop}
set_option maxHeartbeats 4000000 in
set_option maxRecDepth 100000 in
theorem s_X3_sum_22 {K : tK} (C : tc_B p l s m args meth c D K A wz_X3_sum RX3 cX3_sum 2) (hr : meth.sig.returnType = (some .int)) (hll : l.stackTraces = false)  (post : Int32 → tG → Prop) : ∀ (u0 : Int32) (G : tG) (H : Heap) (locs : List Loc) (ls : Array Slot), tg_W D A s H G → va_S A s.heap H locs → tl ls 2 [] → w_X3_sum_22 K post u0 G → W p l e ({ frames := 3, cells := 1, slots := 12, locals := 71 } : Room) s m args below meth c H locs 1 12 (MQ below (tc_Qc D A (retI post)) args s 1 12 A) (F0 m 22 ls [.int u0]) := by
  intro u0 G H locs ls hW hS hl hw
  unfold w_X3_sum_22 at hw
  exact tr_iret C hr dX3_sum_22 (Nat.le_of_ble_eq_true rfl) (Nat.le_of_ble_eq_true rfl) hW hS hw
set_option maxHeartbeats 4000000 in
set_option maxRecDepth 100000 in
theorem s_X3_sum {K : tK} (C : tc_B p l s m args meth c D K A wz_X3_sum RX3 cX3_sum 2) (hr : meth.sig.returnType = (some .int)) (hll : l.stackTraces = false)  (post : Int32 → tG → Prop) (v0 : Option Nat) (v1 : Int32) : ∀ (G : tG) (H : Heap) (locs : List Loc) (ls : Array Slot), tg_W D A s H G → va_S A s.heap H locs → tl ls 2 [(0, .inr (.inr v0)), (1, .inl v1)] → w_X3_sum K post v0 v1 G → W p l e ({ frames := 3, cells := 1, slots := 12, locals := 71 } : Room) s m args below meth c H locs 0 0 (MQ below (tc_Qc D A (retI post)) args s 1 12 A) (F0 m 0 ls []) := by
  intro G H locs ls hW hS hl hw
  unfold w_X3_sum at hw
  refine tr_aload_n (k := 0) (x := v0) C hl 0 rfl dX3_sum_0 ?_
  refine tr_aload_n (k := 0) (x := v0) C hl 0 rfl dX3_sum_1 ?_
  refine tr_iload_n (k := 1) (x := v1) C hl 1 rfl dX3_sum_2 ?_
  refine tr_backI (tr_runV (r := v0) (As := [.int v1]) C hl.1 (c_X3_isNoList l hll K _ v0 v1) (cwV 1 C.1.2.2.2.2 (gi_V (zm kw_211) (zm kw_212) (zm kw_213) (zm kw_155) (zm kw_210)) rfl rfl rfl (by decide +kernel) ⟨(Nat.le_of_ble_eq_true rfl), (Nat.le_of_ble_eq_true rfl)⟩) rfl rfl dX3_sum_3 ⟨(Nat.le_of_ble_eq_true rfl), (Nat.le_of_ble_eq_true rfl)⟩ [.inr (.inr v0)] rfl (Nat.le_of_ble_eq_true rfl) rfl hW hS hw) hS (fun x_3 G_3 H locs hw hW hS => ?_)
  refine lv_iconst (v := (0 : Int32)) C.1.1 C.1.2.1 dX3_sum_6 (by decide) ?_
  refine tr_backI (tr_runV (r := v0) (As := [.int x_3, .int ((0 : Int32))]) C hl.1 (c_X3_fails l hll K _ v0 x_3 ((0 : Int32))) (cwV 2 C.1.2.2.2.2 (gi_V (zm kw_190) (zm kw_191) (zm kw_192) (zm kw_155) (zm kw_189)) rfl rfl rfl (by decide +kernel) ⟨(Nat.le_of_ble_eq_true rfl), (Nat.le_of_ble_eq_true rfl)⟩) rfl rfl dX3_sum_7 ⟨(Nat.le_of_ble_eq_true rfl), (Nat.le_of_ble_eq_true rfl)⟩ [] rfl (Nat.le_of_ble_eq_true rfl) rfl hW hS hw) hS (fun x_7 G_7 H locs hw hW hS => ?_)
  refine lv_if_eq (tgt := 17) C.1.1 C.1.2.1 dX3_sum_10 (by decide) (fun hc => ?_) (fun hc => ?_)
  · have hw := hw.1 hc
    refine tr_aload_n (k := 0) (x := v0) C hl 0 rfl dX3_sum_17 ?_
    refine tr_iload_n (k := 1) (x := v1) C hl 1 rfl dX3_sum_18 ?_
    refine tr_backI (tr_runV (r := v0) (As := [.int v1]) C hl.1 (c_X3_sumNow l hll K _ v0 v1) (cwV 1 C.1.2.2.2.2 (gi_V (zm kw_178) (zm kw_179) (zm kw_180) (zm kw_155) (zm kw_177)) rfl rfl rfl (by decide +kernel) ⟨(Nat.le_of_ble_eq_true rfl), (Nat.le_of_ble_eq_true rfl)⟩) rfl rfl dX3_sum_19 ⟨(Nat.le_of_ble_eq_true rfl), (Nat.le_of_ble_eq_true rfl)⟩ [] rfl (Nat.le_of_ble_eq_true rfl) rfl hW hS hw) hS (fun x_19 G_19 H locs hw hW hS => ?_)
    exact s_X3_sum_22 C hr hll post x_19 _ _ _ _ hW hS (tl_sub hl [] rfl) hw
  · have hw := hw.2 hc
    refine lv_iconst (v := (0 : Int32)) C.1.1 C.1.2.1 dX3_sum_13 (by decide) ?_
    refine lv_goto (tgt := 22) C.1.1 C.1.2.1 dX3_sum_14 (by decide) ?_
    refine W.widen (k := 1) (n := 12) (Nat.le_of_ble_eq_true rfl) (Nat.le_of_ble_eq_true rfl) ?_
    exact s_X3_sum_22 C hr hll post ((0 : Int32)) _ _ _ _ hW hS (tl_sub hl [] rfl) hw
end Z_X3_sum
set_option maxHeartbeats 4000000 in
set_option maxRecDepth 100000 in
theorem c_X3_sum (l : Launch) (hll : l.stackTraces = false) (K : tK) (post : Int32 → tG → Prop) (v0 : Option Nat) (v1 : Int32) : Ct l yX3_sum wz_X3_sum ({ frames := 3, cells := 1, slots := 12, locals := 71 } : Room) 1 12 [va_rf v0, .int v1] K (retI post) (fun G => w_X3_sum K post v0 v1 G) := by
  refine tc_of (cc := cX3_sum) (maxL := 2) (ret := (some .int)) (own := RX3) (plainFor_of_name (by decide)) rfl rfl hll [.inr (.inr v0), .inl v1] rfl (Nat.le_of_ble_eq_true rfl) ?_
  intro p e s m args below meth c D A G ls C hr hn ht hl hW hS hw
  exact s_X3_sum C hr hll post v0 v1 _ _ _ _ hW hS hl hw

/-! J5_init_d00df -/
def wz_J5_init_d00df : List Cond := Cond.code yJ5_init_d00df cJ5_init_d00df 2 none :: w0
section Z_J5_init_d00df
variable {p : Program} {l : Launch} {e : Env} {s : State} {m : MethodId} {args : Array Value} {below : List Frame} {meth : Method} {c : Code} {D : va_G} {A : Nat → Prop}
set_option maxHeartbeats 4000000 in
set_option maxRecDepth 100000 in
theorem s_J5_init_d00df {K : tK} (C : tc_B p l s m args meth c D K A wz_J5_init_d00df RJ5 cJ5_init_d00df 2) (hr : meth.sig.returnType = none) (hn : meth.name = "<init>") (hll : l.stackTraces = false)  (MC MS : Nat) (post : tG → Prop) (v0 : Option Nat) (v1 : Int32) : ∀ (G : tG) (H : Heap) (locs : List Loc) (ls : Array Slot), tg_W D A s H G → va_S A s.heap H locs → tl ls 2 [(0, .inr (.inr v0)), (1, .inl v1)] → w_J5_init_d00df K MC MS post v0 v1 G → W p l e ({ frames := 1, cells := MC, slots := MS, locals := 12 } : Room) s m args below meth c H locs 0 0 (MQ below (tc_Qc D A (retV post)) args s MC MS A) (F0 m 0 ls []) := by
  intro G H locs ls hW hS hl hw
  unfold w_J5_init_d00df at hw
  refine tr_aload_n (k := 0) (x := v0) C hl 0 rfl dJ5_init_d00df_0 ?_
  refine tr_objInit (r := v0) C hl.1 (zm kw_398) (zm kw_1) (zm kw_2) hw.1 dJ5_init_d00df_1 (Nat.le_of_ble_eq_true rfl) (Nat.le_of_ble_eq_true rfl) ?_
  have hw := hw.2
  refine tr_getCS C (zm kw_399) dJ5_init_d00df_4 hS ?_
  refine lv_if_eq (tgt := 25) C.1.1 C.1.2.1 dJ5_init_d00df_7 (by decide) (fun hc => ?_) (fun hc => ?_)
  · have hw := hw.1 hc
    refine tr_aload_n (k := 0) (x := v0) C hl 0 rfl dJ5_init_d00df_25 ?_
    refine tr_iload_n (k := 1) (x := v1) C hl 1 rfl dJ5_init_d00df_26 ?_
    exact hw.elim
  · have hw := hw.2 hc
    refine tr_aload_n (k := 0) (x := v0) C hl 0 rfl dJ5_init_d00df_10 ?_
    refine tr_iload_n (k := 1) (x := v1) C hl 1 rfl dJ5_init_d00df_11 ?_
    obtain ⟨z_12, hlim12, hw⟩ := hw
    have hq1 := hw.1
    have hw := hw.2
    refine tr_newarr (atype := .byte) (ty := .byte) (lim := z_12) (z := (.inl (fun _ => 0))) C (zm kw_400) rfl (fun _ h => h) (fun _ _ => rfl) (Nat.le_trans (Nat.mul_le_mul_right _ hlim12) (Nat.le_of_ble_eq_true rfl)) hq1.1 hq1.2 dJ5_init_d00df_12 hW hS hw (fun r_12 G_12 H hw hW hS => ?_)
    refine tr_pf (C0 := RJ4) (T := TJ4) (N := 4) (ci := 1) (ref := "java/lang/AbstractStringBuilder") (k := 0) (ty := .array .byte) (v := va_rf r_12) (r := v0) C (zh hw_J4) tyJ4 tyJ4_ok nmJ4 rfl (by decide) (zm kw_401) rfl rfl (by decide +kernel) (tv_nrA _ _) (tv_frA _ _) dJ5_init_d00df_14 hW hS hw (fun G_14 H locs hw hW hS => ?_)
    refine tr_aload_n (k := 0) (x := v0) C hl 0 rfl dJ5_init_d00df_17 ?_
    refine lv_iconst (v := (0 : Int32)) C.1.1 C.1.2.1 dJ5_init_d00df_18 (by decide) ?_
    refine tr_pf (C0 := RJ4) (T := TJ4) (N := 4) (ci := 1) (ref := "java/lang/AbstractStringBuilder") (k := 1) (ty := .byte) (v := .int ((0 : Int32))) (r := v0) C (zh hw_J4) tyJ4 tyJ4_ok nmJ4 rfl (by decide) (zm kw_402) rfl rfl (by decide +kernel) (by decide) (by decide) dJ5_init_d00df_19 hW hS hw (fun G_19 H locs hw hW hS => ?_)
    refine lv_goto (tgt := 38) C.1.1 C.1.2.1 dJ5_init_d00df_22 (by decide) ?_
    exact tr_vret C hr dJ5_init_d00df_38 (show (0 + 1) ≤ MC by omega) (show (0 + z_12) ≤ MS by omega) hW hS hw
end Z_J5_init_d00df
set_option maxHeartbeats 4000000 in
set_option maxRecDepth 100000 in
theorem c_J5_init_d00df (l : Launch) (hll : l.stackTraces = false) (K : tK) (MC MS : Nat) (post : tG → Prop) (v0 : Option Nat) (v1 : Int32) : Ct l yJ5_init_d00df wz_J5_init_d00df ({ frames := 1, cells := MC, slots := MS, locals := 12 } : Room) MC MS [va_rf v0, .int v1] K (retV post) (fun G => w_J5_init_d00df K MC MS post v0 v1 G) := by
  refine tc_of (cc := cJ5_init_d00df) (maxL := 2) (ret := none) (own := RJ5) (plainFor_of_name (by decide)) rfl rfl hll [.inr (.inr v0), .inl v1] rfl (Nat.le_of_ble_eq_true rfl) ?_
  intro p e s m args below meth c D A G ls C hr hn ht hl hW hS hw
  exact s_J5_init_d00df C hr hn hll MC MS post v0 v1 _ _ _ _ hW hS hl hw

/-! J4_init_da8c8 -/
def wz_J4_init_da8c8 : List Cond := Cond.code yJ4_init_da8c8 cJ4_init_da8c8 1 none :: w0
section Z_J4_init_da8c8
variable {p : Program} {l : Launch} {e : Env} {s : State} {m : MethodId} {args : Array Value} {below : List Frame} {meth : Method} {c : Code} {D : va_G} {A : Nat → Prop}
set_option maxHeartbeats 4000000 in
set_option maxRecDepth 100000 in
theorem s_J4_init_da8c8 {K : tK} (C : tc_B p l s m args meth c D K A wz_J4_init_da8c8 RJ4 cJ4_init_da8c8 1) (hr : meth.sig.returnType = none) (hn : meth.name = "<init>") (hll : l.stackTraces = false)  (MC MS : Nat) (post : tG → Prop) (v0 : Option Nat) : ∀ (G : tG) (H : Heap) (locs : List Loc) (ls : Array Slot), tg_W D A s H G → va_S A s.heap H locs → tl ls 1 [(0, .inr (.inr v0))] → w_J4_init_da8c8 K MC MS post v0 G → W p l e ({ frames := 2, cells := MC, slots := MS, locals := 33 } : Room) s m args below meth c H locs 0 0 (MQ below (tc_Qc D A (retV post)) args s MC MS A) (F0 m 0 ls []) := by
  intro G H locs ls hW hS hl hw
  unfold w_J4_init_da8c8 at hw
  refine tr_aload_n (k := 0) (x := v0) C hl 0 rfl dJ4_init_da8c8_0 ?_
  refine lv_bipush (v := (16 : Int32)) C.1.1 C.1.2.1 dJ4_init_da8c8_1 (by decide) ?_
  obtain ⟨mc_3, ms_3, hb3, hd3, hw⟩ := hw
  refine tr_backV (tr_runI (r := v0) (As := [.int ((16 : Int32))]) C hl.1 (c_J5_init_d00df l hll K mc_3 ms_3 _ v0 ((16 : Int32))) (cwI 1 C.1.2.2.2.2 (gi_I  (zm kw_403)) rfl rfl rfl (C.1.2.2.2.2 _ (zm kw_404)) (C.1.2.2.2.2 _ (zm kw_405)) (C.1.2.2.2.2 _ (zm kw_406)) rfl (by decide +kernel) ⟨(Nat.le_of_ble_eq_true rfl), (Nat.le_of_ble_eq_true rfl)⟩) rfl dJ4_init_da8c8_3 ⟨hb3, hd3⟩ [] rfl (Nat.le_of_ble_eq_true rfl) rfl hW hS hw) hS (fun G_3 H locs hw hW hS => ?_)
  exact tr_vret C hr dJ4_init_da8c8_6 (show (0 + mc_3) ≤ MC by omega) (show (0 + ms_3) ≤ MS by omega) hW hS hw
end Z_J4_init_da8c8
set_option maxHeartbeats 4000000 in
set_option maxRecDepth 100000 in
theorem c_J4_init_da8c8 (l : Launch) (hll : l.stackTraces = false) (K : tK) (MC MS : Nat) (post : tG → Prop) (v0 : Option Nat) : Ct l yJ4_init_da8c8 wz_J4_init_da8c8 ({ frames := 2, cells := MC, slots := MS, locals := 33 } : Room) MC MS [va_rf v0] K (retV post) (fun G => w_J4_init_da8c8 K MC MS post v0 G) := by
  refine tc_of (cc := cJ4_init_da8c8) (maxL := 1) (ret := none) (own := RJ4) (plainFor_of_name (by decide)) rfl rfl hll [.inr (.inr v0)] rfl (Nat.le_of_ble_eq_true rfl) ?_
  intro p e s m args below meth c D A G ls C hr hn ht hl hW hS hw
  exact s_J4_init_da8c8 C hr hn hll MC MS post v0 _ _ _ _ hW hS hl hw

/-! J5_getValue_6d5f1 -/
def wz_J5_getValue_6d5f1 : List Cond := Cond.code yJ5_getValue_6d5f1 cJ5_getValue_6d5f1 1 (some (.array .byte)) :: w0
section Z_J5_getValue_6d5f1
variable {p : Program} {l : Launch} {e : Env} {s : State} {m : MethodId} {args : Array Value} {below : List Frame} {meth : Method} {c : Code} {D : va_G} {A : Nat → Prop}
set_option maxHeartbeats 4000000 in
set_option maxRecDepth 100000 in
theorem s_J5_getValue_6d5f1 {K : tK} (C : tc_B p l s m args meth c D K A wz_J5_getValue_6d5f1 RJ5 cJ5_getValue_6d5f1 1) (hr : meth.sig.returnType = (some (.array .byte))) (hll : l.stackTraces = false)  (post : Option Nat → tG → Prop) (v0 : Option Nat) : ∀ (G : tG) (H : Heap) (locs : List Loc) (ls : Array Slot), tg_W D A s H G → va_S A s.heap H locs → tl ls 1 [(0, .inr (.inr v0))] → w_J5_getValue_6d5f1 K post v0 G → W p l e ({ frames := 0, cells := 0, slots := 0, locals := 0 } : Room) s m args below meth c H locs 0 0 (MQ below (tc_Qc D A (retR post)) args s 0 0 A) (F0 m 0 ls []) := by
  intro G H locs ls hW hS hl hw
  unfold w_J5_getValue_6d5f1 at hw
  refine tr_aload_n (k := 0) (x := v0) C hl 0 rfl dJ5_getValue_6d5f1_0 ?_
  refine tr_gfR (C0 := RJ4) (T := TJ4) (N := 4) (ci := 1) (ref := "java/lang/AbstractStringBuilder") (k := 0) (r := v0) C (zh hw_J4) rfl (by decide) (zm kw_401) rfl dJ5_getValue_6d5f1_1 hW hw (fun x_1 hw => ?_)
  exact tr_aret (x := x_1) C hr (Or.inr ⟨_, rfl⟩) dJ5_getValue_6d5f1_4 (Nat.le_of_ble_eq_true rfl) (Nat.le_of_ble_eq_true rfl) hW hS hw
end Z_J5_getValue_6d5f1
set_option maxHeartbeats 4000000 in
set_option maxRecDepth 100000 in
theorem c_J5_getValue_6d5f1 (l : Launch) (hll : l.stackTraces = false) (K : tK) (post : Option Nat → tG → Prop) (v0 : Option Nat) : Ct l yJ5_getValue_6d5f1 wz_J5_getValue_6d5f1 ({ frames := 0, cells := 0, slots := 0, locals := 0 } : Room) 0 0 [va_rf v0] K (retR post) (fun G => w_J5_getValue_6d5f1 K post v0 G) := by
  refine tc_of (cc := cJ5_getValue_6d5f1) (maxL := 1) (ret := (some (.array .byte))) (own := RJ5) (plainFor_of_name (by decide)) rfl rfl hll [.inr (.inr v0)] rfl (Nat.le_of_ble_eq_true rfl) ?_
  intro p e s m args below meth c D A G ls C hr hn ht hl hW hS hw
  exact s_J5_getValue_6d5f1 C hr hll post v0 _ _ _ _ hW hS hl hw

/-! J5_length_8abf5 -/
def wz_J5_length_8abf5 : List Cond := Cond.code yJ5_length_8abf5 cJ5_length_8abf5 1 (some .int) :: w0
section Z_J5_length_8abf5
variable {p : Program} {l : Launch} {e : Env} {s : State} {m : MethodId} {args : Array Value} {below : List Frame} {meth : Method} {c : Code} {D : va_G} {A : Nat → Prop}
set_option maxHeartbeats 4000000 in
set_option maxRecDepth 100000 in
theorem s_J5_length_8abf5 {K : tK} (C : tc_B p l s m args meth c D K A wz_J5_length_8abf5 RJ5 cJ5_length_8abf5 1) (hr : meth.sig.returnType = (some .int)) (hll : l.stackTraces = false)  (post : Int32 → tG → Prop) (v0 : Option Nat) : ∀ (G : tG) (H : Heap) (locs : List Loc) (ls : Array Slot), tg_W D A s H G → va_S A s.heap H locs → tl ls 1 [(0, .inr (.inr v0))] → w_J5_length_8abf5 K post v0 G → W p l e ({ frames := 0, cells := 0, slots := 0, locals := 0 } : Room) s m args below meth c H locs 0 0 (MQ below (tc_Qc D A (retI post)) args s 0 0 A) (F0 m 0 ls []) := by
  intro G H locs ls hW hS hl hw
  unfold w_J5_length_8abf5 at hw
  refine tr_aload_n (k := 0) (x := v0) C hl 0 rfl dJ5_length_8abf5_0 ?_
  refine tr_gfI (C0 := RJ4) (T := TJ4) (N := 4) (ci := 1) (ref := "java/lang/AbstractStringBuilder") (k := 3) (r := v0) C (zh hw_J4) rfl (by decide) (zm kw_407) rfl dJ5_length_8abf5_1 hW hw (fun x_1 hw => ?_)
  exact tr_iret C hr dJ5_length_8abf5_4 (Nat.le_of_ble_eq_true rfl) (Nat.le_of_ble_eq_true rfl) hW hS hw
end Z_J5_length_8abf5
set_option maxHeartbeats 4000000 in
set_option maxRecDepth 100000 in
theorem c_J5_length_8abf5 (l : Launch) (hll : l.stackTraces = false) (K : tK) (post : Int32 → tG → Prop) (v0 : Option Nat) : Ct l yJ5_length_8abf5 wz_J5_length_8abf5 ({ frames := 0, cells := 0, slots := 0, locals := 0 } : Room) 0 0 [va_rf v0] K (retI post) (fun G => w_J5_length_8abf5 K post v0 G) := by
  refine tc_of (cc := cJ5_length_8abf5) (maxL := 1) (ret := (some .int)) (own := RJ5) (plainFor_of_name (by decide)) rfl rfl hll [.inr (.inr v0)] rfl (Nat.le_of_ble_eq_true rfl) ?_
  intro p e s m args below meth c D A G ls C hr hn ht hl hW hS hw
  exact s_J5_length_8abf5 C hr hll post v0 _ _ _ _ hW hS hl hw

/-! J4_length_8abf5 -/
def wz_J4_length_8abf5 : List Cond := Cond.code yJ4_length_8abf5 cJ4_length_8abf5 1 (some .int) :: w0
section Z_J4_length_8abf5
variable {p : Program} {l : Launch} {e : Env} {s : State} {m : MethodId} {args : Array Value} {below : List Frame} {meth : Method} {c : Code} {D : va_G} {A : Nat → Prop}
set_option maxHeartbeats 4000000 in
set_option maxRecDepth 100000 in
theorem s_J4_length_8abf5 {K : tK} (C : tc_B p l s m args meth c D K A wz_J4_length_8abf5 RJ4 cJ4_length_8abf5 1) (hr : meth.sig.returnType = (some .int)) (hll : l.stackTraces = false)  (post : Int32 → tG → Prop) (v0 : Option Nat) : ∀ (G : tG) (H : Heap) (locs : List Loc) (ls : Array Slot), tg_W D A s H G → va_S A s.heap H locs → tl ls 1 [(0, .inr (.inr v0))] → w_J4_length_8abf5 K post v0 G → W p l e ({ frames := 1, cells := 0, slots := 0, locals := 20 } : Room) s m args below meth c H locs 0 0 (MQ below (tc_Qc D A (retI post)) args s 0 0 A) (F0 m 0 ls []) := by
  intro G H locs ls hW hS hl hw
  unfold w_J4_length_8abf5 at hw
  refine tr_aload_n (k := 0) (x := v0) C hl 0 rfl dJ4_length_8abf5_0 ?_
  refine tr_backI (tr_runSU (C0 := RJ4) (T := TJ4) (ci := 1) (r := v0) (As := []) C hl.1 (c_J5_length_8abf5 l hll K _ v0) (va_cwSU 0 C.1.2.2.2.2 (gi_SU (zm kw_409) (zm kw_410) (zm kw_411) (zm kw_412) (zm kw_404) (zm kw_408)) rfl rfl rfl (by decide +kernel) ⟨(Nat.le_of_ble_eq_true rfl), (Nat.le_of_ble_eq_true rfl)⟩) rfl rfl dJ4_length_8abf5_1 ⟨(Nat.le_of_ble_eq_true rfl), (Nat.le_of_ble_eq_true rfl)⟩ [] rfl (Nat.le_of_ble_eq_true rfl) rfl hW hS hw) hS (fun x_1 G_1 H locs hw hW hS => ?_)
  exact tr_iret C hr dJ4_length_8abf5_4 (Nat.le_of_ble_eq_true rfl) (Nat.le_of_ble_eq_true rfl) hW hS hw
end Z_J4_length_8abf5
set_option maxHeartbeats 4000000 in
set_option maxRecDepth 100000 in
theorem c_J4_length_8abf5 (l : Launch) (hll : l.stackTraces = false) (K : tK) (post : Int32 → tG → Prop) (v0 : Option Nat) : Ct l yJ4_length_8abf5 wz_J4_length_8abf5 ({ frames := 1, cells := 0, slots := 0, locals := 20 } : Room) 0 0 [va_rf v0] K (retI post) (fun G => w_J4_length_8abf5 K post v0 G) := by
  refine tc_of (cc := cJ4_length_8abf5) (maxL := 1) (ret := (some .int)) (own := RJ4) (plainFor_of_name (by decide)) rfl rfl hll [.inr (.inr v0)] rfl (Nat.le_of_ble_eq_true rfl) ?_
  intro p e s m args below meth c D A G ls C hr hn ht hl hW hS hw
  exact s_J4_length_8abf5 C hr hll post v0 _ _ _ _ hW hS hl hw

/-! J5_isLatin1_aae02 -/
def wz_J5_isLatin1_aae02 : List Cond := Cond.code yJ5_isLatin1_aae02 cJ5_isLatin1_aae02 1 (some .boolean) :: w0
section Z_J5_isLatin1_aae02
variable {p : Program} {l : Launch} {e : Env} {s : State} {m : MethodId} {args : Array Value} {below : List Frame} {meth : Method} {c : Code} {D : va_G} {A : Nat → Prop}
set_option maxHeartbeats 4000000 in
set_option maxRecDepth 100000 in
theorem s_J5_isLatin1_aae02_18 {K : tK} (C : tc_B p l s m args meth c D K A wz_J5_isLatin1_aae02 RJ5 cJ5_isLatin1_aae02 1) (hr : meth.sig.returnType = (some .boolean)) (hll : l.stackTraces = false)  (post : Int32 → tG → Prop) : ∀ (u0 : Int32) (G : tG) (H : Heap) (locs : List Loc) (ls : Array Slot), tg_W D A s H G → va_S A s.heap H locs → tl ls 1 [] → w_J5_isLatin1_aae02_18 K post u0 G → W p l e ({ frames := 0, cells := 0, slots := 0, locals := 0 } : Room) s m args below meth c H locs 0 0 (MQ below (tc_Qc D A (retI post)) args s 0 0 A) (F0 m 18 ls [.int u0]) := by
  intro u0 G H locs ls hW hS hl hw
  unfold w_J5_isLatin1_aae02_18 at hw
  exact tr_zret C hr dJ5_isLatin1_aae02_18 (Nat.le_of_ble_eq_true rfl) (Nat.le_of_ble_eq_true rfl) hW hS hw
set_option maxHeartbeats 4000000 in
set_option maxRecDepth 100000 in
theorem s_J5_isLatin1_aae02_17 {K : tK} (C : tc_B p l s m args meth c D K A wz_J5_isLatin1_aae02 RJ5 cJ5_isLatin1_aae02 1) (hr : meth.sig.returnType = (some .boolean)) (hll : l.stackTraces = false)  (post : Int32 → tG → Prop) : ∀ (G : tG) (H : Heap) (locs : List Loc) (ls : Array Slot), tg_W D A s H G → va_S A s.heap H locs → tl ls 1 [] → w_J5_isLatin1_aae02_17 K post G → W p l e ({ frames := 0, cells := 0, slots := 0, locals := 0 } : Room) s m args below meth c H locs 0 0 (MQ below (tc_Qc D A (retI post)) args s 0 0 A) (F0 m 17 ls []) := by
  intro G H locs ls hW hS hl hw
  unfold w_J5_isLatin1_aae02_17 at hw
  refine lv_iconst (v := (0 : Int32)) C.1.1 C.1.2.1 dJ5_isLatin1_aae02_17 (by decide) ?_
  exact s_J5_isLatin1_aae02_18 C hr hll post ((0 : Int32)) _ _ _ _ hW hS (tl_sub hl [] rfl) hw
set_option maxHeartbeats 4000000 in
set_option maxRecDepth 100000 in
theorem s_J5_isLatin1_aae02 {K : tK} (C : tc_B p l s m args meth c D K A wz_J5_isLatin1_aae02 RJ5 cJ5_isLatin1_aae02 1) (hr : meth.sig.returnType = (some .boolean)) (hll : l.stackTraces = false)  (post : Int32 → tG → Prop) (v0 : Option Nat) : ∀ (G : tG) (H : Heap) (locs : List Loc) (ls : Array Slot), tg_W D A s H G → va_S A s.heap H locs → tl ls 1 [(0, .inr (.inr v0))] → w_J5_isLatin1_aae02 K post v0 G → W p l e ({ frames := 0, cells := 0, slots := 0, locals := 0 } : Room) s m args below meth c H locs 0 0 (MQ below (tc_Qc D A (retI post)) args s 0 0 A) (F0 m 0 ls []) := by
  intro G H locs ls hW hS hl hw
  unfold w_J5_isLatin1_aae02 at hw
  refine tr_getCS C (zm kw_399) dJ5_isLatin1_aae02_0 hS ?_
  refine lv_if_eq (tgt := 17) C.1.1 C.1.2.1 dJ5_isLatin1_aae02_3 (by decide) (fun hc => ?_) (fun hc => ?_)
  · have hw := hw.1 hc
    exact s_J5_isLatin1_aae02_17 C hr hll post _ _ _ _ hW hS (tl_sub hl [] rfl) hw
  · have hw := hw.2 hc
    refine tr_aload_n (k := 0) (x := v0) C hl 0 rfl dJ5_isLatin1_aae02_6 ?_
    refine tr_gfI (C0 := RJ4) (T := TJ4) (N := 4) (ci := 1) (ref := "java/lang/AbstractStringBuilder") (k := 1) (r := v0) C (zh hw_J4) rfl (by decide) (zm kw_402) rfl dJ5_isLatin1_aae02_7 hW hw (fun x_7 hw => ?_)
    refine lv_if_ne (tgt := 17) C.1.1 C.1.2.1 dJ5_isLatin1_aae02_10 (by decide) (fun hc => ?_) (fun hc => ?_)
    · have hw := hw.1 hc
      exact s_J5_isLatin1_aae02_17 C hr hll post _ _ _ _ hW hS (tl_sub hl [] rfl) hw
    · have hw := hw.2 hc
      refine lv_iconst (v := (1 : Int32)) C.1.1 C.1.2.1 dJ5_isLatin1_aae02_13 (by decide) ?_
      refine lv_goto (tgt := 18) C.1.1 C.1.2.1 dJ5_isLatin1_aae02_14 (by decide) ?_
      exact s_J5_isLatin1_aae02_18 C hr hll post ((1 : Int32)) _ _ _ _ hW hS (tl_sub hl [] rfl) hw
end Z_J5_isLatin1_aae02
set_option maxHeartbeats 4000000 in
set_option maxRecDepth 100000 in
theorem c_J5_isLatin1_aae02 (l : Launch) (hll : l.stackTraces = false) (K : tK) (post : Int32 → tG → Prop) (v0 : Option Nat) : Ct l yJ5_isLatin1_aae02 wz_J5_isLatin1_aae02 ({ frames := 0, cells := 0, slots := 0, locals := 0 } : Room) 0 0 [va_rf v0] K (retI post) (fun G => w_J5_isLatin1_aae02 K post v0 G) := by
  refine tc_of (cc := cJ5_isLatin1_aae02) (maxL := 1) (ret := (some .boolean)) (own := RJ5) (plainFor_of_name (by decide)) rfl rfl hll [.inr (.inr v0)] rfl (Nat.le_of_ble_eq_true rfl) ?_
  intro p e s m args below meth c D A G ls C hr hn ht hl hW hS hw
  exact s_J5_isLatin1_aae02 C hr hll post v0 _ _ _ _ hW hS hl hw

/-! J7_checkLength_df160 -/
def wz_J7_checkLength_df160 : List Cond := Cond.code yJ7_checkLength_df160 cJ7_checkLength_df160 2 none :: w0
section Z_J7_checkLength_df160
variable {p : Program} {l : Launch} {e : Env} {s : State} {m : MethodId} {args : Array Value} {below : List Frame} {meth : Method} {c : Code} {D : va_G} {A : Nat → Prop}
set_option maxHeartbeats 4000000 in
set_option maxRecDepth 100000 in
theorem s_J7_checkLength_df160 {K : tK} (C : tc_B p l s m args meth c D K A wz_J7_checkLength_df160 RJ7 cJ7_checkLength_df160 2) (hr : meth.sig.returnType = none) (hll : l.stackTraces = false)  (post : tG → Prop) (v0 : Int32) (v1 : Int32) : ∀ (G : tG) (H : Heap) (locs : List Loc) (ls : Array Slot), tg_W D A s H G → va_S A s.heap H locs → tl ls 2 [(0, .inl v0), (1, .inl v1)] → w_J7_checkLength_df160 K post v0 v1 G → W p l e ({ frames := 0, cells := 0, slots := 0, locals := 0 } : Room) s m args below meth c H locs 0 0 (MQ below (tc_Qc D A (retV post)) args s 0 0 A) (F0 m 0 ls []) := by
  intro G H locs ls hW hS hl hw
  unfold w_J7_checkLength_df160 at hw
  refine tr_iload_n (k := 1) (x := v1) C hl 1 rfl dJ7_checkLength_df160_0 ?_
  refine tr_iload_n (k := 0) (x := v0) C hl 0 rfl dJ7_checkLength_df160_1 ?_
  refine lv_icmp_ge (tgt := 37) C.1.1 C.1.2.1 dJ7_checkLength_df160_2 (by decide) (fun hc => ?_) (fun hc => ?_)
  · have hw := hw.1 hc
    exact tr_vret C hr dJ7_checkLength_df160_37 (Nat.le_of_ble_eq_true rfl) (Nat.le_of_ble_eq_true rfl) hW hS hw
  · have hw := hw.2 hc
    exact hw.elim
end Z_J7_checkLength_df160
set_option maxHeartbeats 4000000 in
set_option maxRecDepth 100000 in
theorem c_J7_checkLength_df160 (l : Launch) (hll : l.stackTraces = false) (K : tK) (post : tG → Prop) (v0 : Int32) (v1 : Int32) : Ct l yJ7_checkLength_df160 wz_J7_checkLength_df160 ({ frames := 0, cells := 0, slots := 0, locals := 0 } : Room) 0 0 [.int v0, .int v1] K (retV post) (fun G => w_J7_checkLength_df160 K post v0 v1 G) := by
  refine tc_of (cc := cJ7_checkLength_df160) (maxL := 2) (ret := none) (own := RJ7) (plainFor_of_name (by decide)) rfl rfl hll [.inl v0, .inl v1] rfl (Nat.le_of_ble_eq_true rfl) ?_
  intro p e s m args below meth c D A G ls C hr hn ht hl hW hS hw
  exact s_J7_checkLength_df160 C hr hll post v0 v1 _ _ _ _ hW hS hl hw

/-! J7_copyOfRangeByte_39247 -/
def wz_J7_copyOfRangeByte_39247 : List Cond := Cond.code yJ7_copyOfRangeByte_39247 cJ7_copyOfRangeByte_39247 5 (some (.array .byte)) :: w0
section Z_J7_copyOfRangeByte_39247
variable {p : Program} {l : Launch} {e : Env} {s : State} {m : MethodId} {args : Array Value} {below : List Frame} {meth : Method} {c : Code} {D : va_G} {A : Nat → Prop}
set_option maxHeartbeats 4000000 in
set_option maxRecDepth 100000 in
theorem s_J7_copyOfRangeByte_39247 {K : tK} (C : tc_B p l s m args meth c D K A wz_J7_copyOfRangeByte_39247 RJ7 cJ7_copyOfRangeByte_39247 5) (hr : meth.sig.returnType = (some (.array .byte))) (hll : l.stackTraces = false)  (MC MS : Nat) (post : Option Nat → tG → Prop) (v0 : Option Nat) (v1 : Int32) (v2 : Int32) : ∀ (G : tG) (H : Heap) (locs : List Loc) (ls : Array Slot), tg_W D A s H G → va_S A s.heap H locs → tl ls 5 [(0, .inr (.inr v0)), (1, .inl v1), (2, .inl v2)] → w_J7_copyOfRangeByte_39247 K MC MS post v0 v1 v2 G → W p l e ({ frames := 1, cells := MC, slots := MS, locals := 40 } : Room) s m args below meth c H locs 0 0 (MQ below (tc_Qc D A (retR post)) args s MC MS A) (F0 m 0 ls []) := by
  intro G H locs ls hW hS hl hw
  unfold w_J7_copyOfRangeByte_39247 at hw
  refine tr_iload_n (k := 1) (x := v1) C hl 1 rfl dJ7_copyOfRangeByte_39247_0 ?_
  refine tr_iload_n (k := 2) (x := v2) C hl 2 rfl dJ7_copyOfRangeByte_39247_1 ?_
  refine tr_backV (tr_runS (As := [.int v1, .int v2]) C hl.1 (c_J7_checkLength_df160 l hll K _ v1 v2) (va_cwS 2 C.1.2.2.2.2 (gi_S (zm kw_414) (zm kw_415) (zm kw_416) (zm kw_413)) rfl rfl rfl (by decide +kernel) ⟨(Nat.le_of_ble_eq_true rfl), (Nat.le_of_ble_eq_true rfl)⟩) rfl dJ7_copyOfRangeByte_39247_2 ⟨(show 0 + 0 ≤ MC by omega), (show 0 + 0 ≤ MS by omega)⟩ [] rfl (Nat.le_of_ble_eq_true rfl) rfl hW hS hw) hS (fun G_2 H locs hw hW hS => ?_)
  refine tr_iload_n (k := 2) (x := v2) C hl 2 rfl dJ7_copyOfRangeByte_39247_5 ?_
  refine tr_iload_n (k := 1) (x := v1) C hl 1 rfl dJ7_copyOfRangeByte_39247_6 ?_
  refine lv_isub C.1.1 C.1.2.1 dJ7_copyOfRangeByte_39247_7 ?_
  refine tr_istore_n (k := 3) (x := (v2 - v1)) C hl [(3, .inl (v2 - v1)), (0, .inr (.inr v0)), (1, .inl v1), (2, .inl v2)] (by decide) rfl dJ7_copyOfRangeByte_39247_8 (fun ls hl => ?_)
  refine tr_iload_n (k := 3) (x := (v2 - v1)) C hl 0 rfl dJ7_copyOfRangeByte_39247_9 ?_
  obtain ⟨z_10, hlim10, hw⟩ := hw
  have hq1 := hw.1
  have hw := hw.2
  refine tr_newarr (atype := .byte) (ty := .byte) (lim := z_10) (z := (.inl (fun _ => 0))) C (zm kw_400) rfl (fun _ h => h) (fun _ _ => rfl) (Nat.le_trans (Nat.mul_le_mul_right _ hlim10) (Nat.le_of_ble_eq_true rfl)) hq1.1 hq1.2 dJ7_copyOfRangeByte_39247_10 hW hS hw (fun r_10 G_10 H hw hW hS => ?_)
  refine tr_astore (x := r_10) C hl [(4, .inr (.inr r_10)), (3, .inl (v2 - v1)), (0, .inr (.inr v0)), (1, .inl v1), (2, .inl v2)] (by decide) rfl dJ7_copyOfRangeByte_39247_12 (fun ls hl => ?_)
  refine tr_aload_n (k := 0) (x := v0) C hl 2 rfl dJ7_copyOfRangeByte_39247_14 ?_
  refine tr_iload_n (k := 1) (x := v1) C hl 3 rfl dJ7_copyOfRangeByte_39247_15 ?_
  refine tr_aload (x := r_10) C hl 0 rfl dJ7_copyOfRangeByte_39247_16 ?_
  refine lv_iconst (v := (0 : Int32)) C.1.1 C.1.2.1 dJ7_copyOfRangeByte_39247_18 (by decide) ?_
  refine tr_aload_n (k := 0) (x := v0) C hl 2 rfl dJ7_copyOfRangeByte_39247_19 ?_
  refine tr_len (r := v0) C dJ7_copyOfRangeByte_39247_20 hW hw (fun x_20 hw => ?_)
  refine tr_iload_n (k := 1) (x := v1) C hl 3 rfl dJ7_copyOfRangeByte_39247_21 ?_
  refine lv_isub C.1.1 C.1.2.1 dJ7_copyOfRangeByte_39247_22 ?_
  refine tr_iload_n (k := 3) (x := (v2 - v1)) C hl 1 rfl dJ7_copyOfRangeByte_39247_23 ?_
  refine tr_min C hl.1 (zm kw_417) (zm kw_353) (zm kw_354) (zm kw_355) [.inl ((0 : Int32)), .inr (.inr r_10), .inl v1, .inr (.inr v0)] rfl (Nat.le_of_ble_eq_true rfl) (Nat.le_of_ble_eq_true rfl) (show (0 + 1) ≤ MC by omega) (show (0 + z_10) ≤ MS by omega) dJ7_copyOfRangeByte_39247_24 ?_
  refine tr_copy (r := v0) (r2 := r_10) C hl.1 (zm kw_418) (zm kw_419) (zm kw_420) (zm kw_421) (Nat.le_of_ble_eq_true rfl) (by dsimp only; decide) dJ7_copyOfRangeByte_39247_27 hW hS hw (fun G_27 H locs hw hW hS => ?_)
  refine tr_aload (x := r_10) C hl 0 rfl dJ7_copyOfRangeByte_39247_30 ?_
  exact tr_aret (x := r_10) C hr (Or.inr ⟨_, rfl⟩) dJ7_copyOfRangeByte_39247_32 (show (0 + 1) ≤ MC by omega) (show (0 + z_10) ≤ MS by omega) hW hS hw
end Z_J7_copyOfRangeByte_39247
set_option maxHeartbeats 4000000 in
set_option maxRecDepth 100000 in
theorem c_J7_copyOfRangeByte_39247 (l : Launch) (hll : l.stackTraces = false) (K : tK) (MC MS : Nat) (post : Option Nat → tG → Prop) (v0 : Option Nat) (v1 : Int32) (v2 : Int32) : Ct l yJ7_copyOfRangeByte_39247 wz_J7_copyOfRangeByte_39247 ({ frames := 1, cells := MC, slots := MS, locals := 40 } : Room) MC MS [va_rf v0, .int v1, .int v2] K (retR post) (fun G => w_J7_copyOfRangeByte_39247 K MC MS post v0 v1 v2 G) := by
  refine tc_of (cc := cJ7_copyOfRangeByte_39247) (maxL := 5) (ret := (some (.array .byte))) (own := RJ7) (plainFor_of_name (by decide)) rfl rfl hll [.inr (.inr v0), .inl v1, .inl v2] rfl (Nat.le_of_ble_eq_true rfl) ?_
  intro p e s m args below meth c D A G ls C hr hn ht hl hW hS hw
  exact s_J7_copyOfRangeByte_39247 C hr hll MC MS post v0 v1 v2 _ _ _ _ hW hS hl hw

/-! J7_copyOfRange_39247 -/
def wz_J7_copyOfRange_39247 : List Cond := Cond.code yJ7_copyOfRange_39247 cJ7_copyOfRange_39247 3 (some (.array .byte)) :: w0
section Z_J7_copyOfRange_39247
variable {p : Program} {l : Launch} {e : Env} {s : State} {m : MethodId} {args : Array Value} {below : List Frame} {meth : Method} {c : Code} {D : va_G} {A : Nat → Prop}
set_option maxHeartbeats 4000000 in
set_option maxRecDepth 100000 in
theorem s_J7_copyOfRange_39247_10 {K : tK} (C : tc_B p l s m args meth c D K A wz_J7_copyOfRange_39247 RJ7 cJ7_copyOfRange_39247 3) (hr : meth.sig.returnType = (some (.array .byte))) (hll : l.stackTraces = false)  (MC MS : Nat) (post : Option Nat → tG → Prop) : ∀ (nc ns : Nat) (v0 : Option Nat) (v1 : Int32) (v2 : Int32) (G : tG) (H : Heap) (locs : List Loc) (ls : Array Slot), nc ≤ MC ∧ ns ≤ MS → tg_W D A s H G → va_S A s.heap H locs → tl ls 3 [(0, .inr (.inr v0)), (1, .inl v1), (2, .inl v2)] → w_J7_copyOfRange_39247_10 K MC MS post nc ns v0 v1 v2 G → W p l e ({ frames := 2, cells := MC, slots := MS, locals := 64 } : Room) s m args below meth c H locs nc ns (MQ below (tc_Qc D A (retR post)) args s MC MS A) (F0 m 10 ls []) := by
  intro nc ns v0 v1 v2 G H locs ls hcn hW hS hl hw
  unfold w_J7_copyOfRange_39247_10 at hw
  refine tr_aload_n (k := 0) (x := v0) C hl 0 rfl dJ7_copyOfRange_39247_10 ?_
  refine tr_iload_n (k := 1) (x := v1) C hl 1 rfl dJ7_copyOfRange_39247_11 ?_
  refine tr_iload_n (k := 2) (x := v2) C hl 2 rfl dJ7_copyOfRange_39247_12 ?_
  obtain ⟨mc_13, ms_13, hb13, hd13, hw⟩ := hw
  refine tr_backR (tr_runS (As := [va_rf v0, .int v1, .int v2]) C hl.1 (c_J7_copyOfRangeByte_39247 l hll K mc_13 ms_13 _ v0 v1 v2) (va_cwS 3 C.1.2.2.2.2 (gi_S (zm kw_423) (zm kw_424) (zm kw_416) (zm kw_422)) rfl rfl rfl (by decide +kernel) ⟨(Nat.le_of_ble_eq_true rfl), (Nat.le_of_ble_eq_true rfl)⟩) rfl dJ7_copyOfRange_39247_13 ⟨hb13, hd13⟩ [] rfl (Nat.le_of_ble_eq_true rfl) rfl hW hS hw) hS (fun x_13 G_13 H locs hw hW hS => ?_)
  exact tr_aret (x := x_13) C hr (Or.inr ⟨_, rfl⟩) dJ7_copyOfRange_39247_16 (show (nc + mc_13) ≤ MC by omega) (show (ns + ms_13) ≤ MS by omega) hW hS hw
set_option maxHeartbeats 4000000 in
set_option maxRecDepth 100000 in
theorem s_J7_copyOfRange_39247 {K : tK} (C : tc_B p l s m args meth c D K A wz_J7_copyOfRange_39247 RJ7 cJ7_copyOfRange_39247 3) (hr : meth.sig.returnType = (some (.array .byte))) (hll : l.stackTraces = false)  (MC MS : Nat) (post : Option Nat → tG → Prop) (v0 : Option Nat) (v1 : Int32) (v2 : Int32) : ∀ (G : tG) (H : Heap) (locs : List Loc) (ls : Array Slot), tg_W D A s H G → va_S A s.heap H locs → tl ls 3 [(0, .inr (.inr v0)), (1, .inl v1), (2, .inl v2)] → w_J7_copyOfRange_39247 K MC MS post v0 v1 v2 G → W p l e ({ frames := 2, cells := MC, slots := MS, locals := 64 } : Room) s m args below meth c H locs 0 0 (MQ below (tc_Qc D A (retR post)) args s MC MS A) (F0 m 0 ls []) := by
  intro G H locs ls hW hS hl hw
  unfold w_J7_copyOfRange_39247 at hw
  refine tr_iload_n (k := 1) (x := v1) C hl 1 rfl dJ7_copyOfRange_39247_0 ?_
  refine lv_if_ne (tgt := 10) C.1.1 C.1.2.1 dJ7_copyOfRange_39247_1 (by decide) (fun hc => ?_) (fun hc => ?_)
  · have hw := hw.1 hc
    exact s_J7_copyOfRange_39247_10 C hr hll MC MS post 0 0 v0 v1 v2 _ _ _ _ (show 0 ≤ MC ∧ 0 ≤ MS by omega) hW hS (tl_sub hl [0, 1, 2] rfl) hw
  · have hw := hw.2 hc
    refine tr_iload_n (k := 2) (x := v2) C hl 2 rfl dJ7_copyOfRange_39247_4 ?_
    refine tr_aload_n (k := 0) (x := v0) C hl 0 rfl dJ7_copyOfRange_39247_5 ?_
    refine tr_len (r := v0) C dJ7_copyOfRange_39247_6 hW hw (fun x_6 hw => ?_)
    refine lv_icmp_eq (tgt := 17) C.1.1 C.1.2.1 dJ7_copyOfRange_39247_7 (by decide) (fun hc => ?_) (fun hc => ?_)
    · have hw := hw.1 hc
      refine tr_aload_n (k := 0) (x := v0) C hl 0 rfl dJ7_copyOfRange_39247_17 ?_
      obtain ⟨z_18, hw⟩ := hw
      have hq1 := hw.1
      have hw := hw.2
      refine tr_clone (r := v0) (lim := z_18) C hl.1 (zm kw_425) (zm kw_426) (zm kw_427) (zm kw_428) (zm kw_429) hq1.1 hq1.2 (Nat.le_of_ble_eq_true rfl) (Nat.le_of_ble_eq_true rfl) dJ7_copyOfRange_39247_18 hW hS hw (fun r_18 G_18 H hw hW hS => ?_)
      refine tr_castB (r := r_18) C (zm kw_430) dJ7_copyOfRange_39247_21 hW hw (fun hw => ?_)
      exact tr_aret (x := r_18) C hr (Or.inr ⟨_, rfl⟩) dJ7_copyOfRange_39247_24 (show (0 + 1) ≤ MC by omega) (show (0 + z_18) ≤ MS by omega) hW hS hw
    · have hw := hw.2 hc
      exact s_J7_copyOfRange_39247_10 C hr hll MC MS post 0 0 v0 v1 v2 _ _ _ _ (show 0 ≤ MC ∧ 0 ≤ MS by omega) hW hS (tl_sub hl [0, 1, 2] rfl) hw
end Z_J7_copyOfRange_39247
set_option maxHeartbeats 4000000 in
set_option maxRecDepth 100000 in
theorem c_J7_copyOfRange_39247 (l : Launch) (hll : l.stackTraces = false) (K : tK) (MC MS : Nat) (post : Option Nat → tG → Prop) (v0 : Option Nat) (v1 : Int32) (v2 : Int32) : Ct l yJ7_copyOfRange_39247 wz_J7_copyOfRange_39247 ({ frames := 2, cells := MC, slots := MS, locals := 64 } : Room) MC MS [va_rf v0, .int v1, .int v2] K (retR post) (fun G => w_J7_copyOfRange_39247 K MC MS post v0 v1 v2 G) := by
  refine tc_of (cc := cJ7_copyOfRange_39247) (maxL := 3) (ret := (some (.array .byte))) (own := RJ7) (plainFor_of_name (by decide)) rfl rfl hll [.inr (.inr v0), .inl v1, .inl v2] rfl (Nat.le_of_ble_eq_true rfl) ?_
  intro p e s m args below meth c D A G ls C hr hn ht hl hW hS hw
  exact s_J7_copyOfRange_39247 C hr hll MC MS post v0 v1 v2 _ _ _ _ hW hS hl hw

/-! J0_init_db425 -/
def wz_J0_init_db425 : List Cond := Cond.code yJ0_init_db425 cJ0_init_db425 5 none :: w0
section Z_J0_init_db425
variable {p : Program} {l : Launch} {e : Env} {s : State} {m : MethodId} {args : Array Value} {below : List Frame} {meth : Method} {c : Code} {D : va_G} {A : Nat → Prop}
set_option maxHeartbeats 4000000 in
set_option maxRecDepth 100000 in
theorem s_J0_init_db425_97 {K : tK} (C : tc_B p l s m args meth c D K A wz_J0_init_db425 RJ0 cJ0_init_db425 5) (hr : meth.sig.returnType = none) (hn : meth.name = "<init>") (hll : l.stackTraces = false)  (MC MS : Nat) (post : tG → Prop) : ∀ (nc ns : Nat) (G : tG) (H : Heap) (locs : List Loc) (ls : Array Slot), nc ≤ MC ∧ ns ≤ MS → tg_W D A s H G → va_S A s.heap H locs → tl ls 5 [] → w_J0_init_db425_97 K MC MS post nc ns G → W p l e ({ frames := 3, cells := MC, slots := MS, locals := 86 } : Room) s m args below meth c H locs nc ns (MQ below (tc_Qc D A (retV post)) args s MC MS A) (F0 m 97 ls []) := by
  intro nc ns G H locs ls hcn hW hS hl hw
  unfold w_J0_init_db425_97 at hw
  exact tr_vret C hr dJ0_init_db425_97 (show nc ≤ MC by omega) (show ns ≤ MS by omega) hW hS hw
set_option maxHeartbeats 4000000 in
set_option maxRecDepth 100000 in
theorem s_J0_init_db425_79 {K : tK} (C : tc_B p l s m args meth c D K A wz_J0_init_db425 RJ0 cJ0_init_db425 5) (hr : meth.sig.returnType = none) (hn : meth.name = "<init>") (hll : l.stackTraces = false)  (MC MS : Nat) (post : tG → Prop) : ∀ (nc ns : Nat) (v0 : Option Nat) (v3 : Option Nat) (v4 : Int32) (G : tG) (H : Heap) (locs : List Loc) (ls : Array Slot), nc ≤ MC ∧ ns ≤ MS → tg_W D A s H G → va_S A s.heap H locs → tl ls 5 [(0, .inr (.inr v0)), (3, .inr (.inr v3)), (4, .inl v4)] → w_J0_init_db425_79 K MC MS post nc ns v0 v3 v4 G → W p l e ({ frames := 3, cells := MC, slots := MS, locals := 86 } : Room) s m args below meth c H locs nc ns (MQ below (tc_Qc D A (retV post)) args s MC MS A) (F0 m 79 ls []) := by
  intro nc ns v0 v3 v4 G H locs ls hcn hW hS hl hw
  unfold w_J0_init_db425_79 at hw
  refine tr_aload_n (k := 0) (x := v0) C hl 0 rfl dJ0_init_db425_79 ?_
  refine lv_iconst (v := (1 : Int32)) C.1.1 C.1.2.1 dJ0_init_db425_80 (by decide) ?_
  refine tr_pfF (C0 := RJ0) (T := TJ0) (N := 4) (ci := 0) (ref := "java/lang/String") (k := 1) (ty := .byte) (v := .int ((1 : Int32))) (r := v0) C (zh hw_J0) tyJ0 tyJ0_ok nmJ0 rfl (by decide) (zm kw_431) rfl rfl hn rfl (by decide +kernel) (by decide) (by decide) dJ0_init_db425_81 hW hS hw (fun G_81 H locs hw hW hS => ?_)
  refine tr_aload_n (k := 0) (x := v0) C hl 0 rfl dJ0_init_db425_84 ?_
  refine tr_aload_n (k := 3) (x := v3) C hl 1 rfl dJ0_init_db425_85 ?_
  refine lv_iconst (v := (0 : Int32)) C.1.1 C.1.2.1 dJ0_init_db425_86 (by decide) ?_
  refine tr_iload (x := v4) C hl 2 rfl dJ0_init_db425_87 ?_
  refine lv_iconst (v := (1 : Int32)) C.1.1 C.1.2.1 dJ0_init_db425_89 (by decide) ?_
  refine lv_ishl C.1.1 C.1.2.1 dJ0_init_db425_90 ?_
  obtain ⟨mc_91, ms_91, hb91, hd91, hw⟩ := hw
  refine tr_backR (tr_runS (As := [va_rf v3, .int ((0 : Int32)), .int ((v4 <<< ((1 : Int32) &&& 31)))]) C hl.1 (c_J7_copyOfRange_39247 l hll K mc_91 ms_91 _ v3 ((0 : Int32)) ((v4 <<< ((1 : Int32) &&& 31)))) (va_cwS 3 C.1.2.2.2.2 (gi_S (zm kw_433) (zm kw_434) (zm kw_416) (zm kw_432)) rfl rfl rfl (by decide +kernel) ⟨(Nat.le_of_ble_eq_true rfl), (Nat.le_of_ble_eq_true rfl)⟩) rfl dJ0_init_db425_91 ⟨hb91, hd91⟩ [.inr (.inr v0)] rfl (Nat.le_of_ble_eq_true rfl) rfl hW hS hw) hS (fun x_91 G_91 H locs hw hW hS => ?_)
  refine tr_pfF (C0 := RJ0) (T := TJ0) (N := 4) (ci := 0) (ref := "java/lang/String") (k := 0) (ty := .array .byte) (v := va_rf x_91) (r := v0) C (zh hw_J0) tyJ0 tyJ0_ok nmJ0 rfl (by decide) (zm kw_435) rfl rfl hn rfl (by decide +kernel) (tv_nrA _ _) (tv_frA _ _) dJ0_init_db425_94 hW hS hw (fun G_94 H locs hw hW hS => ?_)
  exact s_J0_init_db425_97 C hr hn hll MC MS post ((nc + mc_91)) ((ns + ms_91)) _ _ _ _ (show (nc + mc_91) ≤ MC ∧ (ns + ms_91) ≤ MS by omega) hW hS (tl_sub hl [] rfl) hw
set_option maxHeartbeats 4000000 in
set_option maxRecDepth 100000 in
theorem s_J0_init_db425 {K : tK} (C : tc_B p l s m args meth c D K A wz_J0_init_db425 RJ0 cJ0_init_db425 5) (hr : meth.sig.returnType = none) (hn : meth.name = "<init>") (hll : l.stackTraces = false)  (MC MS : Nat) (post : tG → Prop) (v0 : Option Nat) (v1 : Option Nat) (v2 : Option Nat) : ∀ (G : tG) (H : Heap) (locs : List Loc) (ls : Array Slot), tg_W D A s H G → va_S A s.heap H locs → tl ls 5 [(0, .inr (.inr v0)), (1, .inr (.inr v1)), (2, .inr (.inr v2))] → w_J0_init_db425 K MC MS post v0 v1 v2 G → W p l e ({ frames := 3, cells := MC, slots := MS, locals := 86 } : Room) s m args below meth c H locs 0 0 (MQ below (tc_Qc D A (retV post)) args s MC MS A) (F0 m 0 ls []) := by
  intro G H locs ls hW hS hl hw
  unfold w_J0_init_db425 at hw
  refine tr_aload_n (k := 0) (x := v0) C hl 0 rfl dJ0_init_db425_0 ?_
  refine tr_objInit (r := v0) C hl.1 (zm kw_436) (zm kw_1) (zm kw_2) hw.1 dJ0_init_db425_1 (Nat.le_of_ble_eq_true rfl) (Nat.le_of_ble_eq_true rfl) ?_
  have hw := hw.2
  refine tr_aload_n (k := 1) (x := v1) C hl 1 rfl dJ0_init_db425_4 ?_
  refine tr_backR (tr_runU (r := v1) (As := []) C hl.1 (c_J5_getValue_6d5f1 l hll K _ v1) (va_cwU 0 C.1.2.2.2.2 (gi_U (zm kw_438) (zm kw_439) (zm kw_440) (zm kw_441) (zm kw_404) (zm kw_437)) rfl rfl rfl rfl (by decide +kernel) ⟨(Nat.le_of_ble_eq_true rfl), (Nat.le_of_ble_eq_true rfl)⟩) rfl rfl dJ0_init_db425_5 ⟨(show 0 + 0 ≤ MC by omega), (show 0 + 0 ≤ MS by omega)⟩ [] rfl (Nat.le_of_ble_eq_true rfl) rfl hW hS hw) hS (fun x_5 G_5 H locs hw hW hS => ?_)
  refine tr_astore_n (k := 3) (x := x_5) C hl [(3, .inr (.inr x_5)), (0, .inr (.inr v0)), (1, .inr (.inr v1)), (2, .inr (.inr v2))] (by decide) rfl dJ0_init_db425_8 (fun ls hl => ?_)
  refine tr_aload_n (k := 1) (x := v1) C hl 2 rfl dJ0_init_db425_9 ?_
  refine tr_backI (tr_runU (r := v1) (As := []) C hl.1 (c_J4_length_8abf5 l hll K _ v1) (va_cwO 0 C.1.2.2.2.2 (gi_O (zm kw_443) (zm kw_410) (zm kw_444) (zm kw_445) (zm kw_446) (zm kw_447) (zm kw_442)) rfl rfl rfl (zm kw_408) (by decide +kernel) ⟨(Nat.le_of_ble_eq_true rfl), (Nat.le_of_ble_eq_true rfl)⟩) rfl rfl dJ0_init_db425_10 ⟨(show 0 + 0 ≤ MC by omega), (show 0 + 0 ≤ MS by omega)⟩ [] rfl (Nat.le_of_ble_eq_true rfl) rfl hW hS hw) hS (fun x_10 G_10 H locs hw hW hS => ?_)
  refine tr_istore (x := x_10) C hl [(4, .inl x_10), (3, .inr (.inr x_5)), (0, .inr (.inr v0)), (1, .inr (.inr v1)), (2, .inr (.inr v2))] (by decide) rfl dJ0_init_db425_13 (fun ls hl => ?_)
  refine tr_aload_n (k := 1) (x := v1) C hl 3 rfl dJ0_init_db425_15 ?_
  refine tr_backI (tr_runU (r := v1) (As := []) C hl.1 (c_J5_isLatin1_aae02 l hll K _ v1) (va_cwU 0 C.1.2.2.2.2 (gi_U (zm kw_449) (zm kw_450) (zm kw_451) (zm kw_452) (zm kw_404) (zm kw_448)) rfl rfl rfl rfl (by decide +kernel) ⟨(Nat.le_of_ble_eq_true rfl), (Nat.le_of_ble_eq_true rfl)⟩) rfl rfl dJ0_init_db425_16 ⟨(show 0 + 0 ≤ MC by omega), (show 0 + 0 ≤ MS by omega)⟩ [] rfl (Nat.le_of_ble_eq_true rfl) rfl hW hS hw) hS (fun x_16 G_16 H locs hw hW hS => ?_)
  refine lv_if_eq (tgt := 41) C.1.1 C.1.2.1 dJ0_init_db425_19 (by decide) (fun hc => ?_) (fun hc => ?_)
  · have hw := hw.1 hc
    refine tr_getCS C (zm kw_453) dJ0_init_db425_41 hS ?_
    refine lv_if_eq (tgt := 79) C.1.1 C.1.2.1 dJ0_init_db425_44 (by decide) (fun hc => ?_) (fun hc => ?_)
    · have hw := hw.1 hc
      exact s_J0_init_db425_79 C hr hn hll MC MS post 0 0 v0 x_5 x_10 _ _ _ _ (show 0 ≤ MC ∧ 0 ≤ MS by omega) hW hS (tl_sub hl [2, 1, 0] rfl) hw
    · have hw := hw.2 hc
      refine tr_aload_n (k := 1) (x := v1) C hl 3 rfl dJ0_init_db425_47 ?_
      refine tr_gfI (C0 := RJ4) (T := TJ4) (N := 4) (ci := 1) (ref := "java/lang/AbstractStringBuilder") (k := 2) (r := v1) C (zh hw_J4) rfl (by decide) (zm kw_454) rfl dJ0_init_db425_48 hW hw (fun x_48 hw => ?_)
      refine lv_if_eq (tgt := 79) C.1.1 C.1.2.1 dJ0_init_db425_51 (by decide) (fun hc => ?_) (fun hc => ?_)
      · have hw := hw.1 hc
        exact s_J0_init_db425_79 C hr hn hll MC MS post 0 0 v0 x_5 x_10 _ _ _ _ (show 0 ≤ MC ∧ 0 ≤ MS by omega) hW hS (tl_sub hl [2, 1, 0] rfl) hw
      · have hw := hw.2 hc
        refine tr_aload_n (k := 0) (x := v0) C hl 2 rfl dJ0_init_db425_54 ?_
        refine tr_aload_n (k := 3) (x := x_5) C hl 1 rfl dJ0_init_db425_55 ?_
        refine lv_iconst (v := (0 : Int32)) C.1.1 C.1.2.1 dJ0_init_db425_56 (by decide) ?_
        refine tr_iload (x := x_10) C hl 0 rfl dJ0_init_db425_57 ?_
        exact hw.elim
  · have hw := hw.2 hc
    refine tr_aload_n (k := 0) (x := v0) C hl 2 rfl dJ0_init_db425_22 ?_
    refine lv_iconst (v := (0 : Int32)) C.1.1 C.1.2.1 dJ0_init_db425_23 (by decide) ?_
    refine tr_pfF (C0 := RJ0) (T := TJ0) (N := 4) (ci := 0) (ref := "java/lang/String") (k := 1) (ty := .byte) (v := .int ((0 : Int32))) (r := v0) C (zh hw_J0) tyJ0 tyJ0_ok nmJ0 rfl (by decide) (zm kw_431) rfl rfl hn rfl (by decide +kernel) (by decide) (by decide) dJ0_init_db425_24 hW hS hw (fun G_24 H locs hw hW hS => ?_)
    refine tr_aload_n (k := 0) (x := v0) C hl 2 rfl dJ0_init_db425_27 ?_
    refine tr_aload_n (k := 3) (x := x_5) C hl 1 rfl dJ0_init_db425_28 ?_
    refine lv_iconst (v := (0 : Int32)) C.1.1 C.1.2.1 dJ0_init_db425_29 (by decide) ?_
    refine tr_iload (x := x_10) C hl 0 rfl dJ0_init_db425_30 ?_
    obtain ⟨mc_32, ms_32, hb32, hd32, hw⟩ := hw
    refine tr_backR (tr_runS (As := [va_rf x_5, .int ((0 : Int32)), .int x_10]) C hl.1 (c_J7_copyOfRange_39247 l hll K mc_32 ms_32 _ x_5 ((0 : Int32)) x_10) (va_cwS 3 C.1.2.2.2.2 (gi_S (zm kw_433) (zm kw_434) (zm kw_416) (zm kw_432)) rfl rfl rfl (by decide +kernel) ⟨(Nat.le_of_ble_eq_true rfl), (Nat.le_of_ble_eq_true rfl)⟩) rfl dJ0_init_db425_32 ⟨hb32, hd32⟩ [.inr (.inr v0)] rfl (Nat.le_of_ble_eq_true rfl) rfl hW hS hw) hS (fun x_32 G_32 H locs hw hW hS => ?_)
    refine tr_pfF (C0 := RJ0) (T := TJ0) (N := 4) (ci := 0) (ref := "java/lang/String") (k := 0) (ty := .array .byte) (v := va_rf x_32) (r := v0) C (zh hw_J0) tyJ0 tyJ0_ok nmJ0 rfl (by decide) (zm kw_435) rfl rfl hn rfl (by decide +kernel) (tv_nrA _ _) (tv_frA _ _) dJ0_init_db425_35 hW hS hw (fun G_35 H locs hw hW hS => ?_)
    refine lv_goto (tgt := 97) C.1.1 C.1.2.1 dJ0_init_db425_38 (by decide) ?_
    exact s_J0_init_db425_97 C hr hn hll MC MS post ((0 + mc_32)) ((0 + ms_32)) _ _ _ _ (show (0 + mc_32) ≤ MC ∧ (0 + ms_32) ≤ MS by omega) hW hS (tl_sub hl [] rfl) hw
end Z_J0_init_db425
set_option maxHeartbeats 4000000 in
set_option maxRecDepth 100000 in
theorem c_J0_init_db425 (l : Launch) (hll : l.stackTraces = false) (K : tK) (MC MS : Nat) (post : tG → Prop) (v0 : Option Nat) (v1 : Option Nat) (v2 : Option Nat) : Ct l yJ0_init_db425 wz_J0_init_db425 ({ frames := 3, cells := MC, slots := MS, locals := 86 } : Room) MC MS [va_rf v0, va_rf v1, va_rf v2] K (retV post) (fun G => w_J0_init_db425 K MC MS post v0 v1 v2 G) := by
  refine tc_of (cc := cJ0_init_db425) (maxL := 5) (ret := none) (own := RJ0) (plainFor_of_name (by decide)) rfl rfl hll [.inr (.inr v0), .inr (.inr v1), .inr (.inr v2)] rfl (Nat.le_of_ble_eq_true rfl) ?_
  intro p e s m args below meth c D A G ls C hr hn ht hl hW hS hw
  exact s_J0_init_db425 C hr hn hll MC MS post v0 v1 v2 _ _ _ _ hW hS hl hw

/-! J0_init_81219 -/
def wz_J0_init_81219 : List Cond := Cond.code yJ0_init_81219 cJ0_init_81219 2 none :: w0
section Z_J0_init_81219
variable {p : Program} {l : Launch} {e : Env} {s : State} {m : MethodId} {args : Array Value} {below : List Frame} {meth : Method} {c : Code} {D : va_G} {A : Nat → Prop}
set_option maxHeartbeats 4000000 in
set_option maxRecDepth 100000 in
theorem s_J0_init_81219 {K : tK} (C : tc_B p l s m args meth c D K A wz_J0_init_81219 RJ0 cJ0_init_81219 2) (hr : meth.sig.returnType = none) (hn : meth.name = "<init>") (hll : l.stackTraces = false)  (MC MS : Nat) (post : tG → Prop) (v0 : Option Nat) (v1 : Option Nat) : ∀ (G : tG) (H : Heap) (locs : List Loc) (ls : Array Slot), tg_W D A s H G → va_S A s.heap H locs → tl ls 2 [(0, .inr (.inr v0)), (1, .inr (.inr v1))] → w_J0_init_81219 K MC MS post v0 v1 G → W p l e ({ frames := 4, cells := MC, slots := MS, locals := 110 } : Room) s m args below meth c H locs 0 0 (MQ below (tc_Qc D A (retV post)) args s MC MS A) (F0 m 0 ls []) := by
  intro G H locs ls hW hS hl hw
  unfold w_J0_init_81219 at hw
  refine tr_aload_n (k := 0) (x := v0) C hl 0 rfl dJ0_init_81219_0 ?_
  refine tr_aload_n (k := 1) (x := v1) C hl 1 rfl dJ0_init_81219_1 ?_
  refine tr_null C dJ0_init_81219_2 ?_
  obtain ⟨mc_3, ms_3, hb3, hd3, hw⟩ := hw
  refine tr_backV (tr_runI (r := v0) (As := [va_rf v1, va_rf none]) C hl.1 (c_J0_init_db425 l hll K mc_3 ms_3 _ v0 v1 none) (cwI 2 C.1.2.2.2.2 (gi_I  (zm kw_455)) rfl rfl rfl (C.1.2.2.2.2 _ (zm kw_456)) (C.1.2.2.2.2 _ (zm kw_457)) (C.1.2.2.2.2 _ (zm kw_458)) rfl (by decide +kernel) ⟨(Nat.le_of_ble_eq_true rfl), (Nat.le_of_ble_eq_true rfl)⟩) rfl dJ0_init_81219_3 ⟨hb3, hd3⟩ [] rfl (Nat.le_of_ble_eq_true rfl) rfl hW hS hw) hS (fun G_3 H locs hw hW hS => ?_)
  exact tr_vret C hr dJ0_init_81219_6 (show (0 + mc_3) ≤ MC by omega) (show (0 + ms_3) ≤ MS by omega) hW hS hw
end Z_J0_init_81219
set_option maxHeartbeats 4000000 in
set_option maxRecDepth 100000 in
theorem c_J0_init_81219 (l : Launch) (hll : l.stackTraces = false) (K : tK) (MC MS : Nat) (post : tG → Prop) (v0 : Option Nat) (v1 : Option Nat) : Ct l yJ0_init_81219 wz_J0_init_81219 ({ frames := 4, cells := MC, slots := MS, locals := 110 } : Room) MC MS [va_rf v0, va_rf v1] K (retV post) (fun G => w_J0_init_81219 K MC MS post v0 v1 G) := by
  refine tc_of (cc := cJ0_init_81219) (maxL := 2) (ret := none) (own := RJ0) (plainFor_of_name (by decide)) rfl rfl hll [.inr (.inr v0), .inr (.inr v1)] rfl (Nat.le_of_ble_eq_true rfl) ?_
  intro p e s m args below meth c D A G ls C hr hn ht hl hW hS hw
  exact s_J0_init_81219 C hr hn hll MC MS post v0 v1 _ _ _ _ hW hS hl hw

/-! J4_toString_0e30d -/
def wz_J4_toString_0e30d : List Cond := Cond.code yJ4_toString_0e30d cJ4_toString_0e30d 1 (some (.object "java/lang/String")) :: w0
section Z_J4_toString_0e30d
variable {p : Program} {l : Launch} {e : Env} {s : State} {m : MethodId} {args : Array Value} {below : List Frame} {meth : Method} {c : Code} {D : va_G} {A : Nat → Prop}
set_option maxHeartbeats 4000000 in
set_option maxRecDepth 100000 in
theorem s_J4_toString_0e30d {K : tK} (C : tc_B p l s m args meth c D K A wz_J4_toString_0e30d RJ4 cJ4_toString_0e30d 1) (hr : meth.sig.returnType = (some (.object "java/lang/String"))) (hll : l.stackTraces = false)  (MC MS : Nat) (post : Option Nat → tG → Prop) (v0 : Option Nat) : ∀ (G : tG) (H : Heap) (locs : List Loc) (ls : Array Slot), tg_W D A s H G → va_S A s.heap H locs → tl ls 1 [(0, .inr (.inr v0))] → w_J4_toString_0e30d K MC MS post v0 G → W p l e ({ frames := 5, cells := MC, slots := MS, locals := 131 } : Room) s m args below meth c H locs 0 0 (MQ below (tc_Qc D A (retR post)) args s MC MS A) (F0 m 0 ls []) := by
  intro G H locs ls hW hS hl hw
  unfold w_J4_toString_0e30d at hw
  have hq1 := hw.1
  have hw := hw.2
  refine tr_new (C0 := RJ0) (T := TJ0) (N := 4) (ci := 0) (fs := [.null, .int 0, .int 0, .int 0]) C (zh hw_J0) tyJ0 tyJ0_ok (zm kw_459) (zm kw_460) (zm kw_456) rfl df_J0 hq1.1 hq1.2 dJ4_toString_0e30d_0 hW hS hw (fun r_0 G_0 H hw hW hS => ?_)
  refine lv_dup C.1.1 C.1.2.1 dJ4_toString_0e30d_3 (va_rf_cat _) ?_
  refine tr_aload_n (k := 0) (x := v0) C hl 0 rfl dJ4_toString_0e30d_4 ?_
  obtain ⟨mc_5, ms_5, hb5, hd5, hw⟩ := hw
  refine tr_backV (tr_runI (r := r_0) (As := [va_rf v0]) C hl.1 (c_J0_init_81219 l hll K mc_5 ms_5 _ r_0 v0) (cwI 1 C.1.2.2.2.2 (gi_I  (zm kw_461)) rfl rfl rfl (C.1.2.2.2.2 _ (zm kw_456)) (C.1.2.2.2.2 _ (zm kw_462)) (C.1.2.2.2.2 _ (zm kw_463)) rfl (by decide +kernel) ⟨(Nat.le_of_ble_eq_true rfl), (Nat.le_of_ble_eq_true rfl)⟩) rfl dJ4_toString_0e30d_5 ⟨hb5, hd5⟩ [.inr (.inr r_0)] rfl (Nat.le_of_ble_eq_true rfl) rfl hW hS hw) hS (fun G_5 H locs hw hW hS => ?_)
  exact tr_aret (x := r_0) C hr (Or.inl ⟨_, rfl⟩) dJ4_toString_0e30d_8 (show ((0 + 1) + mc_5) ≤ MC by omega) (show ((0 + 4) + ms_5) ≤ MS by omega) hW hS hw
end Z_J4_toString_0e30d
set_option maxHeartbeats 4000000 in
set_option maxRecDepth 100000 in
theorem c_J4_toString_0e30d (l : Launch) (hll : l.stackTraces = false) (K : tK) (MC MS : Nat) (post : Option Nat → tG → Prop) (v0 : Option Nat) : Ct l yJ4_toString_0e30d wz_J4_toString_0e30d ({ frames := 5, cells := MC, slots := MS, locals := 131 } : Room) MC MS [va_rf v0] K (retR post) (fun G => w_J4_toString_0e30d K MC MS post v0 G) := by
  refine tc_of (cc := cJ4_toString_0e30d) (maxL := 1) (ret := (some (.object "java/lang/String"))) (own := RJ4) (plainFor_of_name (by decide)) rfl rfl hll [.inr (.inr v0)] rfl (Nat.le_of_ble_eq_true rfl) ?_
  intro p e s m args below meth c D A G ls C hr hn ht hl hW hS hw
  exact s_J4_toString_0e30d C hr hll MC MS post v0 _ _ _ _ hW hS hl hw

/-! J6_stringSize_0f7a4 -/
def wz_J6_stringSize_0f7a4 : List Cond := Cond.code yJ6_stringSize_0f7a4 cJ6_stringSize_0f7a4 4 (some .int) :: w0
section Z_J6_stringSize_0f7a4
variable {p : Program} {l : Launch} {e : Env} {s : State} {m : MethodId} {args : Array Value} {below : List Frame} {meth : Method} {c : Code} {D : va_G} {A : Nat → Prop}
set_option maxHeartbeats 4000000 in
set_option maxRecDepth 100000 in
theorem s_J6_stringSize_0f7a4_16_b {K : tK} (C : tc_B p l s m args meth c D K A wz_J6_stringSize_0f7a4 RJ6 cJ6_stringSize_0f7a4 4) (hr : meth.sig.returnType = (some .int)) (hll : l.stackTraces = false)  (post : Int32 → tG → Prop) (k16 : Int32 → Int32 → Int32 → Int32 → tG → Prop) (hk16 : ∀ (v0 : Int32) (v1 : Int32) (v2 : Int32) (v3 : Int32) (G : tG) (H : Heap) (locs : List Loc) (ls : Array Slot), tg_W D A s H G → va_S A s.heap H locs → tl ls 4 [(0, .inl v0), (1, .inl v1), (2, .inl v2), (3, .inl v3)] → k16 v0 v1 v2 v3 G → W p l e ({ frames := 0, cells := 0, slots := 0, locals := 0 } : Room) s m args below meth c H locs 0 0 (MQ below (tc_Qc D A (retI post)) args s 0 0 A) (F0 m 16 ls [])) : ∀ (v0 : Int32) (v1 : Int32) (v2 : Int32) (v3 : Int32) (G : tG) (H : Heap) (locs : List Loc) (ls : Array Slot), tg_W D A s H G → va_S A s.heap H locs → tl ls 4 [(0, .inl v0), (1, .inl v1), (2, .inl v2), (3, .inl v3)] → w_J6_stringSize_0f7a4_16_b K post k16 v0 v1 v2 v3 G → W p l e ({ frames := 0, cells := 0, slots := 0, locals := 0 } : Room) s m args below meth c H locs 0 0 (MQ below (tc_Qc D A (retI post)) args s 0 0 A) (F0 m 16 ls []) := by
  intro v0 v1 v2 v3 G H locs ls hW hS hl hw
  unfold w_J6_stringSize_0f7a4_16_b at hw
  refine tr_iload_n (k := 3) (x := v3) C hl 3 rfl dJ6_stringSize_0f7a4_16 ?_
  refine lv_bipush (v := (10 : Int32)) C.1.1 C.1.2.1 dJ6_stringSize_0f7a4_17 (by decide) ?_
  refine lv_icmp_ge (tgt := 42) C.1.1 C.1.2.1 dJ6_stringSize_0f7a4_19 (by decide) (fun hc => ?_) (fun hc => ?_)
  · have hw := hw.1 hc
    refine lv_bipush (v := (10 : Int32)) C.1.1 C.1.2.1 dJ6_stringSize_0f7a4_42 (by decide) ?_
    refine tr_iload_n (k := 1) (x := v1) C hl 1 rfl dJ6_stringSize_0f7a4_44 ?_
    refine lv_iadd C.1.1 C.1.2.1 dJ6_stringSize_0f7a4_45 ?_
    exact tr_iret C hr dJ6_stringSize_0f7a4_46 (Nat.le_of_ble_eq_true rfl) (Nat.le_of_ble_eq_true rfl) hW hS hw
  · have hw := hw.2 hc
    refine tr_iload_n (k := 0) (x := v0) C hl 0 rfl dJ6_stringSize_0f7a4_22 ?_
    refine tr_iload_n (k := 2) (x := v2) C hl 2 rfl dJ6_stringSize_0f7a4_23 ?_
    refine lv_icmp_le (tgt := 31) C.1.1 C.1.2.1 dJ6_stringSize_0f7a4_24 (by decide) (fun hc => ?_) (fun hc => ?_)
    · have hw := hw.1 hc
      refine lv_bipush (v := (10 : Int32)) C.1.1 C.1.2.1 dJ6_stringSize_0f7a4_31 (by decide) ?_
      refine tr_iload_n (k := 2) (x := v2) C hl 2 rfl dJ6_stringSize_0f7a4_33 ?_
      refine lv_imul C.1.1 C.1.2.1 dJ6_stringSize_0f7a4_34 ?_
      refine tr_istore_n (k := 2) (x := ((10 : Int32) * v2)) C hl [(2, .inl ((10 : Int32) * v2)), (0, .inl v0), (1, .inl v1), (3, .inl v3)] (by decide) rfl dJ6_stringSize_0f7a4_35 (fun ls hl => ?_)
      refine tr_iinc C hl 3 (v3 + (1 : Int32)) [(3, .inl (v3 + (1 : Int32))), (2, .inl ((10 : Int32) * v2)), (0, .inl v0), (1, .inl v1)] rfl rfl (by decide) rfl dJ6_stringSize_0f7a4_36 (fun ls hl => ?_)
      refine lv_goto (tgt := 16) C.1.1 C.1.2.1 dJ6_stringSize_0f7a4_39 (by decide) ?_
      exact hk16 v0 v1 (((10 : Int32) * v2)) ((v3 + (1 : Int32))) _ _ _ _ hW hS (tl_sub hl [2, 3, 1, 0] rfl) hw
    · have hw := hw.2 hc
      refine tr_iload_n (k := 3) (x := v3) C hl 3 rfl dJ6_stringSize_0f7a4_27 ?_
      refine tr_iload_n (k := 1) (x := v1) C hl 1 rfl dJ6_stringSize_0f7a4_28 ?_
      refine lv_iadd C.1.1 C.1.2.1 dJ6_stringSize_0f7a4_29 ?_
      exact tr_iret C hr dJ6_stringSize_0f7a4_30 (Nat.le_of_ble_eq_true rfl) (Nat.le_of_ble_eq_true rfl) hW hS hw
set_option maxHeartbeats 4000000 in
set_option maxRecDepth 100000 in
theorem s_J6_stringSize_0f7a4_16 {K : tK} (C : tc_B p l s m args meth c D K A wz_J6_stringSize_0f7a4 RJ6 cJ6_stringSize_0f7a4 4) (hr : meth.sig.returnType = (some .int)) (hll : l.stackTraces = false)  (post : Int32 → tG → Prop) : ∀ (n : Nat) (v0 : Int32) (v1 : Int32) (v2 : Int32) (v3 : Int32) (G : tG) (H : Heap) (locs : List Loc) (ls : Array Slot), tg_W D A s H G → va_S A s.heap H locs → tl ls 4 [(0, .inl v0), (1, .inl v1), (2, .inl v2), (3, .inl v3)] → w_J6_stringSize_0f7a4_16 K post n v0 v1 v2 v3 G → W p l e ({ frames := 0, cells := 0, slots := 0, locals := 0 } : Room) s m args below meth c H locs 0 0 (MQ below (tc_Qc D A (retI post)) args s 0 0 A) (F0 m 16 ls []) := by
  intro n
  induction n with
  | zero =>
    intro v0 v1 v2 v3 G H locs ls hW hS hl hw
    exact hw.elim
  | succ n ih => exact s_J6_stringSize_0f7a4_16_b C hr hll post _ ih
set_option maxHeartbeats 4000000 in
set_option maxRecDepth 100000 in
theorem s_J6_stringSize_0f7a4_11 {K : tK} (C : tc_B p l s m args meth c D K A wz_J6_stringSize_0f7a4 RJ6 cJ6_stringSize_0f7a4 4) (hr : meth.sig.returnType = (some .int)) (hll : l.stackTraces = false)  (post : Int32 → tG → Prop) : ∀ (v0 : Int32) (v1 : Int32) (G : tG) (H : Heap) (locs : List Loc) (ls : Array Slot), tg_W D A s H G → va_S A s.heap H locs → tl ls 4 [(0, .inl v0), (1, .inl v1)] → w_J6_stringSize_0f7a4_11 K post v0 v1 G → W p l e ({ frames := 0, cells := 0, slots := 0, locals := 0 } : Room) s m args below meth c H locs 0 0 (MQ below (tc_Qc D A (retI post)) args s 0 0 A) (F0 m 11 ls []) := by
  intro v0 v1 G H locs ls hW hS hl hw
  unfold w_J6_stringSize_0f7a4_11 at hw
  refine lv_bipush (v := (-10 : Int32)) C.1.1 C.1.2.1 dJ6_stringSize_0f7a4_11 (by decide) ?_
  refine tr_istore_n (k := 2) (x := (-10 : Int32)) C hl [(2, .inl (-10 : Int32)), (0, .inl v0), (1, .inl v1)] (by decide) rfl dJ6_stringSize_0f7a4_13 (fun ls hl => ?_)
  refine lv_iconst (v := (1 : Int32)) C.1.1 C.1.2.1 dJ6_stringSize_0f7a4_14 (by decide) ?_
  refine tr_istore_n (k := 3) (x := (1 : Int32)) C hl [(3, .inl (1 : Int32)), (2, .inl (-10 : Int32)), (0, .inl v0), (1, .inl v1)] (by decide) rfl dJ6_stringSize_0f7a4_15 (fun ls hl => ?_)
  obtain ⟨n16, hw⟩ := hw
  exact s_J6_stringSize_0f7a4_16 C hr hll post n16 v0 v1 ((-10 : Int32)) ((1 : Int32)) _ _ _ _ hW hS (tl_sub hl [2, 3, 1, 0] rfl) hw
set_option maxHeartbeats 4000000 in
set_option maxRecDepth 100000 in
theorem s_J6_stringSize_0f7a4 {K : tK} (C : tc_B p l s m args meth c D K A wz_J6_stringSize_0f7a4 RJ6 cJ6_stringSize_0f7a4 4) (hr : meth.sig.returnType = (some .int)) (hll : l.stackTraces = false)  (post : Int32 → tG → Prop) (v0 : Int32) : ∀ (G : tG) (H : Heap) (locs : List Loc) (ls : Array Slot), tg_W D A s H G → va_S A s.heap H locs → tl ls 4 [(0, .inl v0)] → w_J6_stringSize_0f7a4 K post v0 G → W p l e ({ frames := 0, cells := 0, slots := 0, locals := 0 } : Room) s m args below meth c H locs 0 0 (MQ below (tc_Qc D A (retI post)) args s 0 0 A) (F0 m 0 ls []) := by
  intro G H locs ls hW hS hl hw
  unfold w_J6_stringSize_0f7a4 at hw
  refine lv_iconst (v := (1 : Int32)) C.1.1 C.1.2.1 dJ6_stringSize_0f7a4_0 (by decide) ?_
  refine tr_istore_n (k := 1) (x := (1 : Int32)) C hl [(1, .inl (1 : Int32)), (0, .inl v0)] (by decide) rfl dJ6_stringSize_0f7a4_1 (fun ls hl => ?_)
  refine tr_iload_n (k := 0) (x := v0) C hl 1 rfl dJ6_stringSize_0f7a4_2 ?_
  refine lv_if_lt (tgt := 11) C.1.1 C.1.2.1 dJ6_stringSize_0f7a4_3 (by decide) (fun hc => ?_) (fun hc => ?_)
  · have hw := hw.1 hc
    exact s_J6_stringSize_0f7a4_11 C hr hll post v0 ((1 : Int32)) _ _ _ _ hW hS (tl_sub hl [1, 0] rfl) hw
  · have hw := hw.2 hc
    refine lv_iconst (v := (0 : Int32)) C.1.1 C.1.2.1 dJ6_stringSize_0f7a4_6 (by decide) ?_
    refine tr_istore_n (k := 1) (x := (0 : Int32)) C hl [(1, .inl (0 : Int32)), (0, .inl v0)] (by decide) rfl dJ6_stringSize_0f7a4_7 (fun ls hl => ?_)
    refine tr_iload_n (k := 0) (x := v0) C hl 1 rfl dJ6_stringSize_0f7a4_8 ?_
    refine lv_ineg C.1.1 C.1.2.1 dJ6_stringSize_0f7a4_9 ?_
    refine tr_istore_n (k := 0) (x := (-v0)) C hl [(0, .inl (-v0)), (1, .inl (0 : Int32))] (by decide) rfl dJ6_stringSize_0f7a4_10 (fun ls hl => ?_)
    exact s_J6_stringSize_0f7a4_11 C hr hll post ((-v0)) ((0 : Int32)) _ _ _ _ hW hS (tl_sub hl [0, 1] rfl) hw
end Z_J6_stringSize_0f7a4
set_option maxHeartbeats 4000000 in
set_option maxRecDepth 100000 in
theorem c_J6_stringSize_0f7a4 (l : Launch) (hll : l.stackTraces = false) (K : tK) (post : Int32 → tG → Prop) (v0 : Int32) : Ct l yJ6_stringSize_0f7a4 wz_J6_stringSize_0f7a4 ({ frames := 0, cells := 0, slots := 0, locals := 0 } : Room) 0 0 [.int v0] K (retI post) (fun G => w_J6_stringSize_0f7a4 K post v0 G) := by
  refine tc_of (cc := cJ6_stringSize_0f7a4) (maxL := 4) (ret := (some .int)) (own := RJ6) (plainFor_of_name (by decide)) rfl rfl hll [.inl v0] rfl (Nat.le_of_ble_eq_true rfl) ?_
  intro p e s m args below meth c D A G ls C hr hn ht hl hW hS hw
  exact s_J6_stringSize_0f7a4 C hr hll post v0 _ _ _ _ hW hS hl hw

/-! J8_newLength_cabcc -/
def wz_J8_newLength_cabcc : List Cond := Cond.code yJ8_newLength_cabcc cJ8_newLength_cabcc 4 (some .int) :: w0
section Z_J8_newLength_cabcc
variable {p : Program} {l : Launch} {e : Env} {s : State} {m : MethodId} {args : Array Value} {below : List Frame} {meth : Method} {c : Code} {D : va_G} {A : Nat → Prop}
set_option maxHeartbeats 4000000 in
set_option maxRecDepth 100000 in
theorem s_J8_newLength_cabcc_21 {K : tK} (C : tc_B p l s m args meth c D K A wz_J8_newLength_cabcc RJ8 cJ8_newLength_cabcc 4) (hr : meth.sig.returnType = (some .int)) (hll : l.stackTraces = false)  (post : Int32 → tG → Prop) : ∀ (v0 : Int32) (v1 : Int32) (G : tG) (H : Heap) (locs : List Loc) (ls : Array Slot), tg_W D A s H G → va_S A s.heap H locs → tl ls 4 [(0, .inl v0), (1, .inl v1)] → w_J8_newLength_cabcc_21 K post v0 v1 G → W p l e ({ frames := 1, cells := 0, slots := 0, locals := 21 } : Room) s m args below meth c H locs 0 0 (MQ below (tc_Qc D A (retI post)) args s 0 0 A) (F0 m 21 ls []) := by
  intro v0 v1 G H locs ls hW hS hl hw
  unfold w_J8_newLength_cabcc_21 at hw
  refine tr_iload_n (k := 0) (x := v0) C hl 0 rfl dJ8_newLength_cabcc_21 ?_
  refine tr_iload_n (k := 1) (x := v1) C hl 1 rfl dJ8_newLength_cabcc_22 ?_
  exact hw.elim
set_option maxHeartbeats 4000000 in
set_option maxRecDepth 100000 in
theorem s_J8_newLength_cabcc {K : tK} (C : tc_B p l s m args meth c D K A wz_J8_newLength_cabcc RJ8 cJ8_newLength_cabcc 4) (hr : meth.sig.returnType = (some .int)) (hll : l.stackTraces = false)  (post : Int32 → tG → Prop) (v0 : Int32) (v1 : Int32) (v2 : Int32) : ∀ (G : tG) (H : Heap) (locs : List Loc) (ls : Array Slot), tg_W D A s H G → va_S A s.heap H locs → tl ls 4 [(0, .inl v0), (1, .inl v1), (2, .inl v2)] → w_J8_newLength_cabcc K post v0 v1 v2 G → W p l e ({ frames := 1, cells := 0, slots := 0, locals := 21 } : Room) s m args below meth c H locs 0 0 (MQ below (tc_Qc D A (retI post)) args s 0 0 A) (F0 m 0 ls []) := by
  intro G H locs ls hW hS hl hw
  unfold w_J8_newLength_cabcc at hw
  refine tr_iload_n (k := 0) (x := v0) C hl 0 rfl dJ8_newLength_cabcc_0 ?_
  refine tr_iload_n (k := 1) (x := v1) C hl 1 rfl dJ8_newLength_cabcc_1 ?_
  refine tr_iload_n (k := 2) (x := v2) C hl 2 rfl dJ8_newLength_cabcc_2 ?_
  refine tr_max C hl.1 (zm kw_464) (zm kw_357) (zm kw_354) (zm kw_358) [.inl v0] rfl (Nat.le_of_ble_eq_true rfl) (Nat.le_of_ble_eq_true rfl) (Nat.le_of_ble_eq_true rfl) (Nat.le_of_ble_eq_true rfl) dJ8_newLength_cabcc_3 ?_
  refine lv_iadd C.1.1 C.1.2.1 dJ8_newLength_cabcc_6 ?_
  refine tr_istore_n (k := 3) (x := (v0 + (if v1 < v2 then v2 else v1))) C hl [(3, .inl (v0 + (if v1 < v2 then v2 else v1))), (0, .inl v0), (1, .inl v1), (2, .inl v2)] (by decide) rfl dJ8_newLength_cabcc_7 (fun ls hl => ?_)
  refine lv_iconst (v := (0 : Int32)) C.1.1 C.1.2.1 dJ8_newLength_cabcc_8 (by decide) ?_
  refine tr_iload_n (k := 3) (x := (v0 + (if v1 < v2 then v2 else v1))) C hl 0 rfl dJ8_newLength_cabcc_9 ?_
  refine lv_icmp_ge (tgt := 21) C.1.1 C.1.2.1 dJ8_newLength_cabcc_10 (by decide) (fun hc => ?_) (fun hc => ?_)
  · have hw := hw.1 hc
    exact s_J8_newLength_cabcc_21 C hr hll post v0 v1 _ _ _ _ hW hS (tl_sub hl [1, 2] rfl) hw
  · have hw := hw.2 hc
    refine tr_iload_n (k := 3) (x := (v0 + (if v1 < v2 then v2 else v1))) C hl 0 rfl dJ8_newLength_cabcc_13 ?_
    refine lv_ldc (v := (2147483639 : Int32)) C.1.1 C.1.2.1 C.1.2.2.2.1 (C.1.2.2.2.2 _ (zm kw_465)) dJ8_newLength_cabcc_14 ?_
    refine lv_icmp_gt (tgt := 21) C.1.1 C.1.2.1 dJ8_newLength_cabcc_16 (by decide) (fun hc => ?_) (fun hc => ?_)
    · have hw := hw.1 hc
      exact s_J8_newLength_cabcc_21 C hr hll post v0 v1 _ _ _ _ hW hS (tl_sub hl [1, 2] rfl) hw
    · have hw := hw.2 hc
      refine tr_iload_n (k := 3) (x := (v0 + (if v1 < v2 then v2 else v1))) C hl 0 rfl dJ8_newLength_cabcc_19 ?_
      exact tr_iret C hr dJ8_newLength_cabcc_20 (Nat.le_of_ble_eq_true rfl) (Nat.le_of_ble_eq_true rfl) hW hS hw
end Z_J8_newLength_cabcc
set_option maxHeartbeats 4000000 in
set_option maxRecDepth 100000 in
theorem c_J8_newLength_cabcc (l : Launch) (hll : l.stackTraces = false) (K : tK) (post : Int32 → tG → Prop) (v0 : Int32) (v1 : Int32) (v2 : Int32) : Ct l yJ8_newLength_cabcc wz_J8_newLength_cabcc ({ frames := 1, cells := 0, slots := 0, locals := 21 } : Room) 0 0 [.int v0, .int v1, .int v2] K (retI post) (fun G => w_J8_newLength_cabcc K post v0 v1 v2 G) := by
  refine tc_of (cc := cJ8_newLength_cabcc) (maxL := 4) (ret := (some .int)) (own := RJ8) (plainFor_of_name (by decide)) rfl rfl hll [.inl v0, .inl v1, .inl v2] rfl (Nat.le_of_ble_eq_true rfl) ?_
  intro p e s m args below meth c D A G ls C hr hn ht hl hW hS hw
  exact s_J8_newLength_cabcc C hr hll post v0 v1 v2 _ _ _ _ hW hS hl hw

/-! J5_newCapacity_0f7a4 -/
def wz_J5_newCapacity_0f7a4 : List Cond := Cond.code yJ5_newCapacity_0f7a4 cJ5_newCapacity_0f7a4 6 (some .int) :: w0
section Z_J5_newCapacity_0f7a4
variable {p : Program} {l : Launch} {e : Env} {s : State} {m : MethodId} {args : Array Value} {below : List Frame} {meth : Method} {c : Code} {D : va_G} {A : Nat → Prop}
set_option maxHeartbeats 4000000 in
set_option maxRecDepth 100000 in
theorem s_J5_newCapacity_0f7a4 {K : tK} (C : tc_B p l s m args meth c D K A wz_J5_newCapacity_0f7a4 RJ5 cJ5_newCapacity_0f7a4 6) (hr : meth.sig.returnType = (some .int)) (hll : l.stackTraces = false)  (post : Int32 → tG → Prop) (v0 : Option Nat) (v1 : Int32) : ∀ (G : tG) (H : Heap) (locs : List Loc) (ls : Array Slot), tg_W D A s H G → va_S A s.heap H locs → tl ls 6 [(0, .inr (.inr v0)), (1, .inl v1)] → w_J5_newCapacity_0f7a4 K post v0 v1 G → W p l e ({ frames := 2, cells := 0, slots := 0, locals := 44 } : Room) s m args below meth c H locs 0 0 (MQ below (tc_Qc D A (retI post)) args s 0 0 A) (F0 m 0 ls []) := by
  intro G H locs ls hW hS hl hw
  unfold w_J5_newCapacity_0f7a4 at hw
  refine tr_aload_n (k := 0) (x := v0) C hl 0 rfl dJ5_newCapacity_0f7a4_0 ?_
  refine tr_gfR (C0 := RJ4) (T := TJ4) (N := 4) (ci := 1) (ref := "java/lang/AbstractStringBuilder") (k := 0) (r := v0) C (zh hw_J4) rfl (by decide) (zm kw_401) rfl dJ5_newCapacity_0f7a4_1 hW hw (fun x_1 hw => ?_)
  refine tr_len (r := x_1) C dJ5_newCapacity_0f7a4_4 hW hw (fun x_4 hw => ?_)
  refine tr_istore_n (k := 2) (x := x_4) C hl [(2, .inl x_4), (0, .inr (.inr v0)), (1, .inl v1)] (by decide) rfl dJ5_newCapacity_0f7a4_5 (fun ls hl => ?_)
  refine tr_iload_n (k := 1) (x := v1) C hl 2 rfl dJ5_newCapacity_0f7a4_6 ?_
  refine tr_aload_n (k := 0) (x := v0) C hl 1 rfl dJ5_newCapacity_0f7a4_7 ?_
  refine tr_gfI (C0 := RJ4) (T := TJ4) (N := 4) (ci := 1) (ref := "java/lang/AbstractStringBuilder") (k := 1) (r := v0) C (zh hw_J4) rfl (by decide) (zm kw_402) rfl dJ5_newCapacity_0f7a4_8 hW hw (fun x_8 hw => ?_)
  refine lv_ishl C.1.1 C.1.2.1 dJ5_newCapacity_0f7a4_11 ?_
  refine tr_istore_n (k := 3) (x := (v1 <<< (x_8 &&& 31))) C hl [(3, .inl (v1 <<< (x_8 &&& 31))), (2, .inl x_4), (0, .inr (.inr v0)), (1, .inl v1)] (by decide) rfl dJ5_newCapacity_0f7a4_12 (fun ls hl => ?_)
  refine tr_iload_n (k := 3) (x := (v1 <<< (x_8 &&& 31))) C hl 0 rfl dJ5_newCapacity_0f7a4_13 ?_
  refine tr_iload_n (k := 2) (x := x_4) C hl 1 rfl dJ5_newCapacity_0f7a4_14 ?_
  refine lv_isub C.1.1 C.1.2.1 dJ5_newCapacity_0f7a4_15 ?_
  refine tr_istore (x := ((v1 <<< (x_8 &&& 31)) - x_4)) C hl [(4, .inl ((v1 <<< (x_8 &&& 31)) - x_4)), (3, .inl (v1 <<< (x_8 &&& 31))), (2, .inl x_4), (0, .inr (.inr v0)), (1, .inl v1)] (by decide) rfl dJ5_newCapacity_0f7a4_16 (fun ls hl => ?_)
  refine tr_iload_n (k := 2) (x := x_4) C hl 2 rfl dJ5_newCapacity_0f7a4_18 ?_
  refine tr_iload (x := ((v1 <<< (x_8 &&& 31)) - x_4)) C hl 0 rfl dJ5_newCapacity_0f7a4_19 ?_
  refine tr_iload_n (k := 2) (x := x_4) C hl 2 rfl dJ5_newCapacity_0f7a4_21 ?_
  refine lv_iconst (v := (2 : Int32)) C.1.1 C.1.2.1 dJ5_newCapacity_0f7a4_22 (by decide) ?_
  refine tr_aload_n (k := 0) (x := v0) C hl 3 rfl dJ5_newCapacity_0f7a4_23 ?_
  refine tr_gfI (C0 := RJ4) (T := TJ4) (N := 4) (ci := 1) (ref := "java/lang/AbstractStringBuilder") (k := 1) (r := v0) C (zh hw_J4) rfl (by decide) (zm kw_402) rfl dJ5_newCapacity_0f7a4_24 hW hw (fun x_24 hw => ?_)
  refine lv_ishl C.1.1 C.1.2.1 dJ5_newCapacity_0f7a4_27 ?_
  refine lv_iadd C.1.1 C.1.2.1 dJ5_newCapacity_0f7a4_28 ?_
  refine tr_backI (tr_runS (As := [.int x_4, .int (((v1 <<< (x_8 &&& 31)) - x_4)), .int ((x_4 + ((2 : Int32) <<< (x_24 &&& 31))))]) C hl.1 (c_J8_newLength_cabcc l hll K _ x_4 (((v1 <<< (x_8 &&& 31)) - x_4)) ((x_4 + ((2 : Int32) <<< (x_24 &&& 31))))) (va_cwS 3 C.1.2.2.2.2 (gi_S (zm kw_467) (zm kw_468) (zm kw_469) (zm kw_466)) rfl rfl rfl (by decide +kernel) ⟨(Nat.le_of_ble_eq_true rfl), (Nat.le_of_ble_eq_true rfl)⟩) rfl dJ5_newCapacity_0f7a4_29 ⟨(Nat.le_of_ble_eq_true rfl), (Nat.le_of_ble_eq_true rfl)⟩ [] rfl (Nat.le_of_ble_eq_true rfl) rfl hW hS hw) hS (fun x_29 G_29 H locs hw hW hS => ?_)
  refine tr_istore (x := x_29) C hl [(5, .inl x_29), (4, .inl ((v1 <<< (x_8 &&& 31)) - x_4)), (3, .inl (v1 <<< (x_8 &&& 31))), (2, .inl x_4), (0, .inr (.inr v0)), (1, .inl v1)] (by decide) rfl dJ5_newCapacity_0f7a4_32 (fun ls hl => ?_)
  refine tr_iload (x := x_29) C hl 0 rfl dJ5_newCapacity_0f7a4_34 ?_
  refine lv_ldc (v := (2147483647 : Int32)) C.1.1 C.1.2.1 C.1.2.2.2.1 (C.1.2.2.2.2 _ (zm kw_470)) dJ5_newCapacity_0f7a4_36 ?_
  refine lv_icmp_ne (tgt := 51) C.1.1 C.1.2.1 dJ5_newCapacity_0f7a4_38 (by decide) (fun hc => ?_) (fun hc => ?_)
  · have hw := hw.1 hc
    refine tr_iload (x := x_29) C hl 0 rfl dJ5_newCapacity_0f7a4_51 ?_
    refine tr_aload_n (k := 0) (x := v0) C hl 4 rfl dJ5_newCapacity_0f7a4_53 ?_
    refine tr_gfI (C0 := RJ4) (T := TJ4) (N := 4) (ci := 1) (ref := "java/lang/AbstractStringBuilder") (k := 1) (r := v0) C (zh hw_J4) rfl (by decide) (zm kw_402) rfl dJ5_newCapacity_0f7a4_54 hW hw (fun x_54 hw => ?_)
    refine lv_ishr C.1.1 C.1.2.1 dJ5_newCapacity_0f7a4_57 ?_
    exact tr_iret C hr dJ5_newCapacity_0f7a4_58 (Nat.le_of_ble_eq_true rfl) (Nat.le_of_ble_eq_true rfl) hW hS hw
  · have hw := hw.2 hc
    exact hw.elim
end Z_J5_newCapacity_0f7a4
set_option maxHeartbeats 4000000 in
set_option maxRecDepth 100000 in
theorem c_J5_newCapacity_0f7a4 (l : Launch) (hll : l.stackTraces = false) (K : tK) (post : Int32 → tG → Prop) (v0 : Option Nat) (v1 : Int32) : Ct l yJ5_newCapacity_0f7a4 wz_J5_newCapacity_0f7a4 ({ frames := 2, cells := 0, slots := 0, locals := 44 } : Room) 0 0 [va_rf v0, .int v1] K (retI post) (fun G => w_J5_newCapacity_0f7a4 K post v0 v1 G) := by
  refine tc_of (cc := cJ5_newCapacity_0f7a4) (maxL := 6) (ret := (some .int)) (own := RJ5) (plainFor_of_name (by decide)) rfl rfl hll [.inr (.inr v0), .inl v1] rfl (Nat.le_of_ble_eq_true rfl) ?_
  intro p e s m args below meth c D A G ls C hr hn ht hl hW hS hw
  exact s_J5_newCapacity_0f7a4 C hr hll post v0 v1 _ _ _ _ hW hS hl hw

/-! J7_copyOf_9075b -/
def wz_J7_copyOf_9075b : List Cond := Cond.code yJ7_copyOf_9075b cJ7_copyOf_9075b 3 (some (.array .byte)) :: w0
section Z_J7_copyOf_9075b
variable {p : Program} {l : Launch} {e : Env} {s : State} {m : MethodId} {args : Array Value} {below : List Frame} {meth : Method} {c : Code} {D : va_G} {A : Nat → Prop}
set_option maxHeartbeats 4000000 in
set_option maxRecDepth 100000 in
theorem s_J7_copyOf_9075b {K : tK} (C : tc_B p l s m args meth c D K A wz_J7_copyOf_9075b RJ7 cJ7_copyOf_9075b 3) (hr : meth.sig.returnType = (some (.array .byte))) (hll : l.stackTraces = false)  (MC MS : Nat) (post : Option Nat → tG → Prop) (v0 : Option Nat) (v1 : Int32) : ∀ (G : tG) (H : Heap) (locs : List Loc) (ls : Array Slot), tg_W D A s H G → va_S A s.heap H locs → tl ls 3 [(0, .inr (.inr v0)), (1, .inl v1)] → w_J7_copyOf_9075b K MC MS post v0 v1 G → W p l e ({ frames := 1, cells := MC, slots := MS, locals := 40 } : Room) s m args below meth c H locs 0 0 (MQ below (tc_Qc D A (retR post)) args s MC MS A) (F0 m 0 ls []) := by
  intro G H locs ls hW hS hl hw
  unfold w_J7_copyOf_9075b at hw
  refine tr_iload_n (k := 1) (x := v1) C hl 1 rfl dJ7_copyOf_9075b_0 ?_
  refine tr_aload_n (k := 0) (x := v0) C hl 0 rfl dJ7_copyOf_9075b_1 ?_
  refine tr_len (r := v0) C dJ7_copyOf_9075b_2 hW hw (fun x_2 hw => ?_)
  refine lv_icmp_ne (tgt := 14) C.1.1 C.1.2.1 dJ7_copyOf_9075b_3 (by decide) (fun hc => ?_) (fun hc => ?_)
  · have hw := hw.1 hc
    refine tr_iload_n (k := 1) (x := v1) C hl 1 rfl dJ7_copyOf_9075b_14 ?_
    obtain ⟨z_15, hlim15, hw⟩ := hw
    have hq1 := hw.1
    have hw := hw.2
    refine tr_newarr (atype := .byte) (ty := .byte) (lim := z_15) (z := (.inl (fun _ => 0))) C (zm kw_400) rfl (fun _ h => h) (fun _ _ => rfl) (Nat.le_trans (Nat.mul_le_mul_right _ hlim15) (Nat.le_of_ble_eq_true rfl)) hq1.1 hq1.2 dJ7_copyOf_9075b_15 hW hS hw (fun r_15 G_15 H hw hW hS => ?_)
    refine tr_astore_n (k := 2) (x := r_15) C hl [(2, .inr (.inr r_15)), (0, .inr (.inr v0)), (1, .inl v1)] (by decide) rfl dJ7_copyOf_9075b_17 (fun ls hl => ?_)
    refine tr_aload_n (k := 0) (x := v0) C hl 1 rfl dJ7_copyOf_9075b_18 ?_
    refine lv_iconst (v := (0 : Int32)) C.1.1 C.1.2.1 dJ7_copyOf_9075b_19 (by decide) ?_
    refine tr_aload_n (k := 2) (x := r_15) C hl 0 rfl dJ7_copyOf_9075b_20 ?_
    refine lv_iconst (v := (0 : Int32)) C.1.1 C.1.2.1 dJ7_copyOf_9075b_21 (by decide) ?_
    refine tr_aload_n (k := 0) (x := v0) C hl 1 rfl dJ7_copyOf_9075b_22 ?_
    refine tr_len (r := v0) C dJ7_copyOf_9075b_23 hW hw (fun x_23 hw => ?_)
    refine tr_iload_n (k := 1) (x := v1) C hl 2 rfl dJ7_copyOf_9075b_24 ?_
    refine tr_min C hl.1 (zm kw_417) (zm kw_353) (zm kw_354) (zm kw_355) [.inl ((0 : Int32)), .inr (.inr r_15), .inl ((0 : Int32)), .inr (.inr v0)] rfl (Nat.le_of_ble_eq_true rfl) (Nat.le_of_ble_eq_true rfl) (show (0 + 1) ≤ MC by omega) (show (0 + z_15) ≤ MS by omega) dJ7_copyOf_9075b_25 ?_
    refine tr_copy (r := v0) (r2 := r_15) C hl.1 (zm kw_418) (zm kw_419) (zm kw_420) (zm kw_421) (Nat.le_of_ble_eq_true rfl) (by dsimp only; decide) dJ7_copyOf_9075b_28 hW hS hw (fun G_28 H locs hw hW hS => ?_)
    refine tr_aload_n (k := 2) (x := r_15) C hl 0 rfl dJ7_copyOf_9075b_31 ?_
    exact tr_aret (x := r_15) C hr (Or.inr ⟨_, rfl⟩) dJ7_copyOf_9075b_32 (show (0 + 1) ≤ MC by omega) (show (0 + z_15) ≤ MS by omega) hW hS hw
  · have hw := hw.2 hc
    refine tr_aload_n (k := 0) (x := v0) C hl 0 rfl dJ7_copyOf_9075b_6 ?_
    exact hw.elim
end Z_J7_copyOf_9075b
set_option maxHeartbeats 4000000 in
set_option maxRecDepth 100000 in
theorem c_J7_copyOf_9075b (l : Launch) (hll : l.stackTraces = false) (K : tK) (MC MS : Nat) (post : Option Nat → tG → Prop) (v0 : Option Nat) (v1 : Int32) : Ct l yJ7_copyOf_9075b wz_J7_copyOf_9075b ({ frames := 1, cells := MC, slots := MS, locals := 40 } : Room) MC MS [va_rf v0, .int v1] K (retR post) (fun G => w_J7_copyOf_9075b K MC MS post v0 v1 G) := by
  refine tc_of (cc := cJ7_copyOf_9075b) (maxL := 3) (ret := (some (.array .byte))) (own := RJ7) (plainFor_of_name (by decide)) rfl rfl hll [.inr (.inr v0), .inl v1] rfl (Nat.le_of_ble_eq_true rfl) ?_
  intro p e s m args below meth c D A G ls C hr hn ht hl hW hS hw
  exact s_J7_copyOf_9075b C hr hll MC MS post v0 v1 _ _ _ _ hW hS hl hw
