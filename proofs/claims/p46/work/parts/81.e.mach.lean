/-! J5_ensureCapacityInternal_d00df -/
def wz_J5_ensureCapacityInternal_d00df : List Cond := Cond.code yJ5_ensureCapacityInternal_d00df cJ5_ensureCapacityInternal_d00df 3 none :: w0
section Z_J5_ensureCapacityInternal_d00df
variable {p : Program} {l : Launch} {e : Env} {s : State} {m : MethodId} {args : Array Value} {below : List Frame} {meth : Method} {c : Code} {D : va_G} {A : Nat → Prop}
set_option maxHeartbeats 4000000 in
set_option maxRecDepth 100000 in
theorem s_J5_ensureCapacityInternal_d00df_38 {K : tK} (C : tc_B p l s m args meth c D K A wz_J5_ensureCapacityInternal_d00df RJ5 cJ5_ensureCapacityInternal_d00df 3) (hr : meth.sig.returnType = none) (hll : l.stackTraces = false)  (MC MS : Nat) (post : tG → Prop) : ∀ (nc ns : Nat) (G : tG) (H : Heap) (locs : List Loc) (ls : Array Slot), nc ≤ MC ∧ ns ≤ MS → tg_W D A s H G → va_S A s.heap H locs → tl ls 3 [] → w_J5_ensureCapacityInternal_d00df_38 K MC MS post nc ns G → W p l e ({ frames := 3, cells := MC, slots := MS, locals := 69 } : Room) s m args below meth c H locs nc ns (MQ below (tc_Qc D A (retV post)) args s MC MS A) (F0 m 38 ls []) := by
  intro nc ns G H locs ls hcn hW hS hl hw
  unfold w_J5_ensureCapacityInternal_d00df_38 at hw
  exact tr_vret C hr dJ5_ensureCapacityInternal_d00df_38 (show nc ≤ MC by omega) (show ns ≤ MS by omega) hW hS hw
set_option maxHeartbeats 4000000 in
set_option maxRecDepth 100000 in
theorem s_J5_ensureCapacityInternal_d00df {K : tK} (C : tc_B p l s m args meth c D K A wz_J5_ensureCapacityInternal_d00df RJ5 cJ5_ensureCapacityInternal_d00df 3) (hr : meth.sig.returnType = none) (hll : l.stackTraces = false)  (MC MS : Nat) (post : tG → Prop) (v0 : Option Nat) (v1 : Int32) : ∀ (G : tG) (H : Heap) (locs : List Loc) (ls : Array Slot), tg_W D A s H G → va_S A s.heap H locs → tl ls 3 [(0, .inr (.inr v0)), (1, .inl v1)] → w_J5_ensureCapacityInternal_d00df K MC MS post v0 v1 G → W p l e ({ frames := 3, cells := MC, slots := MS, locals := 69 } : Room) s m args below meth c H locs 0 0 (MQ below (tc_Qc D A (retV post)) args s MC MS A) (F0 m 0 ls []) := by
  intro G H locs ls hW hS hl hw
  unfold w_J5_ensureCapacityInternal_d00df at hw
  refine tr_aload_n (k := 0) (x := v0) C hl 0 rfl dJ5_ensureCapacityInternal_d00df_0 ?_
  refine tr_gfR (C0 := RJ4) (T := TJ4) (N := 4) (ci := 1) (ref := "java/lang/AbstractStringBuilder") (k := 0) (r := v0) C (zh hw_J4) rfl (by decide) (zm kw_401) rfl dJ5_ensureCapacityInternal_d00df_1 hW hw (fun x_1 hw => ?_)
  refine tr_len (r := x_1) C dJ5_ensureCapacityInternal_d00df_4 hW hw (fun x_4 hw => ?_)
  refine tr_aload_n (k := 0) (x := v0) C hl 0 rfl dJ5_ensureCapacityInternal_d00df_5 ?_
  refine tr_gfI (C0 := RJ4) (T := TJ4) (N := 4) (ci := 1) (ref := "java/lang/AbstractStringBuilder") (k := 1) (r := v0) C (zh hw_J4) rfl (by decide) (zm kw_402) rfl dJ5_ensureCapacityInternal_d00df_6 hW hw (fun x_6 hw => ?_)
  refine lv_ishr C.1.1 C.1.2.1 dJ5_ensureCapacityInternal_d00df_9 ?_
  refine tr_istore_n (k := 2) (x := (x_4 >>> (x_6 &&& 31))) C hl [(2, .inl (x_4 >>> (x_6 &&& 31))), (0, .inr (.inr v0)), (1, .inl v1)] (by decide) rfl dJ5_ensureCapacityInternal_d00df_10 (fun ls hl => ?_)
  refine tr_iload_n (k := 1) (x := v1) C hl 2 rfl dJ5_ensureCapacityInternal_d00df_11 ?_
  refine tr_iload_n (k := 2) (x := (x_4 >>> (x_6 &&& 31))) C hl 0 rfl dJ5_ensureCapacityInternal_d00df_12 ?_
  refine lv_isub C.1.1 C.1.2.1 dJ5_ensureCapacityInternal_d00df_13 ?_
  refine lv_if_le (tgt := 38) C.1.1 C.1.2.1 dJ5_ensureCapacityInternal_d00df_14 (by decide) (fun hc => ?_) (fun hc => ?_)
  · have hw := hw.1 hc
    exact s_J5_ensureCapacityInternal_d00df_38 C hr hll MC MS post 0 0 _ _ _ _ (show 0 ≤ MC ∧ 0 ≤ MS by omega) hW hS (tl_sub hl [] rfl) hw
  · have hw := hw.2 hc
    refine tr_aload_n (k := 0) (x := v0) C hl 1 rfl dJ5_ensureCapacityInternal_d00df_17 ?_
    refine tr_aload_n (k := 0) (x := v0) C hl 1 rfl dJ5_ensureCapacityInternal_d00df_18 ?_
    refine tr_gfR (C0 := RJ4) (T := TJ4) (N := 4) (ci := 1) (ref := "java/lang/AbstractStringBuilder") (k := 0) (r := v0) C (zh hw_J4) rfl (by decide) (zm kw_401) rfl dJ5_ensureCapacityInternal_d00df_19 hW hw (fun x_19 hw => ?_)
    refine tr_aload_n (k := 0) (x := v0) C hl 1 rfl dJ5_ensureCapacityInternal_d00df_22 ?_
    refine tr_iload_n (k := 1) (x := v1) C hl 2 rfl dJ5_ensureCapacityInternal_d00df_23 ?_
    refine tr_backI (tr_runU (r := v0) (As := [.int v1]) C hl.1 (c_J5_newCapacity_0f7a4 l hll K _ v0 v1) (va_cwU 1 C.1.2.2.2.2 (gi_U (zm kw_472) (zm kw_473) (zm kw_474) (zm kw_475) (zm kw_404) (zm kw_471)) rfl rfl rfl rfl (by decide +kernel) ⟨(Nat.le_of_ble_eq_true rfl), (Nat.le_of_ble_eq_true rfl)⟩) rfl rfl dJ5_ensureCapacityInternal_d00df_24 ⟨(show 0 + 0 ≤ MC by omega), (show 0 + 0 ≤ MS by omega)⟩ [.inr (.inr x_19), .inr (.inr v0)] rfl (Nat.le_of_ble_eq_true rfl) rfl hW hS hw) hS (fun x_24 G_24 H locs hw hW hS => ?_)
    refine tr_aload_n (k := 0) (x := v0) C hl 1 rfl dJ5_ensureCapacityInternal_d00df_27 ?_
    refine tr_gfI (C0 := RJ4) (T := TJ4) (N := 4) (ci := 1) (ref := "java/lang/AbstractStringBuilder") (k := 1) (r := v0) C (zh hw_J4) rfl (by decide) (zm kw_402) rfl dJ5_ensureCapacityInternal_d00df_28 hW hw (fun x_28 hw => ?_)
    refine lv_ishl C.1.1 C.1.2.1 dJ5_ensureCapacityInternal_d00df_31 ?_
    obtain ⟨mc_32, ms_32, hb32, hd32, hw⟩ := hw
    refine tr_backR (tr_runS (As := [va_rf x_19, .int ((x_24 <<< (x_28 &&& 31)))]) C hl.1 (c_J7_copyOf_9075b l hll K mc_32 ms_32 _ x_19 ((x_24 <<< (x_28 &&& 31)))) (va_cwS 2 C.1.2.2.2.2 (gi_S (zm kw_477) (zm kw_478) (zm kw_416) (zm kw_476)) rfl rfl rfl (by decide +kernel) ⟨(Nat.le_of_ble_eq_true rfl), (Nat.le_of_ble_eq_true rfl)⟩) rfl dJ5_ensureCapacityInternal_d00df_32 ⟨hb32, hd32⟩ [.inr (.inr v0)] rfl (Nat.le_of_ble_eq_true rfl) rfl hW hS hw) hS (fun x_32 G_32 H locs hw hW hS => ?_)
    refine tr_pf (C0 := RJ4) (T := TJ4) (N := 4) (ci := 1) (ref := "java/lang/AbstractStringBuilder") (k := 0) (ty := .array .byte) (v := va_rf x_32) (r := v0) C (zh hw_J4) tyJ4 tyJ4_ok nmJ4 rfl (by decide) (zm kw_401) rfl rfl (by decide +kernel) (tv_nrA _ _) (tv_frA _ _) dJ5_ensureCapacityInternal_d00df_35 hW hS hw (fun G_35 H locs hw hW hS => ?_)
    exact s_J5_ensureCapacityInternal_d00df_38 C hr hll MC MS post ((0 + mc_32)) ((0 + ms_32)) _ _ _ _ (show (0 + mc_32) ≤ MC ∧ (0 + ms_32) ≤ MS by omega) hW hS (tl_sub hl [] rfl) hw
end Z_J5_ensureCapacityInternal_d00df
set_option maxHeartbeats 4000000 in
set_option maxRecDepth 100000 in
theorem c_J5_ensureCapacityInternal_d00df (l : Launch) (hll : l.stackTraces = false) (K : tK) (MC MS : Nat) (post : tG → Prop) (v0 : Option Nat) (v1 : Int32) : Ct l yJ5_ensureCapacityInternal_d00df wz_J5_ensureCapacityInternal_d00df ({ frames := 3, cells := MC, slots := MS, locals := 69 } : Room) MC MS [va_rf v0, .int v1] K (retV post) (fun G => w_J5_ensureCapacityInternal_d00df K MC MS post v0 v1 G) := by
  refine tc_of (cc := cJ5_ensureCapacityInternal_d00df) (maxL := 3) (ret := none) (own := RJ5) (plainFor_of_name (by decide)) rfl rfl hll [.inr (.inr v0), .inl v1] rfl (Nat.le_of_ble_eq_true rfl) ?_
  intro p e s m args below meth c D A G ls C hr hn ht hl hW hS hw
  exact s_J5_ensureCapacityInternal_d00df C hr hll MC MS post v0 v1 _ _ _ _ hW hS hl hw

/-! J6_getChars_ba4f3 -/
def wz_J6_getChars_ba4f3 : List Cond := Cond.code yJ6_getChars_ba4f3 cJ6_getChars_ba4f3 7 (some .int) :: w0
section Z_J6_getChars_ba4f3
variable {p : Program} {l : Launch} {e : Env} {s : State} {m : MethodId} {args : Array Value} {below : List Frame} {meth : Method} {c : Code} {D : va_G} {A : Nat → Prop}
set_option maxHeartbeats 4000000 in
set_option maxRecDepth 100000 in
theorem s_J6_getChars_ba4f3_118 {K : tK} (C : tc_B p l s m args meth c D K A wz_J6_getChars_ba4f3 RJ6 cJ6_getChars_ba4f3 7) (hr : meth.sig.returnType = (some .int)) (hll : l.stackTraces = false)  (post : Int32 → tG → Prop) : ∀ (v5 : Int32) (G : tG) (H : Heap) (locs : List Loc) (ls : Array Slot), tg_W D A s H G → va_S A s.heap H locs → tl ls 7 [(5, .inl v5)] → w_J6_getChars_ba4f3_118 K post v5 G → W p l e ({ frames := 0, cells := 0, slots := 0, locals := 0 } : Room) s m args below meth c H locs 0 0 (MQ below (tc_Qc D A (retI post)) args s 0 0 A) (F0 m 118 ls []) := by
  intro v5 G H locs ls hW hS hl hw
  unfold w_J6_getChars_ba4f3_118 at hw
  refine tr_iload (x := v5) C hl 0 rfl dJ6_getChars_ba4f3_118 ?_
  exact tr_iret C hr dJ6_getChars_ba4f3_120 (Nat.le_of_ble_eq_true rfl) (Nat.le_of_ble_eq_true rfl) hW hS hw
set_option maxHeartbeats 4000000 in
set_option maxRecDepth 100000 in
theorem s_J6_getChars_ba4f3_104 {K : tK} (C : tc_B p l s m args meth c D K A wz_J6_getChars_ba4f3 RJ6 cJ6_getChars_ba4f3 7) (hr : meth.sig.returnType = (some .int)) (hll : l.stackTraces = false)  (post : Int32 → tG → Prop) : ∀ (v2 : Option Nat) (v5 : Int32) (v6 : Int32) (G : tG) (H : Heap) (locs : List Loc) (ls : Array Slot), tg_W D A s H G → va_S A s.heap H locs → tl ls 7 [(2, .inr (.inr v2)), (5, .inl v5), (6, .inl v6)] → w_J6_getChars_ba4f3_104 K post v2 v5 v6 G → W p l e ({ frames := 0, cells := 0, slots := 0, locals := 0 } : Room) s m args below meth c H locs 0 0 (MQ below (tc_Qc D A (retI post)) args s 0 0 A) (F0 m 104 ls []) := by
  intro v2 v5 v6 G H locs ls hW hS hl hw
  unfold w_J6_getChars_ba4f3_104 at hw
  refine tr_iload (x := v6) C hl 2 rfl dJ6_getChars_ba4f3_104 ?_
  refine lv_if_eq (tgt := 118) C.1.1 C.1.2.1 dJ6_getChars_ba4f3_106 (by decide) (fun hc => ?_) (fun hc => ?_)
  · have hw := hw.1 hc
    exact s_J6_getChars_ba4f3_118 C hr hll post v5 _ _ _ _ hW hS (tl_sub hl [1] rfl) hw
  · have hw := hw.2 hc
    refine tr_aload_n (k := 2) (x := v2) C hl 0 rfl dJ6_getChars_ba4f3_109 ?_
    refine tr_iinc C hl 1 (v5 + (-1 : Int32)) [(5, .inl (v5 + (-1 : Int32))), (2, .inr (.inr v2)), (6, .inl v6)] rfl (congrArg (fun z => v5 + z) (show Int32.ofInt (-1) = (-1 : Int32) by decide)) (by decide) rfl dJ6_getChars_ba4f3_110 (fun ls hl => ?_)
    refine tr_iload (x := (v5 + (-1 : Int32))) C hl 0 rfl dJ6_getChars_ba4f3_113 ?_
    refine lv_bipush (v := (45 : Int32)) C.1.1 C.1.2.1 dJ6_getChars_ba4f3_115 (by decide) ?_
    refine tr_asB (r := v2) C dJ6_getChars_ba4f3_117 hW hS hw (fun G_117 H locs hw hW hS => ?_)
    exact s_J6_getChars_ba4f3_118 C hr hll post ((v5 + (-1 : Int32))) _ _ _ _ hW hS (tl_sub hl [0] rfl) hw
set_option maxHeartbeats 4000000 in
set_option maxRecDepth 100000 in
theorem s_J6_getChars_ba4f3_22_b {K : tK} (C : tc_B p l s m args meth c D K A wz_J6_getChars_ba4f3 RJ6 cJ6_getChars_ba4f3 7) (hr : meth.sig.returnType = (some .int)) (hll : l.stackTraces = false)  (post : Int32 → tG → Prop) (k22 : Int32 → Option Nat → Int32 → Int32 → tG → Prop) (hk22 : ∀ (v0 : Int32) (v2 : Option Nat) (v5 : Int32) (v6 : Int32) (G : tG) (H : Heap) (locs : List Loc) (ls : Array Slot), tg_W D A s H G → va_S A s.heap H locs → tl ls 7 [(0, .inl v0), (2, .inr (.inr v2)), (5, .inl v5), (6, .inl v6)] → k22 v0 v2 v5 v6 G → W p l e ({ frames := 0, cells := 0, slots := 0, locals := 0 } : Room) s m args below meth c H locs 0 0 (MQ below (tc_Qc D A (retI post)) args s 0 0 A) (F0 m 22 ls [])) : ∀ (v0 : Int32) (v2 : Option Nat) (v5 : Int32) (v6 : Int32) (G : tG) (H : Heap) (locs : List Loc) (ls : Array Slot), tg_W D A s H G → va_S A s.heap H locs → tl ls 7 [(0, .inl v0), (2, .inr (.inr v2)), (5, .inl v5), (6, .inl v6)] → w_J6_getChars_ba4f3_22_b K post k22 v0 v2 v5 v6 G → W p l e ({ frames := 0, cells := 0, slots := 0, locals := 0 } : Room) s m args below meth c H locs 0 0 (MQ below (tc_Qc D A (retI post)) args s 0 0 A) (F0 m 22 ls []) := by
  intro v0 v2 v5 v6 G H locs ls hW hS hl hw
  unfold w_J6_getChars_ba4f3_22_b at hw
  refine tr_iload_n (k := 0) (x := v0) C hl 0 rfl dJ6_getChars_ba4f3_22 ?_
  refine lv_bipush (v := (-100 : Int32)) C.1.1 C.1.2.1 dJ6_getChars_ba4f3_23 (by decide) ?_
  refine lv_icmp_gt (tgt := 72) C.1.1 C.1.2.1 dJ6_getChars_ba4f3_25 (by decide) (fun hc => ?_) (fun hc => ?_)
  · have hw := hw.1 hc
    refine tr_aload_n (k := 2) (x := v2) C hl 1 rfl dJ6_getChars_ba4f3_72 ?_
    refine tr_iinc C hl 2 (v5 + (-1 : Int32)) [(5, .inl (v5 + (-1 : Int32))), (0, .inl v0), (2, .inr (.inr v2)), (6, .inl v6)] rfl (congrArg (fun z => v5 + z) (show Int32.ofInt (-1) = (-1 : Int32) by decide)) (by decide) rfl dJ6_getChars_ba4f3_73 (fun ls hl => ?_)
    refine tr_iload (x := (v5 + (-1 : Int32))) C hl 0 rfl dJ6_getChars_ba4f3_76 ?_
    refine tr_getDO C (zm kw_479) dJ6_getChars_ba4f3_78 hS ?_
    refine tr_iload_n (k := 0) (x := v0) C hl 1 rfl dJ6_getChars_ba4f3_81 ?_
    refine lv_ineg C.1.1 C.1.2.1 dJ6_getChars_ba4f3_82 ?_
    refine tr_alK (r := (some (K.2.2 21))) C dJ6_getChars_ba4f3_83 hS hw (fun x_83 hw => ?_)
    refine tr_asB (r := v2) C dJ6_getChars_ba4f3_84 hW hS hw (fun G_84 H locs hw hW hS => ?_)
    refine tr_iload_n (k := 0) (x := v0) C hl 1 rfl dJ6_getChars_ba4f3_85 ?_
    refine lv_bipush (v := (-9 : Int32)) C.1.1 C.1.2.1 dJ6_getChars_ba4f3_86 (by decide) ?_
    refine lv_icmp_ge (tgt := 104) C.1.1 C.1.2.1 dJ6_getChars_ba4f3_88 (by decide) (fun hc => ?_) (fun hc => ?_)
    · have hw := hw.1 hc
      exact s_J6_getChars_ba4f3_104 C hr hll post v2 ((v5 + (-1 : Int32))) v6 _ _ _ _ hW hS (tl_sub hl [2, 0, 3] rfl) hw
    · have hw := hw.2 hc
      refine tr_aload_n (k := 2) (x := v2) C hl 2 rfl dJ6_getChars_ba4f3_91 ?_
      refine tr_iinc C hl 0 ((v5 + (-1 : Int32)) + (-1 : Int32)) [(5, .inl ((v5 + (-1 : Int32)) + (-1 : Int32))), (0, .inl v0), (2, .inr (.inr v2)), (6, .inl v6)] rfl (congrArg (fun z => (v5 + (-1 : Int32)) + z) (show Int32.ofInt (-1) = (-1 : Int32) by decide)) (by decide) rfl dJ6_getChars_ba4f3_92 (fun ls hl => ?_)
      refine tr_iload (x := ((v5 + (-1 : Int32)) + (-1 : Int32))) C hl 0 rfl dJ6_getChars_ba4f3_95 ?_
      refine tr_getDT C (zm kw_480) dJ6_getChars_ba4f3_97 hS ?_
      refine tr_iload_n (k := 0) (x := v0) C hl 1 rfl dJ6_getChars_ba4f3_100 ?_
      refine lv_ineg C.1.1 C.1.2.1 dJ6_getChars_ba4f3_101 ?_
      refine tr_alK (r := (some (K.2.2 20))) C dJ6_getChars_ba4f3_102 hS hw (fun x_102 hw => ?_)
      refine tr_asB (r := v2) C dJ6_getChars_ba4f3_103 hW hS hw (fun G_103 H locs hw hW hS => ?_)
      exact s_J6_getChars_ba4f3_104 C hr hll post v2 (((v5 + (-1 : Int32)) + (-1 : Int32))) v6 _ _ _ _ hW hS (tl_sub hl [2, 0, 3] rfl) hw
  · have hw := hw.2 hc
    refine tr_iload_n (k := 0) (x := v0) C hl 0 rfl dJ6_getChars_ba4f3_28 ?_
    refine lv_bipush (v := (100 : Int32)) C.1.1 C.1.2.1 dJ6_getChars_ba4f3_29 (by decide) ?_
    refine lv_idiv C.1.1 C.1.2.1 dJ6_getChars_ba4f3_31 (by decide) ?_
    refine tr_istore_n (k := 3) (x := (v0 / (100 : Int32))) C hl [(3, .inl (v0 / (100 : Int32))), (0, .inl v0), (2, .inr (.inr v2)), (5, .inl v5), (6, .inl v6)] (by decide) rfl dJ6_getChars_ba4f3_32 (fun ls hl => ?_)
    refine tr_iload_n (k := 3) (x := (v0 / (100 : Int32))) C hl 0 rfl dJ6_getChars_ba4f3_33 ?_
    refine lv_bipush (v := (100 : Int32)) C.1.1 C.1.2.1 dJ6_getChars_ba4f3_34 (by decide) ?_
    refine lv_imul C.1.1 C.1.2.1 dJ6_getChars_ba4f3_36 ?_
    refine tr_iload_n (k := 0) (x := v0) C hl 1 rfl dJ6_getChars_ba4f3_37 ?_
    refine lv_isub C.1.1 C.1.2.1 dJ6_getChars_ba4f3_38 ?_
    refine tr_istore (x := (((v0 / (100 : Int32)) * (100 : Int32)) - v0)) C hl [(4, .inl (((v0 / (100 : Int32)) * (100 : Int32)) - v0)), (3, .inl (v0 / (100 : Int32))), (0, .inl v0), (2, .inr (.inr v2)), (5, .inl v5), (6, .inl v6)] (by decide) rfl dJ6_getChars_ba4f3_39 (fun ls hl => ?_)
    refine tr_iload_n (k := 3) (x := (v0 / (100 : Int32))) C hl 1 rfl dJ6_getChars_ba4f3_41 ?_
    refine tr_istore_n (k := 0) (x := (v0 / (100 : Int32))) C hl [(0, .inl (v0 / (100 : Int32))), (4, .inl (((v0 / (100 : Int32)) * (100 : Int32)) - v0)), (3, .inl (v0 / (100 : Int32))), (2, .inr (.inr v2)), (5, .inl v5), (6, .inl v6)] (by decide) rfl dJ6_getChars_ba4f3_42 (fun ls hl => ?_)
    refine tr_aload_n (k := 2) (x := v2) C hl 3 rfl dJ6_getChars_ba4f3_43 ?_
    refine tr_iinc C hl 4 (v5 + (-1 : Int32)) [(5, .inl (v5 + (-1 : Int32))), (0, .inl (v0 / (100 : Int32))), (4, .inl (((v0 / (100 : Int32)) * (100 : Int32)) - v0)), (3, .inl (v0 / (100 : Int32))), (2, .inr (.inr v2)), (6, .inl v6)] rfl (congrArg (fun z => v5 + z) (show Int32.ofInt (-1) = (-1 : Int32) by decide)) (by decide) rfl dJ6_getChars_ba4f3_44 (fun ls hl => ?_)
    refine tr_iload (x := (v5 + (-1 : Int32))) C hl 0 rfl dJ6_getChars_ba4f3_47 ?_
    refine tr_getDO C (zm kw_479) dJ6_getChars_ba4f3_49 hS ?_
    refine tr_iload (x := (((v0 / (100 : Int32)) * (100 : Int32)) - v0)) C hl 2 rfl dJ6_getChars_ba4f3_52 ?_
    refine tr_alK (r := (some (K.2.2 21))) C dJ6_getChars_ba4f3_54 hS hw (fun x_54 hw => ?_)
    refine tr_asB (r := v2) C dJ6_getChars_ba4f3_55 hW hS hw (fun G_55 H locs hw hW hS => ?_)
    refine tr_aload_n (k := 2) (x := v2) C hl 4 rfl dJ6_getChars_ba4f3_56 ?_
    refine tr_iinc C hl 0 ((v5 + (-1 : Int32)) + (-1 : Int32)) [(5, .inl ((v5 + (-1 : Int32)) + (-1 : Int32))), (0, .inl (v0 / (100 : Int32))), (4, .inl (((v0 / (100 : Int32)) * (100 : Int32)) - v0)), (3, .inl (v0 / (100 : Int32))), (2, .inr (.inr v2)), (6, .inl v6)] rfl (congrArg (fun z => (v5 + (-1 : Int32)) + z) (show Int32.ofInt (-1) = (-1 : Int32) by decide)) (by decide) rfl dJ6_getChars_ba4f3_57 (fun ls hl => ?_)
    refine tr_iload (x := ((v5 + (-1 : Int32)) + (-1 : Int32))) C hl 0 rfl dJ6_getChars_ba4f3_60 ?_
    refine tr_getDT C (zm kw_480) dJ6_getChars_ba4f3_62 hS ?_
    refine tr_iload (x := (((v0 / (100 : Int32)) * (100 : Int32)) - v0)) C hl 2 rfl dJ6_getChars_ba4f3_65 ?_
    refine tr_alK (r := (some (K.2.2 20))) C dJ6_getChars_ba4f3_67 hS hw (fun x_67 hw => ?_)
    refine tr_asB (r := v2) C dJ6_getChars_ba4f3_68 hW hS hw (fun G_68 H locs hw hW hS => ?_)
    refine lv_goto (tgt := 22) C.1.1 C.1.2.1 dJ6_getChars_ba4f3_69 (by decide) ?_
    exact hk22 ((v0 / (100 : Int32))) v2 (((v5 + (-1 : Int32)) + (-1 : Int32))) v6 _ _ _ _ hW hS (tl_sub hl [1, 4, 0, 5] rfl) hw
set_option maxHeartbeats 4000000 in
set_option maxRecDepth 100000 in
theorem s_J6_getChars_ba4f3_22 {K : tK} (C : tc_B p l s m args meth c D K A wz_J6_getChars_ba4f3 RJ6 cJ6_getChars_ba4f3 7) (hr : meth.sig.returnType = (some .int)) (hll : l.stackTraces = false)  (post : Int32 → tG → Prop) : ∀ (n : Nat) (v0 : Int32) (v2 : Option Nat) (v5 : Int32) (v6 : Int32) (G : tG) (H : Heap) (locs : List Loc) (ls : Array Slot), tg_W D A s H G → va_S A s.heap H locs → tl ls 7 [(0, .inl v0), (2, .inr (.inr v2)), (5, .inl v5), (6, .inl v6)] → w_J6_getChars_ba4f3_22 K post n v0 v2 v5 v6 G → W p l e ({ frames := 0, cells := 0, slots := 0, locals := 0 } : Room) s m args below meth c H locs 0 0 (MQ below (tc_Qc D A (retI post)) args s 0 0 A) (F0 m 22 ls []) := by
  intro n
  induction n with
  | zero =>
    intro v0 v2 v5 v6 G H locs ls hW hS hl hw
    exact hw.elim
  | succ n ih => exact s_J6_getChars_ba4f3_22_b C hr hll post _ ih
set_option maxHeartbeats 4000000 in
set_option maxRecDepth 100000 in
theorem s_J6_getChars_ba4f3_12 {K : tK} (C : tc_B p l s m args meth c D K A wz_J6_getChars_ba4f3 RJ6 cJ6_getChars_ba4f3 7) (hr : meth.sig.returnType = (some .int)) (hll : l.stackTraces = false)  (post : Int32 → tG → Prop) : ∀ (v0 : Int32) (v2 : Option Nat) (v5 : Int32) (u0 : Int32) (G : tG) (H : Heap) (locs : List Loc) (ls : Array Slot), tg_W D A s H G → va_S A s.heap H locs → tl ls 7 [(0, .inl v0), (2, .inr (.inr v2)), (5, .inl v5)] → w_J6_getChars_ba4f3_12 K post v0 v2 v5 u0 G → W p l e ({ frames := 0, cells := 0, slots := 0, locals := 0 } : Room) s m args below meth c H locs 0 0 (MQ below (tc_Qc D A (retI post)) args s 0 0 A) (F0 m 12 ls [.int u0]) := by
  intro v0 v2 v5 u0 G H locs ls hW hS hl hw
  unfold w_J6_getChars_ba4f3_12 at hw
  refine tr_istore (x := u0) C hl [(6, .inl u0), (0, .inl v0), (2, .inr (.inr v2)), (5, .inl v5)] (by decide) rfl dJ6_getChars_ba4f3_12 (fun ls hl => ?_)
  refine tr_iload (x := u0) C hl 0 rfl dJ6_getChars_ba4f3_14 ?_
  refine lv_if_ne (tgt := 22) C.1.1 C.1.2.1 dJ6_getChars_ba4f3_16 (by decide) (fun hc => ?_) (fun hc => ?_)
  · have hw := hw.1 hc
    obtain ⟨n22, hw⟩ := hw
    exact s_J6_getChars_ba4f3_22 C hr hll post n22 v0 v2 v5 u0 _ _ _ _ hW hS (tl_sub hl [1, 2, 3, 0] rfl) hw
  · have hw := hw.2 hc
    refine tr_iload_n (k := 0) (x := v0) C hl 1 rfl dJ6_getChars_ba4f3_19 ?_
    refine lv_ineg C.1.1 C.1.2.1 dJ6_getChars_ba4f3_20 ?_
    refine tr_istore_n (k := 0) (x := (-v0)) C hl [(0, .inl (-v0)), (6, .inl u0), (2, .inr (.inr v2)), (5, .inl v5)] (by decide) rfl dJ6_getChars_ba4f3_21 (fun ls hl => ?_)
    obtain ⟨n22, hw⟩ := hw
    exact s_J6_getChars_ba4f3_22 C hr hll post n22 ((-v0)) v2 v5 u0 _ _ _ _ hW hS (tl_sub hl [0, 2, 3, 1] rfl) hw
set_option maxHeartbeats 4000000 in
set_option maxRecDepth 100000 in
theorem s_J6_getChars_ba4f3 {K : tK} (C : tc_B p l s m args meth c D K A wz_J6_getChars_ba4f3 RJ6 cJ6_getChars_ba4f3 7) (hr : meth.sig.returnType = (some .int)) (hll : l.stackTraces = false)  (post : Int32 → tG → Prop) (v0 : Int32) (v1 : Int32) (v2 : Option Nat) : ∀ (G : tG) (H : Heap) (locs : List Loc) (ls : Array Slot), tg_W D A s H G → va_S A s.heap H locs → tl ls 7 [(0, .inl v0), (1, .inl v1), (2, .inr (.inr v2))] → w_J6_getChars_ba4f3 K post v0 v1 v2 G → W p l e ({ frames := 0, cells := 0, slots := 0, locals := 0 } : Room) s m args below meth c H locs 0 0 (MQ below (tc_Qc D A (retI post)) args s 0 0 A) (F0 m 0 ls []) := by
  intro G H locs ls hW hS hl hw
  unfold w_J6_getChars_ba4f3 at hw
  refine tr_iload_n (k := 1) (x := v1) C hl 1 rfl dJ6_getChars_ba4f3_0 ?_
  refine tr_istore (x := v1) C hl [(5, .inl v1), (0, .inl v0), (1, .inl v1), (2, .inr (.inr v2))] (by decide) rfl dJ6_getChars_ba4f3_1 (fun ls hl => ?_)
  refine tr_iload_n (k := 0) (x := v0) C hl 1 rfl dJ6_getChars_ba4f3_3 ?_
  refine lv_if_ge (tgt := 11) C.1.1 C.1.2.1 dJ6_getChars_ba4f3_4 (by decide) (fun hc => ?_) (fun hc => ?_)
  · have hw := hw.1 hc
    refine lv_iconst (v := (0 : Int32)) C.1.1 C.1.2.1 dJ6_getChars_ba4f3_11 (by decide) ?_
    exact s_J6_getChars_ba4f3_12 C hr hll post v0 v2 v1 ((0 : Int32)) _ _ _ _ hW hS (tl_sub hl [1, 3, 0] rfl) hw
  · have hw := hw.2 hc
    refine lv_iconst (v := (1 : Int32)) C.1.1 C.1.2.1 dJ6_getChars_ba4f3_7 (by decide) ?_
    refine lv_goto (tgt := 12) C.1.1 C.1.2.1 dJ6_getChars_ba4f3_8 (by decide) ?_
    exact s_J6_getChars_ba4f3_12 C hr hll post v0 v2 v1 ((1 : Int32)) _ _ _ _ hW hS (tl_sub hl [1, 3, 0] rfl) hw
end Z_J6_getChars_ba4f3
set_option maxHeartbeats 4000000 in
set_option maxRecDepth 100000 in
theorem c_J6_getChars_ba4f3 (l : Launch) (hll : l.stackTraces = false) (K : tK) (post : Int32 → tG → Prop) (v0 : Int32) (v1 : Int32) (v2 : Option Nat) : Ct l yJ6_getChars_ba4f3 wz_J6_getChars_ba4f3 ({ frames := 0, cells := 0, slots := 0, locals := 0 } : Room) 0 0 [.int v0, .int v1, va_rf v2] K (retI post) (fun G => w_J6_getChars_ba4f3 K post v0 v1 v2 G) := by
  refine tc_of (cc := cJ6_getChars_ba4f3) (maxL := 7) (ret := (some .int)) (own := RJ6) (plainFor_of_name (by decide)) rfl rfl hll [.inl v0, .inl v1, .inr (.inr v2)] rfl (Nat.le_of_ble_eq_true rfl) ?_
  intro p e s m args below meth c D A G ls C hr hn ht hl hW hS hw
  exact s_J6_getChars_ba4f3 C hr hll post v0 v1 v2 _ _ _ _ hW hS hl hw

/-! J5_append_c97b9 -/
def wz_J5_append_c97b9 : List Cond := Cond.code yJ5_append_c97b9 cJ5_append_c97b9 4 (some (.object "java/lang/AbstractStringBuilder")) :: w0
section Z_J5_append_c97b9
variable {p : Program} {l : Launch} {e : Env} {s : State} {m : MethodId} {args : Array Value} {below : List Frame} {meth : Method} {c : Code} {D : va_G} {A : Nat → Prop}
set_option maxHeartbeats 4000000 in
set_option maxRecDepth 100000 in
theorem s_J5_append_c97b9 {K : tK} (C : tc_B p l s m args meth c D K A wz_J5_append_c97b9 RJ5 cJ5_append_c97b9 4) (hr : meth.sig.returnType = (some (.object "java/lang/AbstractStringBuilder"))) (hll : l.stackTraces = false)  (MC MS : Nat) (post : Option Nat → tG → Prop) (v0 : Option Nat) (v1 : Int32) : ∀ (G : tG) (H : Heap) (locs : List Loc) (ls : Array Slot), tg_W D A s H G → va_S A s.heap H locs → tl ls 4 [(0, .inr (.inr v0)), (1, .inl v1)] → w_J5_append_c97b9 K MC MS post v0 v1 G → W p l e ({ frames := 4, cells := MC, slots := MS, locals := 91 } : Room) s m args below meth c H locs 0 0 (MQ below (tc_Qc D A (retR post)) args s MC MS A) (F0 m 0 ls []) := by
  intro G H locs ls hW hS hl hw
  unfold w_J5_append_c97b9 at hw
  refine tr_aload_n (k := 0) (x := v0) C hl 0 rfl dJ5_append_c97b9_0 ?_
  refine tr_gfI (C0 := RJ4) (T := TJ4) (N := 4) (ci := 1) (ref := "java/lang/AbstractStringBuilder") (k := 3) (r := v0) C (zh hw_J4) rfl (by decide) (zm kw_407) rfl dJ5_append_c97b9_1 hW hw (fun x_1 hw => ?_)
  refine tr_istore_n (k := 2) (x := x_1) C hl [(2, .inl x_1), (0, .inr (.inr v0)), (1, .inl v1)] (by decide) rfl dJ5_append_c97b9_4 (fun ls hl => ?_)
  refine tr_iload_n (k := 2) (x := x_1) C hl 0 rfl dJ5_append_c97b9_5 ?_
  refine tr_iload_n (k := 1) (x := v1) C hl 2 rfl dJ5_append_c97b9_6 ?_
  refine tr_backI (tr_runS (As := [.int v1]) C hl.1 (c_J6_stringSize_0f7a4 l hll K _ v1) (va_cwS 1 C.1.2.2.2.2 (gi_S (zm kw_482) (zm kw_483) (zm kw_329) (zm kw_481)) rfl rfl rfl (by decide +kernel) ⟨(Nat.le_of_ble_eq_true rfl), (Nat.le_of_ble_eq_true rfl)⟩) rfl dJ5_append_c97b9_7 ⟨(show 0 + 0 ≤ MC by omega), (show 0 + 0 ≤ MS by omega)⟩ [.inl x_1] rfl (Nat.le_of_ble_eq_true rfl) rfl hW hS hw) hS (fun x_7 G_7 H locs hw hW hS => ?_)
  refine lv_iadd C.1.1 C.1.2.1 dJ5_append_c97b9_10 ?_
  refine tr_istore_n (k := 3) (x := (x_1 + x_7)) C hl [(3, .inl (x_1 + x_7)), (2, .inl x_1), (0, .inr (.inr v0)), (1, .inl v1)] (by decide) rfl dJ5_append_c97b9_11 (fun ls hl => ?_)
  refine tr_aload_n (k := 0) (x := v0) C hl 2 rfl dJ5_append_c97b9_12 ?_
  refine tr_iload_n (k := 3) (x := (x_1 + x_7)) C hl 0 rfl dJ5_append_c97b9_13 ?_
  obtain ⟨mc_14, ms_14, hb14, hd14, hw⟩ := hw
  refine tr_backV (tr_runU (r := v0) (As := [.int ((x_1 + x_7))]) C hl.1 (c_J5_ensureCapacityInternal_d00df l hll K mc_14 ms_14 _ v0 ((x_1 + x_7))) (va_cwU 1 C.1.2.2.2.2 (gi_U (zm kw_485) (zm kw_486) (zm kw_487) (zm kw_488) (zm kw_404) (zm kw_484)) rfl rfl rfl rfl (by decide +kernel) ⟨(Nat.le_of_ble_eq_true rfl), (Nat.le_of_ble_eq_true rfl)⟩) rfl rfl dJ5_append_c97b9_14 ⟨hb14, hd14⟩ [] rfl (Nat.le_of_ble_eq_true rfl) rfl hW hS hw) hS (fun G_14 H locs hw hW hS => ?_)
  refine tr_aload_n (k := 0) (x := v0) C hl 2 rfl dJ5_append_c97b9_17 ?_
  refine tr_backI (tr_runU (r := v0) (As := []) C hl.1 (c_J5_isLatin1_aae02 l hll K _ v0) (va_cwU 0 C.1.2.2.2.2 (gi_U (zm kw_489) (zm kw_450) (zm kw_451) (zm kw_452) (zm kw_404) (zm kw_448)) rfl rfl rfl rfl (by decide +kernel) ⟨(Nat.le_of_ble_eq_true rfl), (Nat.le_of_ble_eq_true rfl)⟩) rfl rfl dJ5_append_c97b9_18 ⟨(show (0 + mc_14) + 0 ≤ MC by omega), (show (0 + ms_14) + 0 ≤ MS by omega)⟩ [] rfl (Nat.le_of_ble_eq_true rfl) rfl hW hS hw) hS (fun x_18 G_18 H locs hw hW hS => ?_)
  refine lv_if_eq (tgt := 37) C.1.1 C.1.2.1 dJ5_append_c97b9_21 (by decide) (fun hc => ?_) (fun hc => ?_)
  · have hw := hw.1 hc
    refine tr_iload_n (k := 1) (x := v1) C hl 3 rfl dJ5_append_c97b9_37 ?_
    refine tr_iload_n (k := 2) (x := x_1) C hl 1 rfl dJ5_append_c97b9_38 ?_
    refine tr_iload_n (k := 3) (x := (x_1 + x_7)) C hl 0 rfl dJ5_append_c97b9_39 ?_
    refine tr_aload_n (k := 0) (x := v0) C hl 2 rfl dJ5_append_c97b9_40 ?_
    refine tr_gfR (C0 := RJ4) (T := TJ4) (N := 4) (ci := 1) (ref := "java/lang/AbstractStringBuilder") (k := 0) (r := v0) C (zh hw_J4) rfl (by decide) (zm kw_401) rfl dJ5_append_c97b9_41 hW hw (fun x_41 hw => ?_)
    exact hw.elim
  · have hw := hw.2 hc
    refine tr_iload_n (k := 1) (x := v1) C hl 3 rfl dJ5_append_c97b9_24 ?_
    refine tr_iload_n (k := 3) (x := (x_1 + x_7)) C hl 0 rfl dJ5_append_c97b9_25 ?_
    refine tr_aload_n (k := 0) (x := v0) C hl 2 rfl dJ5_append_c97b9_26 ?_
    refine tr_gfR (C0 := RJ4) (T := TJ4) (N := 4) (ci := 1) (ref := "java/lang/AbstractStringBuilder") (k := 0) (r := v0) C (zh hw_J4) rfl (by decide) (zm kw_401) rfl dJ5_append_c97b9_27 hW hw (fun x_27 hw => ?_)
    refine tr_backI (tr_runS (As := [.int v1, .int ((x_1 + x_7)), va_rf x_27]) C hl.1 (c_J6_getChars_ba4f3 l hll K _ v1 ((x_1 + x_7)) x_27) (va_cwS 3 C.1.2.2.2.2 (gi_S (zm kw_491) (zm kw_492) (zm kw_329) (zm kw_490)) rfl rfl rfl (by decide +kernel) ⟨(Nat.le_of_ble_eq_true rfl), (Nat.le_of_ble_eq_true rfl)⟩) rfl dJ5_append_c97b9_30 ⟨(show (0 + mc_14) + 0 ≤ MC by omega), (show (0 + ms_14) + 0 ≤ MS by omega)⟩ [] rfl (Nat.le_of_ble_eq_true rfl) rfl hW hS hw) hS (fun x_30 G_30 H locs hw hW hS => ?_)
    refine lv_pop C.1.1 C.1.2.1 dJ5_append_c97b9_33 rfl ?_
    refine lv_goto (tgt := 48) C.1.1 C.1.2.1 dJ5_append_c97b9_34 (by decide) ?_
    refine tr_aload_n (k := 0) (x := v0) C hl 2 rfl dJ5_append_c97b9_48 ?_
    refine tr_iload_n (k := 3) (x := (x_1 + x_7)) C hl 0 rfl dJ5_append_c97b9_49 ?_
    refine tr_pf (C0 := RJ4) (T := TJ4) (N := 4) (ci := 1) (ref := "java/lang/AbstractStringBuilder") (k := 3) (ty := .int) (v := .int ((x_1 + x_7))) (r := v0) C (zh hw_J4) tyJ4 tyJ4_ok nmJ4 rfl (by decide) (zm kw_407) rfl rfl (by decide +kernel) rfl rfl dJ5_append_c97b9_50 hW hS hw (fun G_50 H locs hw hW hS => ?_)
    refine tr_aload_n (k := 0) (x := v0) C hl 2 rfl dJ5_append_c97b9_53 ?_
    exact tr_aret (x := v0) C hr (Or.inl ⟨_, rfl⟩) dJ5_append_c97b9_54 (show (0 + mc_14) ≤ MC by omega) (show (0 + ms_14) ≤ MS by omega) hW hS hw
end Z_J5_append_c97b9
set_option maxHeartbeats 4000000 in
set_option maxRecDepth 100000 in
theorem c_J5_append_c97b9 (l : Launch) (hll : l.stackTraces = false) (K : tK) (MC MS : Nat) (post : Option Nat → tG → Prop) (v0 : Option Nat) (v1 : Int32) : Ct l yJ5_append_c97b9 wz_J5_append_c97b9 ({ frames := 4, cells := MC, slots := MS, locals := 91 } : Room) MC MS [va_rf v0, .int v1] K (retR post) (fun G => w_J5_append_c97b9 K MC MS post v0 v1 G) := by
  refine tc_of (cc := cJ5_append_c97b9) (maxL := 4) (ret := (some (.object "java/lang/AbstractStringBuilder"))) (own := RJ5) (plainFor_of_name (by decide)) rfl rfl hll [.inr (.inr v0), .inl v1] rfl (Nat.le_of_ble_eq_true rfl) ?_
  intro p e s m args below meth c D A G ls C hr hn ht hl hW hS hw
  exact s_J5_append_c97b9 C hr hll MC MS post v0 v1 _ _ _ _ hW hS hl hw

/-! J4_append_bf812 -/
def wz_J4_append_bf812 : List Cond := Cond.code yJ4_append_bf812 cJ4_append_bf812 2 (some (.object "java/lang/StringBuilder")) :: w0
section Z_J4_append_bf812
variable {p : Program} {l : Launch} {e : Env} {s : State} {m : MethodId} {args : Array Value} {below : List Frame} {meth : Method} {c : Code} {D : va_G} {A : Nat → Prop}
set_option maxHeartbeats 4000000 in
set_option maxRecDepth 100000 in
theorem s_J4_append_bf812 {K : tK} (C : tc_B p l s m args meth c D K A wz_J4_append_bf812 RJ4 cJ4_append_bf812 2) (hr : meth.sig.returnType = (some (.object "java/lang/StringBuilder"))) (hll : l.stackTraces = false)  (MC MS : Nat) (post : Option Nat → tG → Prop) (v0 : Option Nat) (v1 : Int32) : ∀ (G : tG) (H : Heap) (locs : List Loc) (ls : Array Slot), tg_W D A s H G → va_S A s.heap H locs → tl ls 2 [(0, .inr (.inr v0)), (1, .inl v1)] → w_J4_append_bf812 K MC MS post v0 v1 G → W p l e ({ frames := 5, cells := MC, slots := MS, locals := 114 } : Room) s m args below meth c H locs 0 0 (MQ below (tc_Qc D A (retR post)) args s MC MS A) (F0 m 0 ls []) := by
  intro G H locs ls hW hS hl hw
  unfold w_J4_append_bf812 at hw
  refine tr_aload_n (k := 0) (x := v0) C hl 0 rfl dJ4_append_bf812_0 ?_
  refine tr_iload_n (k := 1) (x := v1) C hl 1 rfl dJ4_append_bf812_1 ?_
  obtain ⟨mc_2, ms_2, hb2, hd2, hw⟩ := hw
  refine tr_backR (tr_runSU (C0 := RJ4) (T := TJ4) (ci := 1) (r := v0) (As := [.int v1]) C hl.1 (c_J5_append_c97b9 l hll K mc_2 ms_2 _ v0 v1) (va_cwSU 1 C.1.2.2.2.2 (gi_SU (zm kw_494) (zm kw_495) (zm kw_411) (zm kw_496) (zm kw_404) (zm kw_493)) rfl rfl rfl (by decide +kernel) ⟨(Nat.le_of_ble_eq_true rfl), (Nat.le_of_ble_eq_true rfl)⟩) rfl rfl dJ4_append_bf812_2 ⟨hb2, hd2⟩ [] rfl (Nat.le_of_ble_eq_true rfl) rfl hW hS hw) hS (fun x_2 G_2 H locs hw hW hS => ?_)
  refine lv_pop C.1.1 C.1.2.1 dJ4_append_bf812_5 (va_rf_cat _) ?_
  refine tr_aload_n (k := 0) (x := v0) C hl 0 rfl dJ4_append_bf812_6 ?_
  exact tr_aret (x := v0) C hr (Or.inl ⟨_, rfl⟩) dJ4_append_bf812_7 (show (0 + mc_2) ≤ MC by omega) (show (0 + ms_2) ≤ MS by omega) hW hS hw
end Z_J4_append_bf812
set_option maxHeartbeats 4000000 in
set_option maxRecDepth 100000 in
theorem c_J4_append_bf812 (l : Launch) (hll : l.stackTraces = false) (K : tK) (MC MS : Nat) (post : Option Nat → tG → Prop) (v0 : Option Nat) (v1 : Int32) : Ct l yJ4_append_bf812 wz_J4_append_bf812 ({ frames := 5, cells := MC, slots := MS, locals := 114 } : Room) MC MS [va_rf v0, .int v1] K (retR post) (fun G => w_J4_append_bf812 K MC MS post v0 v1 G) := by
  refine tc_of (cc := cJ4_append_bf812) (maxL := 2) (ret := (some (.object "java/lang/StringBuilder"))) (own := RJ4) (plainFor_of_name (by decide)) rfl rfl hll [.inr (.inr v0), .inl v1] rfl (Nat.le_of_ble_eq_true rfl) ?_
  intro p e s m args below meth c D A G ls C hr hn ht hl hW hS hw
  exact s_J4_append_bf812 C hr hll MC MS post v0 v1 _ _ _ _ hW hS hl hw

/-! J1_canEncode_fc78d -/
def wz_J1_canEncode_fc78d : List Cond := Cond.code yJ1_canEncode_fc78d cJ1_canEncode_fc78d 1 (some .boolean) :: w0
section Z_J1_canEncode_fc78d
variable {p : Program} {l : Launch} {e : Env} {s : State} {m : MethodId} {args : Array Value} {below : List Frame} {meth : Method} {c : Code} {D : va_G} {A : Nat → Prop}
set_option maxHeartbeats 4000000 in
set_option maxRecDepth 100000 in
theorem s_J1_canEncode_fc78d_12 {K : tK} (C : tc_B p l s m args meth c D K A wz_J1_canEncode_fc78d RJ1 cJ1_canEncode_fc78d 1) (hr : meth.sig.returnType = (some .boolean)) (hll : l.stackTraces = false)  (post : Int32 → tG → Prop) : ∀ (u0 : Int32) (G : tG) (H : Heap) (locs : List Loc) (ls : Array Slot), tg_W D A s H G → va_S A s.heap H locs → tl ls 1 [] → w_J1_canEncode_fc78d_12 K post u0 G → W p l e ({ frames := 0, cells := 0, slots := 0, locals := 0 } : Room) s m args below meth c H locs 0 0 (MQ below (tc_Qc D A (retI post)) args s 0 0 A) (F0 m 12 ls [.int u0]) := by
  intro u0 G H locs ls hW hS hl hw
  unfold w_J1_canEncode_fc78d_12 at hw
  exact tr_zret C hr dJ1_canEncode_fc78d_12 (Nat.le_of_ble_eq_true rfl) (Nat.le_of_ble_eq_true rfl) hW hS hw
set_option maxHeartbeats 4000000 in
set_option maxRecDepth 100000 in
theorem s_J1_canEncode_fc78d {K : tK} (C : tc_B p l s m args meth c D K A wz_J1_canEncode_fc78d RJ1 cJ1_canEncode_fc78d 1) (hr : meth.sig.returnType = (some .boolean)) (hll : l.stackTraces = false)  (post : Int32 → tG → Prop) (v0 : Int32) : ∀ (G : tG) (H : Heap) (locs : List Loc) (ls : Array Slot), tg_W D A s H G → va_S A s.heap H locs → tl ls 1 [(0, .inl v0)] → w_J1_canEncode_fc78d K post v0 G → W p l e ({ frames := 0, cells := 0, slots := 0, locals := 0 } : Room) s m args below meth c H locs 0 0 (MQ below (tc_Qc D A (retI post)) args s 0 0 A) (F0 m 0 ls []) := by
  intro G H locs ls hW hS hl hw
  unfold w_J1_canEncode_fc78d at hw
  refine tr_iload_n (k := 0) (x := v0) C hl 0 rfl dJ1_canEncode_fc78d_0 ?_
  refine lv_sipush (v := (255 : Int32)) C.1.1 C.1.2.1 dJ1_canEncode_fc78d_1 (by decide) ?_
  refine lv_icmp_gt (tgt := 11) C.1.1 C.1.2.1 dJ1_canEncode_fc78d_4 (by decide) (fun hc => ?_) (fun hc => ?_)
  · have hw := hw.1 hc
    refine lv_iconst (v := (0 : Int32)) C.1.1 C.1.2.1 dJ1_canEncode_fc78d_11 (by decide) ?_
    exact s_J1_canEncode_fc78d_12 C hr hll post ((0 : Int32)) _ _ _ _ hW hS (tl_sub hl [] rfl) hw
  · have hw := hw.2 hc
    refine lv_iconst (v := (1 : Int32)) C.1.1 C.1.2.1 dJ1_canEncode_fc78d_7 (by decide) ?_
    refine lv_goto (tgt := 12) C.1.1 C.1.2.1 dJ1_canEncode_fc78d_8 (by decide) ?_
    exact s_J1_canEncode_fc78d_12 C hr hll post ((1 : Int32)) _ _ _ _ hW hS (tl_sub hl [] rfl) hw
end Z_J1_canEncode_fc78d
set_option maxHeartbeats 4000000 in
set_option maxRecDepth 100000 in
theorem c_J1_canEncode_fc78d (l : Launch) (hll : l.stackTraces = false) (K : tK) (post : Int32 → tG → Prop) (v0 : Int32) : Ct l yJ1_canEncode_fc78d wz_J1_canEncode_fc78d ({ frames := 0, cells := 0, slots := 0, locals := 0 } : Room) 0 0 [.int v0] K (retI post) (fun G => w_J1_canEncode_fc78d K post v0 G) := by
  refine tc_of (cc := cJ1_canEncode_fc78d) (maxL := 1) (ret := (some .boolean)) (own := RJ1) (plainFor_of_name (by decide)) rfl rfl hll [.inl v0] rfl (Nat.le_of_ble_eq_true rfl) ?_
  intro p e s m args below meth c D A G ls C hr hn ht hl hW hS hw
  exact s_J1_canEncode_fc78d C hr hll post v0 _ _ _ _ hW hS hl hw

/-! J5_append_3fe6f -/
def wz_J5_append_3fe6f : List Cond := Cond.code yJ5_append_3fe6f cJ5_append_3fe6f 2 (some (.object "java/lang/AbstractStringBuilder")) :: w0
section Z_J5_append_3fe6f
variable {p : Program} {l : Launch} {e : Env} {s : State} {m : MethodId} {args : Array Value} {below : List Frame} {meth : Method} {c : Code} {D : va_G} {A : Nat → Prop}
set_option maxHeartbeats 4000000 in
set_option maxRecDepth 100000 in
theorem s_J5_append_3fe6f_45 {K : tK} (C : tc_B p l s m args meth c D K A wz_J5_append_3fe6f RJ5 cJ5_append_3fe6f 2) (hr : meth.sig.returnType = (some (.object "java/lang/AbstractStringBuilder"))) (hll : l.stackTraces = false)  (MC MS : Nat) (post : Option Nat → tG → Prop) : ∀ (nc ns : Nat) (v0 : Option Nat) (v1 : Int32) (G : tG) (H : Heap) (locs : List Loc) (ls : Array Slot), nc ≤ MC ∧ ns ≤ MS → tg_W D A s H G → va_S A s.heap H locs → tl ls 2 [(0, .inr (.inr v0)), (1, .inl v1)] → w_J5_append_3fe6f_45 K MC MS post nc ns v0 v1 G → W p l e ({ frames := 4, cells := MC, slots := MS, locals := 91 } : Room) s m args below meth c H locs nc ns (MQ below (tc_Qc D A (retR post)) args s MC MS A) (F0 m 45 ls []) := by
  intro nc ns v0 v1 G H locs ls hcn hW hS hl hw
  unfold w_J5_append_3fe6f_45 at hw
  refine tr_aload_n (k := 0) (x := v0) C hl 0 rfl dJ5_append_3fe6f_45 ?_
  refine tr_backI (tr_runU (r := v0) (As := []) C hl.1 (c_J5_isLatin1_aae02 l hll K _ v0) (va_cwU 0 C.1.2.2.2.2 (gi_U (zm kw_489) (zm kw_450) (zm kw_451) (zm kw_452) (zm kw_404) (zm kw_448)) rfl rfl rfl rfl (by decide +kernel) ⟨(Nat.le_of_ble_eq_true rfl), (Nat.le_of_ble_eq_true rfl)⟩) rfl rfl dJ5_append_3fe6f_46 ⟨(show nc + 0 ≤ MC by omega), (show ns + 0 ≤ MS by omega)⟩ [] rfl (Nat.le_of_ble_eq_true rfl) rfl hW hS hw) hS (fun x_46 G_46 H locs hw hW hS => ?_)
  refine lv_if_eq (tgt := 56) C.1.1 C.1.2.1 dJ5_append_3fe6f_49 (by decide) (fun hc => ?_) (fun hc => ?_)
  · have hw := hw.1 hc
    refine tr_aload_n (k := 0) (x := v0) C hl 0 rfl dJ5_append_3fe6f_56 ?_
    refine tr_gfR (C0 := RJ4) (T := TJ4) (N := 4) (ci := 1) (ref := "java/lang/AbstractStringBuilder") (k := 0) (r := v0) C (zh hw_J4) rfl (by decide) (zm kw_401) rfl dJ5_append_3fe6f_57 hW hw (fun x_57 hw => ?_)
    refine tr_aload_n (k := 0) (x := v0) C hl 0 rfl dJ5_append_3fe6f_60 ?_
    refine lv_dup C.1.1 C.1.2.1 dJ5_append_3fe6f_61 (va_rf_cat _) ?_
    refine tr_gfI (C0 := RJ4) (T := TJ4) (N := 4) (ci := 1) (ref := "java/lang/AbstractStringBuilder") (k := 3) (r := v0) C (zh hw_J4) rfl (by decide) (zm kw_407) rfl dJ5_append_3fe6f_62 hW hw (fun x_62 hw => ?_)
    refine lv_dup_x1 C.1.1 C.1.2.1 dJ5_append_3fe6f_65 rfl (va_rf_cat _) ?_
    refine lv_iconst (v := (1 : Int32)) C.1.1 C.1.2.1 dJ5_append_3fe6f_66 (by decide) ?_
    refine lv_iadd C.1.1 C.1.2.1 dJ5_append_3fe6f_67 ?_
    refine tr_pf (C0 := RJ4) (T := TJ4) (N := 4) (ci := 1) (ref := "java/lang/AbstractStringBuilder") (k := 3) (ty := .int) (v := .int ((x_62 + (1 : Int32)))) (r := v0) C (zh hw_J4) tyJ4 tyJ4_ok nmJ4 rfl (by decide) (zm kw_407) rfl rfl (by decide +kernel) rfl rfl dJ5_append_3fe6f_68 hW hS hw (fun G_68 H locs hw hW hS => ?_)
    refine tr_iload_n (k := 1) (x := v1) C hl 1 rfl dJ5_append_3fe6f_71 ?_
    exact hw.elim
  · have hw := hw.2 hc
    refine tr_aload_n (k := 0) (x := v0) C hl 0 rfl dJ5_append_3fe6f_52 ?_
    exact hw.elim
set_option maxHeartbeats 4000000 in
set_option maxRecDepth 100000 in
theorem s_J5_append_3fe6f {K : tK} (C : tc_B p l s m args meth c D K A wz_J5_append_3fe6f RJ5 cJ5_append_3fe6f 2) (hr : meth.sig.returnType = (some (.object "java/lang/AbstractStringBuilder"))) (hll : l.stackTraces = false)  (MC MS : Nat) (post : Option Nat → tG → Prop) (v0 : Option Nat) (v1 : Int32) : ∀ (G : tG) (H : Heap) (locs : List Loc) (ls : Array Slot), tg_W D A s H G → va_S A s.heap H locs → tl ls 2 [(0, .inr (.inr v0)), (1, .inl v1)] → w_J5_append_3fe6f K MC MS post v0 v1 G → W p l e ({ frames := 4, cells := MC, slots := MS, locals := 91 } : Room) s m args below meth c H locs 0 0 (MQ below (tc_Qc D A (retR post)) args s MC MS A) (F0 m 0 ls []) := by
  intro G H locs ls hW hS hl hw
  unfold w_J5_append_3fe6f at hw
  refine tr_aload_n (k := 0) (x := v0) C hl 0 rfl dJ5_append_3fe6f_0 ?_
  refine tr_aload_n (k := 0) (x := v0) C hl 0 rfl dJ5_append_3fe6f_1 ?_
  refine tr_gfI (C0 := RJ4) (T := TJ4) (N := 4) (ci := 1) (ref := "java/lang/AbstractStringBuilder") (k := 3) (r := v0) C (zh hw_J4) rfl (by decide) (zm kw_407) rfl dJ5_append_3fe6f_2 hW hw (fun x_2 hw => ?_)
  refine lv_iconst (v := (1 : Int32)) C.1.1 C.1.2.1 dJ5_append_3fe6f_5 (by decide) ?_
  refine lv_iadd C.1.1 C.1.2.1 dJ5_append_3fe6f_6 ?_
  obtain ⟨mc_7, ms_7, hb7, hd7, hw⟩ := hw
  refine tr_backV (tr_runU (r := v0) (As := [.int ((x_2 + (1 : Int32)))]) C hl.1 (c_J5_ensureCapacityInternal_d00df l hll K mc_7 ms_7 _ v0 ((x_2 + (1 : Int32)))) (va_cwU 1 C.1.2.2.2.2 (gi_U (zm kw_485) (zm kw_486) (zm kw_487) (zm kw_488) (zm kw_404) (zm kw_484)) rfl rfl rfl rfl (by decide +kernel) ⟨(Nat.le_of_ble_eq_true rfl), (Nat.le_of_ble_eq_true rfl)⟩) rfl rfl dJ5_append_3fe6f_7 ⟨hb7, hd7⟩ [] rfl (Nat.le_of_ble_eq_true rfl) rfl hW hS hw) hS (fun G_7 H locs hw hW hS => ?_)
  refine tr_aload_n (k := 0) (x := v0) C hl 0 rfl dJ5_append_3fe6f_10 ?_
  refine tr_backI (tr_runU (r := v0) (As := []) C hl.1 (c_J5_isLatin1_aae02 l hll K _ v0) (va_cwU 0 C.1.2.2.2.2 (gi_U (zm kw_489) (zm kw_450) (zm kw_451) (zm kw_452) (zm kw_404) (zm kw_448)) rfl rfl rfl rfl (by decide +kernel) ⟨(Nat.le_of_ble_eq_true rfl), (Nat.le_of_ble_eq_true rfl)⟩) rfl rfl dJ5_append_3fe6f_11 ⟨(show (0 + mc_7) + 0 ≤ MC by omega), (show (0 + ms_7) + 0 ≤ MS by omega)⟩ [] rfl (Nat.le_of_ble_eq_true rfl) rfl hW hS hw) hS (fun x_11 G_11 H locs hw hW hS => ?_)
  refine lv_if_eq (tgt := 45) C.1.1 C.1.2.1 dJ5_append_3fe6f_14 (by decide) (fun hc => ?_) (fun hc => ?_)
  · have hw := hw.1 hc
    exact s_J5_append_3fe6f_45 C hr hll MC MS post ((0 + mc_7)) ((0 + ms_7)) v0 v1 _ _ _ _ (show (0 + mc_7) ≤ MC ∧ (0 + ms_7) ≤ MS by omega) hW hS (tl_sub hl [0, 1] rfl) hw
  · have hw := hw.2 hc
    refine tr_iload_n (k := 1) (x := v1) C hl 1 rfl dJ5_append_3fe6f_17 ?_
    refine tr_backI (tr_runS (As := [.int v1]) C hl.1 (c_J1_canEncode_fc78d l hll K _ v1) (va_cwS 1 C.1.2.2.2.2 (gi_S (zm kw_498) (zm kw_499) (zm kw_500) (zm kw_497)) rfl rfl rfl (by decide +kernel) ⟨(Nat.le_of_ble_eq_true rfl), (Nat.le_of_ble_eq_true rfl)⟩) rfl dJ5_append_3fe6f_18 ⟨(show (0 + mc_7) + 0 ≤ MC by omega), (show (0 + ms_7) + 0 ≤ MS by omega)⟩ [] rfl (Nat.le_of_ble_eq_true rfl) rfl hW hS hw) hS (fun x_18 G_18 H locs hw hW hS => ?_)
    refine lv_if_eq (tgt := 45) C.1.1 C.1.2.1 dJ5_append_3fe6f_21 (by decide) (fun hc => ?_) (fun hc => ?_)
    · have hw := hw.1 hc
      exact s_J5_append_3fe6f_45 C hr hll MC MS post ((0 + mc_7)) ((0 + ms_7)) v0 v1 _ _ _ _ (show (0 + mc_7) ≤ MC ∧ (0 + ms_7) ≤ MS by omega) hW hS (tl_sub hl [0, 1] rfl) hw
    · have hw := hw.2 hc
      refine tr_aload_n (k := 0) (x := v0) C hl 0 rfl dJ5_append_3fe6f_24 ?_
      refine tr_gfR (C0 := RJ4) (T := TJ4) (N := 4) (ci := 1) (ref := "java/lang/AbstractStringBuilder") (k := 0) (r := v0) C (zh hw_J4) rfl (by decide) (zm kw_401) rfl dJ5_append_3fe6f_25 hW hw (fun x_25 hw => ?_)
      refine tr_aload_n (k := 0) (x := v0) C hl 0 rfl dJ5_append_3fe6f_28 ?_
      refine lv_dup C.1.1 C.1.2.1 dJ5_append_3fe6f_29 (va_rf_cat _) ?_
      refine tr_gfI (C0 := RJ4) (T := TJ4) (N := 4) (ci := 1) (ref := "java/lang/AbstractStringBuilder") (k := 3) (r := v0) C (zh hw_J4) rfl (by decide) (zm kw_407) rfl dJ5_append_3fe6f_30 hW hw (fun x_30 hw => ?_)
      refine lv_dup_x1 C.1.1 C.1.2.1 dJ5_append_3fe6f_33 rfl (va_rf_cat _) ?_
      refine lv_iconst (v := (1 : Int32)) C.1.1 C.1.2.1 dJ5_append_3fe6f_34 (by decide) ?_
      refine lv_iadd C.1.1 C.1.2.1 dJ5_append_3fe6f_35 ?_
      refine tr_pf (C0 := RJ4) (T := TJ4) (N := 4) (ci := 1) (ref := "java/lang/AbstractStringBuilder") (k := 3) (ty := .int) (v := .int ((x_30 + (1 : Int32)))) (r := v0) C (zh hw_J4) tyJ4 tyJ4_ok nmJ4 rfl (by decide) (zm kw_407) rfl rfl (by decide +kernel) rfl rfl dJ5_append_3fe6f_36 hW hS hw (fun G_36 H locs hw hW hS => ?_)
      refine tr_iload_n (k := 1) (x := v1) C hl 1 rfl dJ5_append_3fe6f_39 ?_
      refine lv_i2b (v := ((v1).toInt8.toInt32)) C.1.1 C.1.2.1 dJ5_append_3fe6f_40 rfl ?_
      refine tr_asB (r := x_25) C dJ5_append_3fe6f_41 hW hS hw (fun G_41 H locs hw hW hS => ?_)
      refine lv_goto (tgt := 75) C.1.1 C.1.2.1 dJ5_append_3fe6f_42 (by decide) ?_
      refine tr_aload_n (k := 0) (x := v0) C hl 0 rfl dJ5_append_3fe6f_75 ?_
      exact tr_aret (x := v0) C hr (Or.inl ⟨_, rfl⟩) dJ5_append_3fe6f_76 (show (0 + mc_7) ≤ MC by omega) (show (0 + ms_7) ≤ MS by omega) hW hS hw
end Z_J5_append_3fe6f
set_option maxHeartbeats 4000000 in
set_option maxRecDepth 100000 in
theorem c_J5_append_3fe6f (l : Launch) (hll : l.stackTraces = false) (K : tK) (MC MS : Nat) (post : Option Nat → tG → Prop) (v0 : Option Nat) (v1 : Int32) : Ct l yJ5_append_3fe6f wz_J5_append_3fe6f ({ frames := 4, cells := MC, slots := MS, locals := 91 } : Room) MC MS [va_rf v0, .int v1] K (retR post) (fun G => w_J5_append_3fe6f K MC MS post v0 v1 G) := by
  refine tc_of (cc := cJ5_append_3fe6f) (maxL := 2) (ret := (some (.object "java/lang/AbstractStringBuilder"))) (own := RJ5) (plainFor_of_name (by decide)) rfl rfl hll [.inr (.inr v0), .inl v1] rfl (Nat.le_of_ble_eq_true rfl) ?_
  intro p e s m args below meth c D A G ls C hr hn ht hl hW hS hw
  exact s_J5_append_3fe6f C hr hll MC MS post v0 v1 _ _ _ _ hW hS hl hw

/-! J4_append_cf468 -/
def wz_J4_append_cf468 : List Cond := Cond.code yJ4_append_cf468 cJ4_append_cf468 2 (some (.object "java/lang/StringBuilder")) :: w0
section Z_J4_append_cf468
variable {p : Program} {l : Launch} {e : Env} {s : State} {m : MethodId} {args : Array Value} {below : List Frame} {meth : Method} {c : Code} {D : va_G} {A : Nat → Prop}
set_option maxHeartbeats 4000000 in
set_option maxRecDepth 100000 in
theorem s_J4_append_cf468 {K : tK} (C : tc_B p l s m args meth c D K A wz_J4_append_cf468 RJ4 cJ4_append_cf468 2) (hr : meth.sig.returnType = (some (.object "java/lang/StringBuilder"))) (hll : l.stackTraces = false)  (MC MS : Nat) (post : Option Nat → tG → Prop) (v0 : Option Nat) (v1 : Int32) : ∀ (G : tG) (H : Heap) (locs : List Loc) (ls : Array Slot), tg_W D A s H G → va_S A s.heap H locs → tl ls 2 [(0, .inr (.inr v0)), (1, .inl v1)] → w_J4_append_cf468 K MC MS post v0 v1 G → W p l e ({ frames := 5, cells := MC, slots := MS, locals := 112 } : Room) s m args below meth c H locs 0 0 (MQ below (tc_Qc D A (retR post)) args s MC MS A) (F0 m 0 ls []) := by
  intro G H locs ls hW hS hl hw
  unfold w_J4_append_cf468 at hw
  refine tr_aload_n (k := 0) (x := v0) C hl 0 rfl dJ4_append_cf468_0 ?_
  refine tr_iload_n (k := 1) (x := v1) C hl 1 rfl dJ4_append_cf468_1 ?_
  obtain ⟨mc_2, ms_2, hb2, hd2, hw⟩ := hw
  refine tr_backR (tr_runSU (C0 := RJ4) (T := TJ4) (ci := 1) (r := v0) (As := [.int v1]) C hl.1 (c_J5_append_3fe6f l hll K mc_2 ms_2 _ v0 v1) (va_cwSU 1 C.1.2.2.2.2 (gi_SU (zm kw_502) (zm kw_503) (zm kw_411) (zm kw_504) (zm kw_404) (zm kw_501)) rfl rfl rfl (by decide +kernel) ⟨(Nat.le_of_ble_eq_true rfl), (Nat.le_of_ble_eq_true rfl)⟩) rfl rfl dJ4_append_cf468_2 ⟨hb2, hd2⟩ [] rfl (Nat.le_of_ble_eq_true rfl) rfl hW hS hw) hS (fun x_2 G_2 H locs hw hW hS => ?_)
  refine lv_pop C.1.1 C.1.2.1 dJ4_append_cf468_5 (va_rf_cat _) ?_
  refine tr_aload_n (k := 0) (x := v0) C hl 0 rfl dJ4_append_cf468_6 ?_
  exact tr_aret (x := v0) C hr (Or.inl ⟨_, rfl⟩) dJ4_append_cf468_7 (show (0 + mc_2) ≤ MC by omega) (show (0 + ms_2) ≤ MS by omega) hW hS hw
end Z_J4_append_cf468
set_option maxHeartbeats 4000000 in
set_option maxRecDepth 100000 in
theorem c_J4_append_cf468 (l : Launch) (hll : l.stackTraces = false) (K : tK) (MC MS : Nat) (post : Option Nat → tG → Prop) (v0 : Option Nat) (v1 : Int32) : Ct l yJ4_append_cf468 wz_J4_append_cf468 ({ frames := 5, cells := MC, slots := MS, locals := 112 } : Room) MC MS [va_rf v0, .int v1] K (retR post) (fun G => w_J4_append_cf468 K MC MS post v0 v1 G) := by
  refine tc_of (cc := cJ4_append_cf468) (maxL := 2) (ret := (some (.object "java/lang/StringBuilder"))) (own := RJ4) (plainFor_of_name (by decide)) rfl rfl hll [.inr (.inr v0), .inl v1] rfl (Nat.le_of_ble_eq_true rfl) ?_
  intro p e s m args below meth c D A G ls C hr hn ht hl hW hS hw
  exact s_J4_append_cf468 C hr hll MC MS post v0 v1 _ _ _ _ hW hS hl hw

/-! X1_appendValue -/
def wz_X1_appendValue : List Cond := Cond.code yX1_appendValue cX1_appendValue 2 none :: w0
section Z_X1_appendValue
variable {p : Program} {l : Launch} {e : Env} {s : State} {m : MethodId} {args : Array Value} {below : List Frame} {meth : Method} {c : Code} {D : va_G} {A : Nat → Prop}
set_option maxHeartbeats 4000000 in
set_option maxRecDepth 100000 in
theorem s_X1_appendValue_23 {K : tK} (C : tc_B p l s m args meth c D K A wz_X1_appendValue RX1 cX1_appendValue 2) (hr : meth.sig.returnType = none) (hll : l.stackTraces = false)  (MC MS : Nat) (post : tG → Prop) : ∀ (nc ns : Nat) (G : tG) (H : Heap) (locs : List Loc) (ls : Array Slot), nc ≤ MC ∧ ns ≤ MS → tg_W D A s H G → va_S A s.heap H locs → tl ls 2 [] → w_X1_appendValue_23 K MC MS post nc ns G → W p l e ({ frames := 6, cells := MC, slots := MS, locals := 135 } : Room) s m args below meth c H locs nc ns (MQ below (tc_Qc D A (retV post)) args s MC MS A) (F0 m 23 ls []) := by
  intro nc ns G H locs ls hcn hW hS hl hw
  unfold w_X1_appendValue_23 at hw
  exact tr_vret C hr dX1_appendValue_23 (show nc ≤ MC by omega) (show ns ≤ MS by omega) hW hS hw
set_option maxHeartbeats 4000000 in
set_option maxRecDepth 100000 in
theorem s_X1_appendValue {K : tK} (C : tc_B p l s m args meth c D K A wz_X1_appendValue RX1 cX1_appendValue 2) (hr : meth.sig.returnType = none) (hll : l.stackTraces = false)  (MC MS : Nat) (post : tG → Prop) (v0 : Option Nat) (v1 : Int32) : ∀ (G : tG) (H : Heap) (locs : List Loc) (ls : Array Slot), tg_W D A s H G → va_S A s.heap H locs → tl ls 2 [(0, .inr (.inr v0)), (1, .inl v1)] → w_X1_appendValue K MC MS post v0 v1 G → W p l e ({ frames := 6, cells := MC, slots := MS, locals := 135 } : Room) s m args below meth c H locs 0 0 (MQ below (tc_Qc D A (retV post)) args s MC MS A) (F0 m 0 ls []) := by
  intro G H locs ls hW hS hl hw
  unfold w_X1_appendValue at hw
  refine tr_iload_n (k := 1) (x := v1) C hl 1 rfl dX1_appendValue_0 ?_
  refine lv_sipush (v := (-1000 : Int32)) C.1.1 C.1.2.1 dX1_appendValue_1 (by decide) ?_
  refine lv_icmp_ne (tgt := 17) C.1.1 C.1.2.1 dX1_appendValue_4 (by decide) (fun hc => ?_) (fun hc => ?_)
  · have hw := hw.1 hc
    refine tr_aload_n (k := 0) (x := v0) C hl 0 rfl dX1_appendValue_17 ?_
    refine tr_iload_n (k := 1) (x := v1) C hl 1 rfl dX1_appendValue_18 ?_
    obtain ⟨mc_19, ms_19, hb19, hd19, hw⟩ := hw
    refine tr_backR (tr_runV (r := v0) (As := [.int v1]) C hl.1 (c_J4_append_bf812 l hll K mc_19 ms_19 _ v0 v1) (cwV 1 C.1.2.2.2.2 (gi_V (zm kw_506) (zm kw_507) (zm kw_508) (zm kw_447) (zm kw_505)) rfl rfl rfl (by decide +kernel) ⟨(Nat.le_of_ble_eq_true rfl), (Nat.le_of_ble_eq_true rfl)⟩) rfl rfl dX1_appendValue_19 ⟨hb19, hd19⟩ [] rfl (Nat.le_of_ble_eq_true rfl) rfl hW hS hw) hS (fun x_19 G_19 H locs hw hW hS => ?_)
    refine lv_pop C.1.1 C.1.2.1 dX1_appendValue_22 (va_rf_cat _) ?_
    exact s_X1_appendValue_23 C hr hll MC MS post ((0 + mc_19)) ((0 + ms_19)) _ _ _ _ (show (0 + mc_19) ≤ MC ∧ (0 + ms_19) ≤ MS by omega) hW hS (tl_sub hl [] rfl) hw
  · have hw := hw.2 hc
    refine tr_aload_n (k := 0) (x := v0) C hl 0 rfl dX1_appendValue_7 ?_
    refine lv_bipush (v := (45 : Int32)) C.1.1 C.1.2.1 dX1_appendValue_8 (by decide) ?_
    obtain ⟨mc_10, ms_10, hb10, hd10, hw⟩ := hw
    refine tr_backR (tr_runV (r := v0) (As := [.int ((45 : Int32))]) C hl.1 (c_J4_append_cf468 l hll K mc_10 ms_10 _ v0 ((45 : Int32))) (cwV 1 C.1.2.2.2.2 (gi_V (zm kw_510) (zm kw_511) (zm kw_512) (zm kw_447) (zm kw_509)) rfl rfl rfl (by decide +kernel) ⟨(Nat.le_of_ble_eq_true rfl), (Nat.le_of_ble_eq_true rfl)⟩) rfl rfl dX1_appendValue_10 ⟨hb10, hd10⟩ [] rfl (Nat.le_of_ble_eq_true rfl) rfl hW hS hw) hS (fun x_10 G_10 H locs hw hW hS => ?_)
    refine lv_pop C.1.1 C.1.2.1 dX1_appendValue_13 (va_rf_cat _) ?_
    refine lv_goto (tgt := 23) C.1.1 C.1.2.1 dX1_appendValue_14 (by decide) ?_
    exact s_X1_appendValue_23 C hr hll MC MS post ((0 + mc_10)) ((0 + ms_10)) _ _ _ _ (show (0 + mc_10) ≤ MC ∧ (0 + ms_10) ≤ MS by omega) hW hS (tl_sub hl [] rfl) hw
end Z_X1_appendValue
set_option maxHeartbeats 4000000 in
set_option maxRecDepth 100000 in
theorem c_X1_appendValue (l : Launch) (hll : l.stackTraces = false) (K : tK) (MC MS : Nat) (post : tG → Prop) (v0 : Option Nat) (v1 : Int32) : Ct l yX1_appendValue wz_X1_appendValue ({ frames := 6, cells := MC, slots := MS, locals := 135 } : Room) MC MS [va_rf v0, .int v1] K (retV post) (fun G => w_X1_appendValue K MC MS post v0 v1 G) := by
  refine tc_of (cc := cX1_appendValue) (maxL := 2) (ret := none) (own := RX1) (plainFor_of_name (by decide)) rfl rfl hll [.inr (.inr v0), .inl v1] rfl (Nat.le_of_ble_eq_true rfl) ?_
  intro p e s m args below meth c D A G ls C hr hn ht hl hW hS hw
  exact s_X1_appendValue C hr hll MC MS post v0 v1 _ _ _ _ hW hS hl hw

/-! X1_textOf -/
def wz_X1_textOf : List Cond := Cond.code yX1_textOf cX1_textOf 8 (some (.object "java/lang/String")) :: w0
section Z_X1_textOf
variable {p : Program} {l : Launch} {e : Env} {s : State} {m : MethodId} {args : Array Value} {below : List Frame} {meth : Method} {c : Code} {D : va_G} {A : Nat → Prop}
set_option maxHeartbeats 4000000 in
set_option maxRecDepth 100000 in
theorem s_X1_textOf_61 {K : tK} (C : tc_B p l s m args meth c D K A wz_X1_textOf RX1 cX1_textOf 8) (hr : meth.sig.returnType = (some (.object "java/lang/String"))) (hll : l.stackTraces = false)  (MC MS : Nat) (post : Option Nat → tG → Prop) (k12 : Nat → Nat → Option Nat → Int32 → Int32 → Int32 → Int32 → Option Nat → Int32 → tG → Prop) (hk12 : ∀ (nc ns : Nat) (v0 : Option Nat) (v1 : Int32) (v2 : Int32) (v3 : Int32) (v4 : Int32) (v5 : Option Nat) (v6 : Int32) (G : tG) (H : Heap) (locs : List Loc) (ls : Array Slot), nc ≤ MC ∧ ns ≤ MS → tg_W D A s H G → va_S A s.heap H locs → tl ls 8 [(0, .inr (.inr v0)), (1, .inl v1), (2, .inl v2), (3, .inl v3), (4, .inl v4), (5, .inr (.inr v5)), (6, .inl v6)] → k12 nc ns v0 v1 v2 v3 v4 v5 v6 G → W p l e ({ frames := 7, cells := MC, slots := MS, locals := 156 } : Room) s m args below meth c H locs nc ns (MQ below (tc_Qc D A (retR post)) args s MC MS A) (F0 m 12 ls [])) : ∀ (nc ns : Nat) (v0 : Option Nat) (v1 : Int32) (v2 : Int32) (v3 : Int32) (v4 : Int32) (v5 : Option Nat) (v6 : Int32) (v7 : Int32) (G : tG) (H : Heap) (locs : List Loc) (ls : Array Slot), nc ≤ MC ∧ ns ≤ MS → tg_W D A s H G → va_S A s.heap H locs → tl ls 8 [(0, .inr (.inr v0)), (1, .inl v1), (2, .inl v2), (3, .inl v3), (4, .inl v4), (5, .inr (.inr v5)), (6, .inl v6), (7, .inl v7)] → w_X1_textOf_61 K MC MS post k12 nc ns v0 v1 v2 v3 v4 v5 v6 v7 G → W p l e ({ frames := 7, cells := MC, slots := MS, locals := 156 } : Room) s m args below meth c H locs nc ns (MQ below (tc_Qc D A (retR post)) args s MC MS A) (F0 m 61 ls []) := by
  intro nc ns v0 v1 v2 v3 v4 v5 v6 v7 G H locs ls hcn hW hS hl hw
  unfold w_X1_textOf_61 at hw
  refine tr_aload (x := v5) C hl 5 rfl dX1_textOf_61 ?_
  refine tr_aload_n (k := 0) (x := v0) C hl 0 rfl dX1_textOf_63 ?_
  refine tr_iload (x := v7) C hl 7 rfl dX1_textOf_64 ?_
  refine tr_backI (tr_runV (r := v0) (As := [.int v7]) C hl.1 (c_X0_read l hll K _ v0 v7) (cwV 1 C.1.2.2.2.2 (gi_V (zm kw_27) (zm kw_28) (zm kw_29) (zm kw_10) (zm kw_26)) rfl rfl rfl (by decide +kernel) ⟨(Nat.le_of_ble_eq_true rfl), (Nat.le_of_ble_eq_true rfl)⟩) rfl rfl dX1_textOf_66 ⟨(show nc + 0 ≤ MC by omega), (show ns + 0 ≤ MS by omega)⟩ [.inr (.inr v5)] rfl (Nat.le_of_ble_eq_true rfl) rfl hW hS hw) hS (fun x_66 G_66 H locs hw hW hS => ?_)
  obtain ⟨mc_69, ms_69, hb69, hd69, hw⟩ := hw
  refine tr_backV (tr_runS (As := [va_rf v5, .int x_66]) C hl.1 (c_X1_appendValue l hll K mc_69 ms_69 _ v5 x_66) (va_cwS 2 C.1.2.2.2.2 (gi_S (zm kw_514) (zm kw_515) (zm kw_33) (zm kw_513)) rfl rfl rfl (by decide +kernel) ⟨(Nat.le_of_ble_eq_true rfl), (Nat.le_of_ble_eq_true rfl)⟩) rfl dX1_textOf_69 ⟨hb69, hd69⟩ [] rfl (Nat.le_of_ble_eq_true rfl) rfl hW hS hw) hS (fun G_69 H locs hw hW hS => ?_)
  refine tr_iinc C hl 6 (v6 + (1 : Int32)) [(6, .inl (v6 + (1 : Int32))), (0, .inr (.inr v0)), (1, .inl v1), (2, .inl v2), (3, .inl v3), (4, .inl v4), (5, .inr (.inr v5)), (7, .inl v7)] rfl rfl (by decide) rfl dX1_textOf_72 (fun ls hl => ?_)
  refine lv_goto (tgt := 12) C.1.1 C.1.2.1 dX1_textOf_75 (by decide) ?_
  exact hk12 ((nc + mc_69)) ((ns + ms_69)) v0 v1 v2 v3 v4 v5 ((v6 + (1 : Int32))) _ _ _ _ (show (nc + mc_69) ≤ MC ∧ (ns + ms_69) ≤ MS by omega) hW hS (tl_sub hl [1, 2, 3, 4, 5, 6, 0] rfl) hw
set_option maxHeartbeats 4000000 in
set_option maxRecDepth 100000 in
theorem s_X1_textOf_40 {K : tK} (C : tc_B p l s m args meth c D K A wz_X1_textOf RX1 cX1_textOf 8) (hr : meth.sig.returnType = (some (.object "java/lang/String"))) (hll : l.stackTraces = false)  (MC MS : Nat) (post : Option Nat → tG → Prop) (k12 : Nat → Nat → Option Nat → Int32 → Int32 → Int32 → Int32 → Option Nat → Int32 → tG → Prop) (hk12 : ∀ (nc ns : Nat) (v0 : Option Nat) (v1 : Int32) (v2 : Int32) (v3 : Int32) (v4 : Int32) (v5 : Option Nat) (v6 : Int32) (G : tG) (H : Heap) (locs : List Loc) (ls : Array Slot), nc ≤ MC ∧ ns ≤ MS → tg_W D A s H G → va_S A s.heap H locs → tl ls 8 [(0, .inr (.inr v0)), (1, .inl v1), (2, .inl v2), (3, .inl v3), (4, .inl v4), (5, .inr (.inr v5)), (6, .inl v6)] → k12 nc ns v0 v1 v2 v3 v4 v5 v6 G → W p l e ({ frames := 7, cells := MC, slots := MS, locals := 156 } : Room) s m args below meth c H locs nc ns (MQ below (tc_Qc D A (retR post)) args s MC MS A) (F0 m 12 ls [])) : ∀ (nc ns : Nat) (v0 : Option Nat) (v1 : Int32) (v2 : Int32) (v3 : Int32) (v4 : Int32) (v5 : Option Nat) (v6 : Int32) (v7 : Int32) (G : tG) (H : Heap) (locs : List Loc) (ls : Array Slot), nc ≤ MC ∧ ns ≤ MS → tg_W D A s H G → va_S A s.heap H locs → tl ls 8 [(0, .inr (.inr v0)), (1, .inl v1), (2, .inl v2), (3, .inl v3), (4, .inl v4), (5, .inr (.inr v5)), (6, .inl v6), (7, .inl v7)] → w_X1_textOf_40 K MC MS post k12 nc ns v0 v1 v2 v3 v4 v5 v6 v7 G → W p l e ({ frames := 7, cells := MC, slots := MS, locals := 156 } : Room) s m args below meth c H locs nc ns (MQ below (tc_Qc D A (retR post)) args s MC MS A) (F0 m 40 ls []) := by
  intro nc ns v0 v1 v2 v3 v4 v5 v6 v7 G H locs ls hcn hW hS hl hw
  unfold w_X1_textOf_40 at hw
  refine tr_iload (x := v4) C hl 4 rfl dX1_textOf_40 ?_
  refine lv_if_eq (tgt := 61) C.1.1 C.1.2.1 dX1_textOf_42 (by decide) (fun hc => ?_) (fun hc => ?_)
  · have hw := hw.1 hc
    exact s_X1_textOf_61 C hr hll MC MS post k12 hk12 nc ns v0 v1 v2 v3 v4 v5 v6 v7 _ _ _ _ (show nc ≤ MC ∧ ns ≤ MS by omega) hW hS (tl_sub hl [0, 1, 2, 3, 4, 5, 6, 7] rfl) hw
  · have hw := hw.2 hc
    refine tr_aload (x := v5) C hl 5 rfl dX1_textOf_45 ?_
    refine tr_iload (x := v7) C hl 7 rfl dX1_textOf_47 ?_
    obtain ⟨mc_49, ms_49, hb49, hd49, hw⟩ := hw
    refine tr_backR (tr_runV (r := v5) (As := [.int v7]) C hl.1 (c_J4_append_bf812 l hll K mc_49 ms_49 _ v5 v7) (cwV 1 C.1.2.2.2.2 (gi_V (zm kw_506) (zm kw_507) (zm kw_508) (zm kw_447) (zm kw_505)) rfl rfl rfl (by decide +kernel) ⟨(Nat.le_of_ble_eq_true rfl), (Nat.le_of_ble_eq_true rfl)⟩) rfl rfl dX1_textOf_49 ⟨hb49, hd49⟩ [] rfl (Nat.le_of_ble_eq_true rfl) rfl hW hS hw) hS (fun x_49 G_49 H locs hw hW hS => ?_)
    refine lv_pop C.1.1 C.1.2.1 dX1_textOf_52 (va_rf_cat _) ?_
    refine tr_aload (x := v5) C hl 5 rfl dX1_textOf_53 ?_
    refine lv_bipush (v := (58 : Int32)) C.1.1 C.1.2.1 dX1_textOf_55 (by decide) ?_
    obtain ⟨mc_57, ms_57, hb57, hd57, hw⟩ := hw
    refine tr_backR (tr_runV (r := v5) (As := [.int ((58 : Int32))]) C hl.1 (c_J4_append_cf468 l hll K mc_57 ms_57 _ v5 ((58 : Int32))) (cwV 1 C.1.2.2.2.2 (gi_V (zm kw_510) (zm kw_511) (zm kw_512) (zm kw_447) (zm kw_509)) rfl rfl rfl (by decide +kernel) ⟨(Nat.le_of_ble_eq_true rfl), (Nat.le_of_ble_eq_true rfl)⟩) rfl rfl dX1_textOf_57 ⟨hb57, hd57⟩ [] rfl (Nat.le_of_ble_eq_true rfl) rfl hW hS hw) hS (fun x_57 G_57 H locs hw hW hS => ?_)
    refine lv_pop C.1.1 C.1.2.1 dX1_textOf_60 (va_rf_cat _) ?_
    exact s_X1_textOf_61 C hr hll MC MS post k12 hk12 (((nc + mc_49) + mc_57)) (((ns + ms_49) + ms_57)) v0 v1 v2 v3 v4 v5 v6 v7 _ _ _ _ (show ((nc + mc_49) + mc_57) ≤ MC ∧ ((ns + ms_49) + ms_57) ≤ MS by omega) hW hS (tl_sub hl [0, 1, 2, 3, 4, 5, 6, 7] rfl) hw
set_option maxHeartbeats 4000000 in
set_option maxRecDepth 100000 in
theorem s_X1_textOf_12_b {K : tK} (C : tc_B p l s m args meth c D K A wz_X1_textOf RX1 cX1_textOf 8) (hr : meth.sig.returnType = (some (.object "java/lang/String"))) (hll : l.stackTraces = false)  (MC MS : Nat) (post : Option Nat → tG → Prop) (k12 : Nat → Nat → Option Nat → Int32 → Int32 → Int32 → Int32 → Option Nat → Int32 → tG → Prop) (hk12 : ∀ (nc ns : Nat) (v0 : Option Nat) (v1 : Int32) (v2 : Int32) (v3 : Int32) (v4 : Int32) (v5 : Option Nat) (v6 : Int32) (G : tG) (H : Heap) (locs : List Loc) (ls : Array Slot), nc ≤ MC ∧ ns ≤ MS → tg_W D A s H G → va_S A s.heap H locs → tl ls 8 [(0, .inr (.inr v0)), (1, .inl v1), (2, .inl v2), (3, .inl v3), (4, .inl v4), (5, .inr (.inr v5)), (6, .inl v6)] → k12 nc ns v0 v1 v2 v3 v4 v5 v6 G → W p l e ({ frames := 7, cells := MC, slots := MS, locals := 156 } : Room) s m args below meth c H locs nc ns (MQ below (tc_Qc D A (retR post)) args s MC MS A) (F0 m 12 ls [])) : ∀ (nc ns : Nat) (v0 : Option Nat) (v1 : Int32) (v2 : Int32) (v3 : Int32) (v4 : Int32) (v5 : Option Nat) (v6 : Int32) (G : tG) (H : Heap) (locs : List Loc) (ls : Array Slot), nc ≤ MC ∧ ns ≤ MS → tg_W D A s H G → va_S A s.heap H locs → tl ls 8 [(0, .inr (.inr v0)), (1, .inl v1), (2, .inl v2), (3, .inl v3), (4, .inl v4), (5, .inr (.inr v5)), (6, .inl v6)] → w_X1_textOf_12_b K MC MS post k12 nc ns v0 v1 v2 v3 v4 v5 v6 G → W p l e ({ frames := 7, cells := MC, slots := MS, locals := 156 } : Room) s m args below meth c H locs nc ns (MQ below (tc_Qc D A (retR post)) args s MC MS A) (F0 m 12 ls []) := by
  intro nc ns v0 v1 v2 v3 v4 v5 v6 G H locs ls hcn hW hS hl hw
  unfold w_X1_textOf_12_b at hw
  refine tr_iload (x := v6) C hl 6 rfl dX1_textOf_12 ?_
  refine tr_iload_n (k := 2) (x := v2) C hl 2 rfl dX1_textOf_14 ?_
  refine lv_icmp_ge (tgt := 78) C.1.1 C.1.2.1 dX1_textOf_15 (by decide) (fun hc => ?_) (fun hc => ?_)
  · have hw := hw.1 hc
    refine tr_aload (x := v5) C hl 5 rfl dX1_textOf_78 ?_
    obtain ⟨mc_80, ms_80, hb80, hd80, hw⟩ := hw
    refine tr_backR (tr_runV (r := v5) (As := []) C hl.1 (c_J4_toString_0e30d l hll K mc_80 ms_80 _ v5) (cwV 0 C.1.2.2.2.2 (gi_V (zm kw_517) (zm kw_518) (zm kw_519) (zm kw_447) (zm kw_516)) rfl rfl rfl (by decide +kernel) ⟨(Nat.le_of_ble_eq_true rfl), (Nat.le_of_ble_eq_true rfl)⟩) rfl rfl dX1_textOf_80 ⟨hb80, hd80⟩ [] rfl (Nat.le_of_ble_eq_true rfl) rfl hW hS hw) hS (fun x_80 G_80 H locs hw hW hS => ?_)
    exact tr_aret (x := x_80) C hr (Or.inl ⟨_, rfl⟩) dX1_textOf_83 (show (nc + mc_80) ≤ MC by omega) (show (ns + ms_80) ≤ MS by omega) hW hS hw
  · have hw := hw.2 hc
    refine tr_iload_n (k := 1) (x := v1) C hl 1 rfl dX1_textOf_18 ?_
    refine tr_iload (x := v6) C hl 6 rfl dX1_textOf_19 ?_
    refine tr_iload_n (k := 3) (x := v3) C hl 3 rfl dX1_textOf_21 ?_
    refine tr_backI (tr_runS (As := [.int v1, .int v6, .int v3]) C hl.1 (c_X1_placeAfter l hll K _ v1 v6 v3) (va_cwS 3 C.1.2.2.2.2 (gi_S (zm kw_51) (zm kw_52) (zm kw_33) (zm kw_50)) rfl rfl rfl (by decide +kernel) ⟨(Nat.le_of_ble_eq_true rfl), (Nat.le_of_ble_eq_true rfl)⟩) rfl dX1_textOf_22 ⟨(show nc + 0 ≤ MC by omega), (show ns + 0 ≤ MS by omega)⟩ [] rfl (Nat.le_of_ble_eq_true rfl) rfl hW hS hw) hS (fun x_22 G_22 H locs hw hW hS => ?_)
    refine tr_istore (x := x_22) C hl [(7, .inl x_22), (0, .inr (.inr v0)), (1, .inl v1), (2, .inl v2), (3, .inl v3), (4, .inl v4), (5, .inr (.inr v5)), (6, .inl v6)] (by decide) rfl dX1_textOf_25 (fun ls hl => ?_)
    refine tr_iload (x := v6) C hl 7 rfl dX1_textOf_27 ?_
    refine lv_if_le (tgt := 40) C.1.1 C.1.2.1 dX1_textOf_29 (by decide) (fun hc => ?_) (fun hc => ?_)
    · have hw := hw.1 hc
      exact s_X1_textOf_40 C hr hll MC MS post k12 hk12 nc ns v0 v1 v2 v3 v4 v5 v6 x_22 _ _ _ _ (show nc ≤ MC ∧ ns ≤ MS by omega) hW hS (tl_sub hl [1, 2, 3, 4, 5, 6, 7, 0] rfl) hw
    · have hw := hw.2 hc
      refine tr_aload (x := v5) C hl 6 rfl dX1_textOf_32 ?_
      refine lv_bipush (v := (32 : Int32)) C.1.1 C.1.2.1 dX1_textOf_34 (by decide) ?_
      obtain ⟨mc_36, ms_36, hb36, hd36, hw⟩ := hw
      refine tr_backR (tr_runV (r := v5) (As := [.int ((32 : Int32))]) C hl.1 (c_J4_append_cf468 l hll K mc_36 ms_36 _ v5 ((32 : Int32))) (cwV 1 C.1.2.2.2.2 (gi_V (zm kw_510) (zm kw_511) (zm kw_512) (zm kw_447) (zm kw_509)) rfl rfl rfl (by decide +kernel) ⟨(Nat.le_of_ble_eq_true rfl), (Nat.le_of_ble_eq_true rfl)⟩) rfl rfl dX1_textOf_36 ⟨hb36, hd36⟩ [] rfl (Nat.le_of_ble_eq_true rfl) rfl hW hS hw) hS (fun x_36 G_36 H locs hw hW hS => ?_)
      refine lv_pop C.1.1 C.1.2.1 dX1_textOf_39 (va_rf_cat _) ?_
      exact s_X1_textOf_40 C hr hll MC MS post k12 hk12 ((nc + mc_36)) ((ns + ms_36)) v0 v1 v2 v3 v4 v5 v6 x_22 _ _ _ _ (show (nc + mc_36) ≤ MC ∧ (ns + ms_36) ≤ MS by omega) hW hS (tl_sub hl [1, 2, 3, 4, 5, 6, 7, 0] rfl) hw
set_option maxHeartbeats 4000000 in
set_option maxRecDepth 100000 in
theorem s_X1_textOf_12 {K : tK} (C : tc_B p l s m args meth c D K A wz_X1_textOf RX1 cX1_textOf 8) (hr : meth.sig.returnType = (some (.object "java/lang/String"))) (hll : l.stackTraces = false)  (MC MS : Nat) (post : Option Nat → tG → Prop) : ∀ (n : Nat) (nc ns : Nat) (v0 : Option Nat) (v1 : Int32) (v2 : Int32) (v3 : Int32) (v4 : Int32) (v5 : Option Nat) (v6 : Int32) (G : tG) (H : Heap) (locs : List Loc) (ls : Array Slot), nc ≤ MC ∧ ns ≤ MS → tg_W D A s H G → va_S A s.heap H locs → tl ls 8 [(0, .inr (.inr v0)), (1, .inl v1), (2, .inl v2), (3, .inl v3), (4, .inl v4), (5, .inr (.inr v5)), (6, .inl v6)] → w_X1_textOf_12 K MC MS post n nc ns v0 v1 v2 v3 v4 v5 v6 G → W p l e ({ frames := 7, cells := MC, slots := MS, locals := 156 } : Room) s m args below meth c H locs nc ns (MQ below (tc_Qc D A (retR post)) args s MC MS A) (F0 m 12 ls []) := by
  intro n
  induction n with
  | zero =>
    intro nc ns v0 v1 v2 v3 v4 v5 v6 G H locs ls hcn hW hS hl hw
    exact hw.elim
  | succ n ih => exact s_X1_textOf_12_b C hr hll MC MS post _ ih
set_option maxHeartbeats 4000000 in
set_option maxRecDepth 100000 in
theorem s_X1_textOf {K : tK} (C : tc_B p l s m args meth c D K A wz_X1_textOf RX1 cX1_textOf 8) (hr : meth.sig.returnType = (some (.object "java/lang/String"))) (hll : l.stackTraces = false)  (MC MS : Nat) (post : Option Nat → tG → Prop) (v0 : Option Nat) (v1 : Int32) (v2 : Int32) (v3 : Int32) (v4 : Int32) : ∀ (G : tG) (H : Heap) (locs : List Loc) (ls : Array Slot), tg_W D A s H G → va_S A s.heap H locs → tl ls 8 [(0, .inr (.inr v0)), (1, .inl v1), (2, .inl v2), (3, .inl v3), (4, .inl v4)] → w_X1_textOf K MC MS post v0 v1 v2 v3 v4 G → W p l e ({ frames := 7, cells := MC, slots := MS, locals := 156 } : Room) s m args below meth c H locs 0 0 (MQ below (tc_Qc D A (retR post)) args s MC MS A) (F0 m 0 ls []) := by
  intro G H locs ls hW hS hl hw
  unfold w_X1_textOf at hw
  have hq1 := hw.1
  have hw := hw.2
  refine tr_new (C0 := RJ4) (T := TJ4) (N := 4) (ci := 1) (fs := [.null, .int 0, .int 0, .int 0]) C (zh hw_J4) tyJ4 tyJ4_ok (zm kw_520) (zm kw_521) (zm kw_447) rfl df_J4 hq1.1 hq1.2 dX1_textOf_0 hW hS hw (fun r_0 G_0 H hw hW hS => ?_)
  refine lv_dup C.1.1 C.1.2.1 dX1_textOf_3 (va_rf_cat _) ?_
  obtain ⟨mc_4, ms_4, hb4, hd4, hw⟩ := hw
  refine tr_backV (tr_runI (r := r_0) (As := []) C hl.1 (c_J4_init_da8c8 l hll K mc_4 ms_4 _ r_0) (cwI 0 C.1.2.2.2.2 (gi_I  (zm kw_522)) rfl rfl rfl (C.1.2.2.2.2 _ (zm kw_447)) (C.1.2.2.2.2 _ (zm kw_523)) (C.1.2.2.2.2 _ (zm kw_524)) rfl (by decide +kernel) ⟨(Nat.le_of_ble_eq_true rfl), (Nat.le_of_ble_eq_true rfl)⟩) rfl dX1_textOf_4 ⟨hb4, hd4⟩ [.inr (.inr r_0)] rfl (Nat.le_of_ble_eq_true rfl) rfl hW hS hw) hS (fun G_4 H locs hw hW hS => ?_)
  refine tr_astore (x := r_0) C hl [(5, .inr (.inr r_0)), (0, .inr (.inr v0)), (1, .inl v1), (2, .inl v2), (3, .inl v3), (4, .inl v4)] (by decide) rfl dX1_textOf_7 (fun ls hl => ?_)
  refine lv_iconst (v := (0 : Int32)) C.1.1 C.1.2.1 dX1_textOf_9 (by decide) ?_
  refine tr_istore (x := (0 : Int32)) C hl [(6, .inl (0 : Int32)), (5, .inr (.inr r_0)), (0, .inr (.inr v0)), (1, .inl v1), (2, .inl v2), (3, .inl v3), (4, .inl v4)] (by decide) rfl dX1_textOf_10 (fun ls hl => ?_)
  obtain ⟨n12, hw⟩ := hw
  exact s_X1_textOf_12 C hr hll MC MS post n12 (((0 + 1) + mc_4)) (((0 + 4) + ms_4)) v0 v1 v2 v3 v4 r_0 ((0 : Int32)) _ _ _ _ (show ((0 + 1) + mc_4) ≤ MC ∧ ((0 + 4) + ms_4) ≤ MS by omega) hW hS (tl_sub hl [2, 3, 4, 5, 6, 1, 0] rfl) hw
end Z_X1_textOf
set_option maxHeartbeats 4000000 in
set_option maxRecDepth 100000 in
theorem c_X1_textOf (l : Launch) (hll : l.stackTraces = false) (K : tK) (MC MS : Nat) (post : Option Nat → tG → Prop) (v0 : Option Nat) (v1 : Int32) (v2 : Int32) (v3 : Int32) (v4 : Int32) : Ct l yX1_textOf wz_X1_textOf ({ frames := 7, cells := MC, slots := MS, locals := 156 } : Room) MC MS [va_rf v0, .int v1, .int v2, .int v3, .int v4] K (retR post) (fun G => w_X1_textOf K MC MS post v0 v1 v2 v3 v4 G) := by
  refine tc_of (cc := cX1_textOf) (maxL := 8) (ret := (some (.object "java/lang/String"))) (own := RX1) (plainFor_of_name (by decide)) rfl rfl hll [.inr (.inr v0), .inl v1, .inl v2, .inl v3, .inl v4] rfl (Nat.le_of_ble_eq_true rfl) ?_
  intro p e s m args below meth c D A G ls C hr hn ht hl hW hS hw
  exact s_X1_textOf C hr hll MC MS post v0 v1 v2 v3 v4 _ _ _ _ hW hS hl hw

/-! X1_walk -/
def wz_X1_walk : List Cond := Cond.code yX1_walk cX1_walk 7 (some (.object "java/lang/String")) :: w0
section Z_X1_walk
variable {p : Program} {l : Launch} {e : Env} {s : State} {m : MethodId} {args : Array Value} {below : List Frame} {meth : Method} {c : Code} {D : va_G} {A : Nat → Prop}
set_option maxHeartbeats 4000000 in
set_option maxRecDepth 100000 in
theorem s_X1_walk {K : tK} (C : tc_B p l s m args meth c D K A wz_X1_walk RX1 cX1_walk 7) (hr : meth.sig.returnType = (some (.object "java/lang/String"))) (ht : ∀ x ∈ c.exceptionTable.toList, False) (hll : l.stackTraces = false)  (MC MS : Nat) (post : Option Nat → tG → Prop) (postX : String → tG → Prop) (v0 : Option Nat) (v1 : Int32) (v2 : Int32) (v3 : Int32) (v4 : Int32) : ∀ (G : tG) (H : Heap) (locs : List Loc) (ls : Array Slot), tg_W D A s H G → va_S A s.heap H locs → tl ls 7 [(0, .inr (.inr v0)), (1, .inl v1), (2, .inl v2), (3, .inl v3), (4, .inl v4)] → w_X1_walk K MC MS post postX v0 v1 v2 v3 v4 G → W p l e ({ frames := 8, cells := MC, slots := MS, locals := 183 } : Room) s m args below meth c H locs 0 0 (vx_MQ below (tc_Qc D A (retR post)) (tc_XC D A postX) args s MC MS A) (F0 m 0 ls []) := by
  intro G H locs ls hW hS hl hw
  unfold w_X1_walk at hw
  refine tr_aload_n (k := 0) (x := v0) C hl 0 rfl dX1_walk_0 ?_
  refine tr_iload_n (k := 1) (x := v1) C hl 1 rfl dX1_walk_1 ?_
  have hq1 := hw.1
  have hw := hw.2
  refine tx_backR (tx_runV (r := v0) (As := [.int v1]) C hl.1 (c_X1_listAt l hll K _ _ v0 v1) (cwV 1 C.1.2.2.2.2 (gi_V (zm kw_94) (zm kw_95) (zm kw_96) (zm kw_33) (zm kw_93)) rfl rfl rfl (by decide +kernel) ⟨(Nat.le_of_ble_eq_true rfl), (Nat.le_of_ble_eq_true rfl)⟩) rfl rfl dX1_walk_2 ⟨hq1.1, hq1.2⟩ [] rfl (Nat.le_of_ble_eq_true rfl) rfl hW hS hw) hS C.2.1 ht hq1.1 hq1.2 (fun x_2 G_2 H locs hw hW hS => ?_)
  refine tr_astore (x := x_2) C hl [(5, .inr (.inr x_2)), (0, .inr (.inr v0)), (1, .inl v1), (2, .inl v2), (3, .inl v3), (4, .inl v4)] (by decide) rfl dX1_walk_5 (fun ls hl => ?_)
  refine tr_iload_n (k := 2) (x := v2) C hl 3 rfl dX1_walk_7 ?_
  refine lv_iconst (v := (0 : Int32)) C.1.1 C.1.2.1 dX1_walk_8 (by decide) ?_
  refine tr_aload (x := x_2) C hl 0 rfl dX1_walk_9 ?_
  refine tr_gfI (C0 := RX0) (T := TX0) (N := 4) (ci := 2) (ref := "Twinrow$RowList") (k := 3) (r := x_2) C (zh hw_X0) rfl (by decide) (zm kw_34) rfl dX1_walk_11 hW hw (fun x_11 hw => ?_)
  have hq2 := hw.1
  have hw := hw.2
  refine tx_backV (tx_runS (As := [.int v2, .int ((0 : Int32)), .int x_11]) C hl.1 (c_X1_checkNumber l hll K _ _ v2 ((0 : Int32)) x_11) (va_cwS 3 C.1.2.2.2.2 (gi_S (zm kw_89) (zm kw_90) (zm kw_33) (zm kw_88)) rfl rfl rfl (by decide +kernel) ⟨(Nat.le_of_ble_eq_true rfl), (Nat.le_of_ble_eq_true rfl)⟩) rfl dX1_walk_14 ⟨hq2.1, hq2.2⟩ [] rfl (Nat.le_of_ble_eq_true rfl) rfl hW hS hw) hS C.2.1 ht hq2.1 hq2.2 (fun G_14 H locs hw hW hS => ?_)
  refine tr_iload_n (k := 3) (x := v3) C hl 4 rfl dX1_walk_17 ?_
  refine lv_iconst (v := (0 : Int32)) C.1.1 C.1.2.1 dX1_walk_18 (by decide) ?_
  refine lv_bipush (v := (12 : Int32)) C.1.1 C.1.2.1 dX1_walk_19 (by decide) ?_
  have hq3 := hw.1
  have hw := hw.2
  refine tx_backV (tx_runS (As := [.int v3, .int ((0 : Int32)), .int ((12 : Int32))]) C hl.1 (c_X1_checkNumber l hll K _ _ v3 ((0 : Int32)) ((12 : Int32))) (va_cwS 3 C.1.2.2.2.2 (gi_S (zm kw_89) (zm kw_90) (zm kw_33) (zm kw_88)) rfl rfl rfl (by decide +kernel) ⟨(Nat.le_of_ble_eq_true rfl), (Nat.le_of_ble_eq_true rfl)⟩) rfl dX1_walk_21 ⟨hq3.1, hq3.2⟩ [] rfl (Nat.le_of_ble_eq_true rfl) rfl hW hS hw) hS C.2.1 ht hq3.1 hq3.2 (fun G_21 H locs hw hW hS => ?_)
  refine tr_iload_n (k := 3) (x := v3) C hl 4 rfl dX1_walk_24 ?_
  refine tr_aload (x := x_2) C hl 0 rfl dX1_walk_25 ?_
  refine tr_iload_n (k := 2) (x := v2) C hl 3 rfl dX1_walk_27 ?_
  refine tr_iload (x := v4) C hl 5 rfl dX1_walk_28 ?_
  refine tr_backI (tr_runS (As := [va_rf x_2, .int v2, .int v4]) C hl.1 (c_X1_stepsLeft l hll K _ x_2 v2 v4) (va_cwS 3 C.1.2.2.2.2 (gi_S (zm kw_366) (zm kw_367) (zm kw_33) (zm kw_365)) rfl rfl rfl (by decide +kernel) ⟨(Nat.le_of_ble_eq_true rfl), (Nat.le_of_ble_eq_true rfl)⟩) rfl dX1_walk_30 ⟨(show (((0 + 1) + 1) + 1) + 0 ≤ MC by omega), (show (((0 + 6) + 6) + 6) + 0 ≤ MS by omega)⟩ [.inl v3] rfl (Nat.le_of_ble_eq_true rfl) rfl hW hS hw) hS (fun x_30 G_30 H locs hw hW hS => ?_)
  refine tr_min C hl.1 (zm kw_352) (zm kw_353) (zm kw_354) (zm kw_355) [] rfl (Nat.le_of_ble_eq_true rfl) (Nat.le_of_ble_eq_true rfl) (show (((0 + 1) + 1) + 1) ≤ MC by omega) (show (((0 + 6) + 6) + 6) ≤ MS by omega) dX1_walk_33 ?_
  refine tr_istore (x := (if x_30 < v3 then x_30 else v3)) C hl [(6, .inl (if x_30 < v3 then x_30 else v3)), (5, .inr (.inr x_2)), (0, .inr (.inr v0)), (1, .inl v1), (2, .inl v2), (3, .inl v3), (4, .inl v4)] (by decide) rfl dX1_walk_36 (fun ls hl => ?_)
  refine tr_aload (x := x_2) C hl 1 rfl dX1_walk_38 ?_
  refine tr_iload_n (k := 2) (x := v2) C hl 4 rfl dX1_walk_40 ?_
  refine tr_iload (x := (if x_30 < v3 then x_30 else v3)) C hl 0 rfl dX1_walk_41 ?_
  refine tr_iload (x := v4) C hl 6 rfl dX1_walk_43 ?_
  refine lv_iconst (v := (1 : Int32)) C.1.1 C.1.2.1 dX1_walk_45 (by decide) ?_
  obtain ⟨mc_46, ms_46, hb46, hd46, hw⟩ := hw
  refine tr_backR (tr_runS (As := [va_rf x_2, .int v2, .int ((if x_30 < v3 then x_30 else v3)), .int v4, .int ((1 : Int32))]) C hl.1 (c_X1_textOf l hll K mc_46 ms_46 _ x_2 v2 ((if x_30 < v3 then x_30 else v3)) v4 ((1 : Int32))) (va_cwS 5 C.1.2.2.2.2 (gi_S (zm kw_526) (zm kw_527) (zm kw_33) (zm kw_525)) rfl rfl rfl (by decide +kernel) ⟨(Nat.le_of_ble_eq_true rfl), (Nat.le_of_ble_eq_true rfl)⟩) rfl dX1_walk_46 ⟨hb46, hd46⟩ [] rfl (Nat.le_of_ble_eq_true rfl) rfl hW hS hw) hS (fun x_46 G_46 H locs hw hW hS => ?_)
  exact vx_ret (tr_aret (x := x_46) C hr (Or.inl ⟨_, rfl⟩) dX1_walk_49 (show ((((0 + 1) + 1) + 1) + mc_46) ≤ MC by omega) (show ((((0 + 6) + 6) + 6) + ms_46) ≤ MS by omega) hW hS hw)
end Z_X1_walk
set_option maxHeartbeats 4000000 in
set_option maxRecDepth 100000 in
theorem c_X1_walk (l : Launch) (hll : l.stackTraces = false) (K : tK) (MC MS : Nat) (post : Option Nat → tG → Prop) (postX : String → tG → Prop) (v0 : Option Nat) (v1 : Int32) (v2 : Int32) (v3 : Int32) (v4 : Int32) : Cx l yX1_walk wz_X1_walk ({ frames := 8, cells := MC, slots := MS, locals := 183 } : Room) MC MS [va_rf v0, .int v1, .int v2, .int v3, .int v4] K (retR post) postX (fun G => w_X1_walk K MC MS post postX v0 v1 v2 v3 v4 G) := by
  refine tx_of (cc := cX1_walk) (maxL := 7) (ret := (some (.object "java/lang/String"))) (own := RX1) (by decide) rfl rfl hll [.inr (.inr v0), .inl v1, .inl v2, .inl v3, .inl v4] rfl (Nat.le_of_ble_eq_true rfl) ?_
  intro p e s m args below meth c D A G ls C hr hn ht hl hW hS hw
  exact s_X1_walk C hr ht hll MC MS post postX v0 v1 v2 v3 v4 _ _ _ _ hW hS hl hw

/-! L_walk -/
def wz_L_walk : List Cond := Cond.codeWith yL_walk cL_walk 7 (some .int) [(0, 14, 17, 19), (0, 14, 21, 21)] :: w0
section Z_L_walk
variable {p : Program} {l : Launch} {e : Env} {s : State} {m : MethodId} {args : Array Value} {below : List Frame} {meth : Method} {c : Code} {D : va_G} {A : Nat → Prop}
set_option maxHeartbeats 4000000 in
set_option maxRecDepth 100000 in
theorem s_L_walk {K : tK} (C : tc_B p l s m args meth c D K A wz_L_walk RL cL_walk 7) (hr : meth.sig.returnType = (some .int)) (htab : c.exceptionTable.toList = tableOf [(0, 14, 17, 19), (0, 14, 21, 21)]) (hcC : kx_C s) (hll : l.stackTraces = false)  (MC MS : Nat) (post : Int32 → tG → Prop) (v0 : Option Nat) (v1 : Int32) (v2 : Int32) (v3 : Int32) (v4 : Int32) (v5 : Option Nat) : ∀ (G : tG) (H : Heap) (locs : List Loc) (ls : Array Slot), tg_W D A s H G → va_S A s.heap H locs → tl ls 7 [(0, .inr (.inr v0)), (1, .inl v1), (2, .inl v2), (3, .inl v3), (4, .inl v4), (5, .inr (.inr v5))] → w_L_walk K MC MS post v0 v1 v2 v3 v4 v5 G → W p l e ({ frames := 9, cells := MC, slots := MS, locals := 209 } : Room) s m args below meth c H locs 0 0 (vx_MQ below (tc_Qc D A (retI post)) (tc_XC D A (fun _ _ => False)) args s MC MS A) (F0 m 0 ls []) := by
  intro G H locs ls hW hS hl hw
  unfold w_L_walk at hw
  refine tr_aload (x := v5) C hl 5 rfl dL_walk_0 ?_
  refine tr_aload_n (k := 0) (x := v0) C hl 0 rfl dL_walk_2 ?_
  refine tr_iload_n (k := 1) (x := v1) C hl 1 rfl dL_walk_3 ?_
  refine tr_iload_n (k := 2) (x := v2) C hl 2 rfl dL_walk_4 ?_
  refine tr_iload_n (k := 3) (x := v3) C hl 3 rfl dL_walk_5 ?_
  refine tr_iload (x := v4) C hl 4 rfl dL_walk_6 ?_
  obtain ⟨mc_8, ms_8, hb8, hd8, hw⟩ := hw
  refine tx_backCR (tx_runV (r := v0) (As := [.int v1, .int v2, .int v3, .int v4]) C hl.1 (c_X1_walk l hll K mc_8 ms_8 _ _ v0 v1 v2 v3 v4) (cwV 4 C.1.2.2.2.2 (gi_V (zm kw_529) (zm kw_530) (zm kw_531) (zm kw_33) (zm kw_528)) rfl rfl rfl (by decide +kernel) ⟨(Nat.le_of_ble_eq_true rfl), (Nat.le_of_ble_eq_true rfl)⟩) rfl rfl dL_walk_8 ⟨hb8, hd8⟩ [.inr (.inr v5)] rfl (Nat.le_of_ble_eq_true rfl) rfl hW hS hw) hS (fun E ce q9 GX H locs hw hW hS hce hcv hcl => ?_) (fun x_8 G_8 H locs hw hW hS => ?_)
  · by_cases hq0 : E = "java/lang/IndexOutOfBoundsException"
    · replace hw := hw.1 hq0
      subst hq0
      refine vx_catch (name := "java/lang/IndexOutOfBoundsException") C.1.2.2.2.1 [] (⟨0, 14, 17, 19⟩ : ExceptionTableEntry) [(⟨0, 14, 21, 21⟩ : ExceptionTableEntry)] (by rw [htab]; rfl) (fun z hz => nomatch hz) (by decide) (by decide) (C.1.2.2.2.2 _ (zm kw_209)) hcC.2.2.1 hce hcv hcl ?_
      refine tr_astore (x := (some q9)) C hl [(6, .inr (.inr (some q9))), (0, .inr (.inr v0)), (1, .inl v1), (2, .inl v2), (3, .inl v3), (4, .inl v4), (5, .inr (.inr v5))] (by decide) rfl dL_walk_17 (fun ls hl => ?_)
      refine lv_iconst (v := (1 : Int32)) C.1.1 C.1.2.1 dL_walk_19 (by decide) ?_
      exact vx_ret (tr_iret C hr dL_walk_20 (show (0 + mc_8) ≤ MC by omega) (show (0 + ms_8) ≤ MS by omega) hW hS hw)
    replace hw := hw.2 hq0
    by_cases hq1 : E = "java/lang/IllegalArgumentException"
    · replace hw := hw.1 hq1
      subst hq1
      refine vx_catch (name := "java/lang/IllegalArgumentException") C.1.2.2.2.1 [(⟨0, 14, 17, 19⟩ : ExceptionTableEntry)] (⟨0, 14, 21, 21⟩ : ExceptionTableEntry) [] (by rw [htab]; rfl) (kx_pass1 C hcC rfl (by decide) (zm kw_209)) (by decide) (by decide) (C.1.2.2.2.2 _ (zm kw_188)) hcC.2.2.2.1 hce hcv hcl ?_
      refine tr_astore (x := (some q9)) C hl [(6, .inr (.inr (some q9))), (0, .inr (.inr v0)), (1, .inl v1), (2, .inl v2), (3, .inl v3), (4, .inl v4), (5, .inr (.inr v5))] (by decide) rfl dL_walk_21 (fun ls hl => ?_)
      refine lv_iconst (v := (2 : Int32)) C.1.1 C.1.2.1 dL_walk_23 (by decide) ?_
      exact vx_ret (tr_iret C hr dL_walk_24 (show (0 + mc_8) ≤ MC by omega) (show (0 + ms_8) ≤ MS by omega) hW hS hw)
    replace hw := hw.2 hq1
    exact hw.elim
  · refine tr_pfN (C0 := RX2) (T := TX2) (N := 2) (ci := 4) (ref := "TwinrowLaw$Out") (host := "TwinrowLaw") (k := 1) (ty := .object "java/lang/String") (v := va_rf x_8) (r := v5) C (zh hw_X2) tyX2 tyX2_ok nmX2 rfl (by decide) hcC.2.1 rfl rfl (by decide +kernel) (tv_nrO _ _) (tv_frO _ _) dL_walk_11 hW hS hw (fun G_11 H locs hw hW hS => ?_)
    refine lv_goto (tgt := 25) C.1.1 C.1.2.1 dL_walk_14 (by decide) ?_
    refine lv_iconst (v := (0 : Int32)) C.1.1 C.1.2.1 dL_walk_25 (by decide) ?_
    exact vx_ret (tr_iret C hr dL_walk_26 (show (0 + mc_8) ≤ MC by omega) (show (0 + ms_8) ≤ MS by omega) hW hS hw)
end Z_L_walk
set_option maxHeartbeats 4000000 in
set_option maxRecDepth 100000 in
theorem c_L_walk (l : Launch) (hll : l.stackTraces = false) (K : tK) (MC MS : Nat) (post : Int32 → tG → Prop) (v0 : Option Nat) (v1 : Int32) (v2 : Int32) (v3 : Int32) (v4 : Int32) (v5 : Option Nat) : Cx l yL_walk wz_L_walk ({ frames := 9, cells := MC, slots := MS, locals := 209 } : Room) MC MS [va_rf v0, .int v1, .int v2, .int v3, .int v4, va_rf v5] K (retI post) (fun _ _ => False) (fun G => w_L_walk K MC MS post v0 v1 v2 v3 v4 v5 G) := by
  refine tx_ofH (cc := cL_walk) (maxL := 7) (ret := (some .int)) (own := RL) (hh := [(0, 14, 17, 19), (0, 14, 21, 21)]) (by decide) rfl rfl hll [.inr (.inr v0), .inl v1, .inl v2, .inl v3, .inl v4, .inr (.inr v5)] rfl (Nat.le_of_ble_eq_true rfl) ?_
  intro p e s m args below meth c D A G ls C hr htab hcC hl hW hS hw
  exact s_L_walk C hr htab hcC hll MC MS post v0 v1 v2 v3 v4 v5 _ _ _ _ hW hS hl hw

/-! J0_coder_7d493 -/
def wz_J0_coder_7d493 : List Cond := Cond.code yJ0_coder_7d493 cJ0_coder_7d493 1 (some .byte) :: w0
section Z_J0_coder_7d493
variable {p : Program} {l : Launch} {e : Env} {s : State} {m : MethodId} {args : Array Value} {below : List Frame} {meth : Method} {c : Code} {D : va_G} {A : Nat → Prop}
set_option maxHeartbeats 4000000 in
set_option maxRecDepth 100000 in
theorem s_J0_coder_7d493_14 {K : tK} (C : tc_B p l s m args meth c D K A wz_J0_coder_7d493 RJ0 cJ0_coder_7d493 1) (hr : meth.sig.returnType = (some .byte)) (hll : l.stackTraces = false)  (post : Int32 → tG → Prop) : ∀ (u0 : Int32) (G : tG) (H : Heap) (locs : List Loc) (ls : Array Slot), tg_W D A s H G → va_S A s.heap H locs → tl ls 1 [] → w_J0_coder_7d493_14 K post u0 G → W p l e ({ frames := 0, cells := 0, slots := 0, locals := 0 } : Room) s m args below meth c H locs 0 0 (MQ below (tc_Qc D A (retI post)) args s 0 0 A) (F0 m 14 ls [.int u0]) := by
  intro u0 G H locs ls hW hS hl hw
  unfold w_J0_coder_7d493_14 at hw
  exact tr_zret C hr dJ0_coder_7d493_14 (Nat.le_of_ble_eq_true rfl) (Nat.le_of_ble_eq_true rfl) hW hS hw
set_option maxHeartbeats 4000000 in
set_option maxRecDepth 100000 in
theorem s_J0_coder_7d493 {K : tK} (C : tc_B p l s m args meth c D K A wz_J0_coder_7d493 RJ0 cJ0_coder_7d493 1) (hr : meth.sig.returnType = (some .byte)) (hll : l.stackTraces = false)  (post : Int32 → tG → Prop) (v0 : Option Nat) : ∀ (G : tG) (H : Heap) (locs : List Loc) (ls : Array Slot), tg_W D A s H G → va_S A s.heap H locs → tl ls 1 [(0, .inr (.inr v0))] → w_J0_coder_7d493 K post v0 G → W p l e ({ frames := 0, cells := 0, slots := 0, locals := 0 } : Room) s m args below meth c H locs 0 0 (MQ below (tc_Qc D A (retI post)) args s 0 0 A) (F0 m 0 ls []) := by
  intro G H locs ls hW hS hl hw
  unfold w_J0_coder_7d493 at hw
  refine tr_getCS C (zm kw_453) dJ0_coder_7d493_0 hS ?_
  refine lv_if_eq (tgt := 13) C.1.1 C.1.2.1 dJ0_coder_7d493_3 (by decide) (fun hc => ?_) (fun hc => ?_)
  · have hw := hw.1 hc
    refine lv_iconst (v := (1 : Int32)) C.1.1 C.1.2.1 dJ0_coder_7d493_13 (by decide) ?_
    exact s_J0_coder_7d493_14 C hr hll post ((1 : Int32)) _ _ _ _ hW hS (tl_sub hl [] rfl) hw
  · have hw := hw.2 hc
    refine tr_aload_n (k := 0) (x := v0) C hl 0 rfl dJ0_coder_7d493_6 ?_
    refine tr_gsC (T := TJ0) (N := 4) (ci := 0) (r := v0) C (zh hw_J0) rfl (by decide) (zm kw_431) rfl rfl rfl dJ0_coder_7d493_7 hW hS hw (fun x_7 hw => ?_)
    refine lv_goto (tgt := 14) C.1.1 C.1.2.1 dJ0_coder_7d493_10 (by decide) ?_
    exact s_J0_coder_7d493_14 C hr hll post x_7 _ _ _ _ hW hS (tl_sub hl [] rfl) hw
end Z_J0_coder_7d493
set_option maxHeartbeats 4000000 in
set_option maxRecDepth 100000 in
theorem c_J0_coder_7d493 (l : Launch) (hll : l.stackTraces = false) (K : tK) (post : Int32 → tG → Prop) (v0 : Option Nat) : Ct l yJ0_coder_7d493 wz_J0_coder_7d493 ({ frames := 0, cells := 0, slots := 0, locals := 0 } : Room) 0 0 [va_rf v0] K (retI post) (fun G => w_J0_coder_7d493 K post v0 G) := by
  refine tc_of (cc := cJ0_coder_7d493) (maxL := 1) (ret := (some .byte)) (own := RJ0) (plainFor_of_name (by decide)) rfl rfl hll [.inr (.inr v0)] rfl (Nat.le_of_ble_eq_true rfl) ?_
  intro p e s m args below meth c D A G ls C hr hn ht hl hW hS hw
  exact s_J0_coder_7d493 C hr hll post v0 _ _ _ _ hW hS hl hw

/-! J0_length_8abf5 -/
def wz_J0_length_8abf5 : List Cond := Cond.code yJ0_length_8abf5 cJ0_length_8abf5 1 (some .int) :: w0
section Z_J0_length_8abf5
variable {p : Program} {l : Launch} {e : Env} {s : State} {m : MethodId} {args : Array Value} {below : List Frame} {meth : Method} {c : Code} {D : va_G} {A : Nat → Prop}
set_option maxHeartbeats 4000000 in
set_option maxRecDepth 100000 in
theorem s_J0_length_8abf5 {K : tK} (C : tc_B p l s m args meth c D K A wz_J0_length_8abf5 RJ0 cJ0_length_8abf5 1) (hr : meth.sig.returnType = (some .int)) (hll : l.stackTraces = false)  (post : Int32 → tG → Prop) (v0 : Option Nat) : ∀ (G : tG) (H : Heap) (locs : List Loc) (ls : Array Slot), tg_W D A s H G → va_S A s.heap H locs → tl ls 1 [(0, .inr (.inr v0))] → w_J0_length_8abf5 K post v0 G → W p l e ({ frames := 1, cells := 0, slots := 0, locals := 20 } : Room) s m args below meth c H locs 0 0 (MQ below (tc_Qc D A (retI post)) args s 0 0 A) (F0 m 0 ls []) := by
  intro G H locs ls hW hS hl hw
  unfold w_J0_length_8abf5 at hw
  refine tr_aload_n (k := 0) (x := v0) C hl 0 rfl dJ0_length_8abf5_0 ?_
  refine tr_gsV (T := TJ0) (N := 4) (ci := 0) (r := v0) C (zh hw_J0) rfl (by decide) (zm kw_435) rfl rfl rfl dJ0_length_8abf5_1 hW hS hw (fun x_1 hw => ?_)
  refine tr_lenK (r := x_1) C dJ0_length_8abf5_4 hW hS hw (fun x_4 hw => ?_)
  refine tr_aload_n (k := 0) (x := v0) C hl 0 rfl dJ0_length_8abf5_5 ?_
  refine tr_backI (tr_runVS (r := v0) (As := []) C hl.1 (c_J0_coder_7d493 l hll K _ v0) (cwV 0 C.1.2.2.2.2 (gi_V (zm kw_533) (zm kw_534) (zm kw_535) (zm kw_456) (zm kw_532)) rfl rfl rfl (by decide +kernel) ⟨(Nat.le_of_ble_eq_true rfl), (Nat.le_of_ble_eq_true rfl)⟩) rfl rfl dJ0_length_8abf5_6 ⟨(Nat.le_of_ble_eq_true rfl), (Nat.le_of_ble_eq_true rfl)⟩ [.inl x_4] rfl (Nat.le_of_ble_eq_true rfl) rfl hW hS hw) hS (fun x_6 G_6 H locs hw hW hS => ?_)
  refine lv_ishr C.1.1 C.1.2.1 dJ0_length_8abf5_9 ?_
  exact tr_iret C hr dJ0_length_8abf5_10 (Nat.le_of_ble_eq_true rfl) (Nat.le_of_ble_eq_true rfl) hW hS hw
end Z_J0_length_8abf5
set_option maxHeartbeats 4000000 in
set_option maxRecDepth 100000 in
theorem c_J0_length_8abf5 (l : Launch) (hll : l.stackTraces = false) (K : tK) (post : Int32 → tG → Prop) (v0 : Option Nat) : Ct l yJ0_length_8abf5 wz_J0_length_8abf5 ({ frames := 1, cells := 0, slots := 0, locals := 20 } : Room) 0 0 [va_rf v0] K (retI post) (fun G => w_J0_length_8abf5 K post v0 G) := by
  refine tc_of (cc := cJ0_length_8abf5) (maxL := 1) (ret := (some .int)) (own := RJ0) (plainFor_of_name (by decide)) rfl rfl hll [.inr (.inr v0)] rfl (Nat.le_of_ble_eq_true rfl) ?_
  intro p e s m args below meth c D A G ls C hr hn ht hl hW hS hw
  exact s_J0_length_8abf5 C hr hll post v0 _ _ _ _ hW hS hl hw

/-! J5_inflateIfNeededFor_a7421 -/
def wz_J5_inflateIfNeededFor_a7421 : List Cond := Cond.code yJ5_inflateIfNeededFor_a7421 cJ5_inflateIfNeededFor_a7421 2 none :: w0
section Z_J5_inflateIfNeededFor_a7421
variable {p : Program} {l : Launch} {e : Env} {s : State} {m : MethodId} {args : Array Value} {below : List Frame} {meth : Method} {c : Code} {D : va_G} {A : Nat → Prop}
set_option maxHeartbeats 4000000 in
set_option maxRecDepth 100000 in
theorem s_J5_inflateIfNeededFor_a7421_21 {K : tK} (C : tc_B p l s m args meth c D K A wz_J5_inflateIfNeededFor_a7421 RJ5 cJ5_inflateIfNeededFor_a7421 2) (hr : meth.sig.returnType = none) (hll : l.stackTraces = false)  (post : tG → Prop) : ∀ (G : tG) (H : Heap) (locs : List Loc) (ls : Array Slot), tg_W D A s H G → va_S A s.heap H locs → tl ls 2 [] → w_J5_inflateIfNeededFor_a7421_21 K post G → W p l e ({ frames := 1, cells := 0, slots := 0, locals := 20 } : Room) s m args below meth c H locs 0 0 (MQ below (tc_Qc D A (retV post)) args s 0 0 A) (F0 m 21 ls []) := by
  intro G H locs ls hW hS hl hw
  unfold w_J5_inflateIfNeededFor_a7421_21 at hw
  exact tr_vret C hr dJ5_inflateIfNeededFor_a7421_21 (Nat.le_of_ble_eq_true rfl) (Nat.le_of_ble_eq_true rfl) hW hS hw
set_option maxHeartbeats 4000000 in
set_option maxRecDepth 100000 in
theorem s_J5_inflateIfNeededFor_a7421 {K : tK} (C : tc_B p l s m args meth c D K A wz_J5_inflateIfNeededFor_a7421 RJ5 cJ5_inflateIfNeededFor_a7421 2) (hr : meth.sig.returnType = none) (hll : l.stackTraces = false)  (post : tG → Prop) (v0 : Option Nat) (v1 : Option Nat) : ∀ (G : tG) (H : Heap) (locs : List Loc) (ls : Array Slot), tg_W D A s H G → va_S A s.heap H locs → tl ls 2 [(0, .inr (.inr v0)), (1, .inr (.inr v1))] → w_J5_inflateIfNeededFor_a7421 K post v0 v1 G → W p l e ({ frames := 1, cells := 0, slots := 0, locals := 20 } : Room) s m args below meth c H locs 0 0 (MQ below (tc_Qc D A (retV post)) args s 0 0 A) (F0 m 0 ls []) := by
  intro G H locs ls hW hS hl hw
  unfold w_J5_inflateIfNeededFor_a7421 at hw
  refine tr_getCS C (zm kw_399) dJ5_inflateIfNeededFor_a7421_0 hS ?_
  refine lv_if_eq (tgt := 21) C.1.1 C.1.2.1 dJ5_inflateIfNeededFor_a7421_3 (by decide) (fun hc => ?_) (fun hc => ?_)
  · have hw := hw.1 hc
    exact s_J5_inflateIfNeededFor_a7421_21 C hr hll post _ _ _ _ hW hS (tl_sub hl [] rfl) hw
  · have hw := hw.2 hc
    refine tr_aload_n (k := 0) (x := v0) C hl 0 rfl dJ5_inflateIfNeededFor_a7421_6 ?_
    refine tr_gfI (C0 := RJ4) (T := TJ4) (N := 4) (ci := 1) (ref := "java/lang/AbstractStringBuilder") (k := 1) (r := v0) C (zh hw_J4) rfl (by decide) (zm kw_402) rfl dJ5_inflateIfNeededFor_a7421_7 hW hw (fun x_7 hw => ?_)
    refine tr_aload_n (k := 1) (x := v1) C hl 1 rfl dJ5_inflateIfNeededFor_a7421_10 ?_
    refine tr_backI (tr_runVS (r := v1) (As := []) C hl.1 (c_J0_coder_7d493 l hll K _ v1) (cwV 0 C.1.2.2.2.2 (gi_V (zm kw_536) (zm kw_534) (zm kw_535) (zm kw_456) (zm kw_532)) rfl rfl rfl (by decide +kernel) ⟨(Nat.le_of_ble_eq_true rfl), (Nat.le_of_ble_eq_true rfl)⟩) rfl rfl dJ5_inflateIfNeededFor_a7421_11 ⟨(Nat.le_of_ble_eq_true rfl), (Nat.le_of_ble_eq_true rfl)⟩ [.inl x_7] rfl (Nat.le_of_ble_eq_true rfl) rfl hW hS hw) hS (fun x_11 G_11 H locs hw hW hS => ?_)
    refine lv_icmp_eq (tgt := 21) C.1.1 C.1.2.1 dJ5_inflateIfNeededFor_a7421_14 (by decide) (fun hc => ?_) (fun hc => ?_)
    · have hw := hw.1 hc
      exact s_J5_inflateIfNeededFor_a7421_21 C hr hll post _ _ _ _ hW hS (tl_sub hl [] rfl) hw
    · have hw := hw.2 hc
      refine tr_aload_n (k := 0) (x := v0) C hl 0 rfl dJ5_inflateIfNeededFor_a7421_17 ?_
      exact hw.elim
end Z_J5_inflateIfNeededFor_a7421
set_option maxHeartbeats 4000000 in
set_option maxRecDepth 100000 in
theorem c_J5_inflateIfNeededFor_a7421 (l : Launch) (hll : l.stackTraces = false) (K : tK) (post : tG → Prop) (v0 : Option Nat) (v1 : Option Nat) : Ct l yJ5_inflateIfNeededFor_a7421 wz_J5_inflateIfNeededFor_a7421 ({ frames := 1, cells := 0, slots := 0, locals := 20 } : Room) 0 0 [va_rf v0, va_rf v1] K (retV post) (fun G => w_J5_inflateIfNeededFor_a7421 K post v0 v1 G) := by
  refine tc_of (cc := cJ5_inflateIfNeededFor_a7421) (maxL := 2) (ret := none) (own := RJ5) (plainFor_of_name (by decide)) rfl rfl hll [.inr (.inr v0), .inr (.inr v1)] rfl (Nat.le_of_ble_eq_true rfl) ?_
  intro p e s m args below meth c D A G ls C hr hn ht hl hW hS hw
  exact s_J5_inflateIfNeededFor_a7421 C hr hll post v0 v1 _ _ _ _ hW hS hl hw

/-! J0_getBytes_840e7 -/
def wz_J0_getBytes_840e7 : List Cond := Cond.code yJ0_getBytes_840e7 cJ0_getBytes_840e7 4 none :: w0
section Z_J0_getBytes_840e7
variable {p : Program} {l : Launch} {e : Env} {s : State} {m : MethodId} {args : Array Value} {below : List Frame} {meth : Method} {c : Code} {D : va_G} {A : Nat → Prop}
set_option maxHeartbeats 4000000 in
set_option maxRecDepth 100000 in
theorem s_J0_getBytes_840e7 {K : tK} (C : tc_B p l s m args meth c D K A wz_J0_getBytes_840e7 RJ0 cJ0_getBytes_840e7 4) (hr : meth.sig.returnType = none) (hll : l.stackTraces = false)  (post : tG → Prop) (v0 : Option Nat) (v1 : Option Nat) (v2 : Int32) (v3 : Int32) : ∀ (G : tG) (H : Heap) (locs : List Loc) (ls : Array Slot), tg_W D A s H G → va_S A s.heap H locs → tl ls 4 [(0, .inr (.inr v0)), (1, .inr (.inr v1)), (2, .inl v2), (3, .inl v3)] → w_J0_getBytes_840e7 K post v0 v1 v2 v3 G → W p l e ({ frames := 1, cells := 0, slots := 0, locals := 40 } : Room) s m args below meth c H locs 0 0 (MQ below (tc_Qc D A (retV post)) args s 0 0 A) (F0 m 0 ls []) := by
  intro G H locs ls hW hS hl hw
  unfold w_J0_getBytes_840e7 at hw
  refine tr_aload_n (k := 0) (x := v0) C hl 0 rfl dJ0_getBytes_840e7_0 ?_
  refine tr_backI (tr_runVS (r := v0) (As := []) C hl.1 (c_J0_coder_7d493 l hll K _ v0) (cwV 0 C.1.2.2.2.2 (gi_V (zm kw_533) (zm kw_534) (zm kw_535) (zm kw_456) (zm kw_532)) rfl rfl rfl (by decide +kernel) ⟨(Nat.le_of_ble_eq_true rfl), (Nat.le_of_ble_eq_true rfl)⟩) rfl rfl dJ0_getBytes_840e7_1 ⟨(Nat.le_of_ble_eq_true rfl), (Nat.le_of_ble_eq_true rfl)⟩ [] rfl (Nat.le_of_ble_eq_true rfl) rfl hW hS hw) hS (fun x_1 G_1 H locs hw hW hS => ?_)
  refine tr_iload_n (k := 3) (x := v3) C hl 3 rfl dJ0_getBytes_840e7_4 ?_
  refine lv_icmp_ne (tgt := 28) C.1.1 C.1.2.1 dJ0_getBytes_840e7_5 (by decide) (fun hc => ?_) (fun hc => ?_)
  · have hw := hw.1 hc
    refine tr_aload_n (k := 0) (x := v0) C hl 0 rfl dJ0_getBytes_840e7_28 ?_
    refine tr_gsV (T := TJ0) (N := 4) (ci := 0) (r := v0) C (zh hw_J0) rfl (by decide) (zm kw_435) rfl rfl rfl dJ0_getBytes_840e7_29 hW hS hw (fun x_29 hw => ?_)
    refine lv_iconst (v := (0 : Int32)) C.1.1 C.1.2.1 dJ0_getBytes_840e7_32 (by decide) ?_
    refine tr_aload_n (k := 1) (x := v1) C hl 1 rfl dJ0_getBytes_840e7_33 ?_
    refine tr_iload_n (k := 2) (x := v2) C hl 2 rfl dJ0_getBytes_840e7_34 ?_
    refine tr_aload_n (k := 0) (x := v0) C hl 0 rfl dJ0_getBytes_840e7_35 ?_
    refine tr_gsV (T := TJ0) (N := 4) (ci := 0) (r := v0) C (zh hw_J0) rfl (by decide) (zm kw_435) rfl rfl rfl dJ0_getBytes_840e7_36 hW hS hw (fun x_36 hw => ?_)
    refine tr_lenK (r := x_36) C dJ0_getBytes_840e7_39 hW hS hw (fun x_39 hw => ?_)
    exact hw.elim
  · have hw := hw.2 hc
    refine tr_aload_n (k := 0) (x := v0) C hl 0 rfl dJ0_getBytes_840e7_8 ?_
    refine tr_gsV (T := TJ0) (N := 4) (ci := 0) (r := v0) C (zh hw_J0) rfl (by decide) (zm kw_435) rfl rfl rfl dJ0_getBytes_840e7_9 hW hS hw (fun x_9 hw => ?_)
    refine lv_iconst (v := (0 : Int32)) C.1.1 C.1.2.1 dJ0_getBytes_840e7_12 (by decide) ?_
    refine tr_aload_n (k := 1) (x := v1) C hl 1 rfl dJ0_getBytes_840e7_13 ?_
    refine tr_iload_n (k := 2) (x := v2) C hl 2 rfl dJ0_getBytes_840e7_14 ?_
    refine tr_iload_n (k := 3) (x := v3) C hl 3 rfl dJ0_getBytes_840e7_15 ?_
    refine lv_ishl C.1.1 C.1.2.1 dJ0_getBytes_840e7_16 ?_
    refine tr_aload_n (k := 0) (x := v0) C hl 0 rfl dJ0_getBytes_840e7_17 ?_
    refine tr_gsV (T := TJ0) (N := 4) (ci := 0) (r := v0) C (zh hw_J0) rfl (by decide) (zm kw_435) rfl rfl rfl dJ0_getBytes_840e7_18 hW hS hw (fun x_18 hw => ?_)
    refine tr_lenK (r := x_18) C dJ0_getBytes_840e7_21 hW hS hw (fun x_21 hw => ?_)
    refine tr_copy (r := x_9) (r2 := v1) C hl.1 (zm kw_537) (zm kw_419) (zm kw_420) (zm kw_421) (Nat.le_of_ble_eq_true rfl) (by dsimp only; decide) dJ0_getBytes_840e7_22 hW hS hw (fun G_22 H locs hw hW hS => ?_)
    refine lv_goto (tgt := 43) C.1.1 C.1.2.1 dJ0_getBytes_840e7_25 (by decide) ?_
    exact tr_vret C hr dJ0_getBytes_840e7_43 (Nat.le_of_ble_eq_true rfl) (Nat.le_of_ble_eq_true rfl) hW hS hw
end Z_J0_getBytes_840e7
set_option maxHeartbeats 4000000 in
set_option maxRecDepth 100000 in
theorem c_J0_getBytes_840e7 (l : Launch) (hll : l.stackTraces = false) (K : tK) (post : tG → Prop) (v0 : Option Nat) (v1 : Option Nat) (v2 : Int32) (v3 : Int32) : Ct l yJ0_getBytes_840e7 wz_J0_getBytes_840e7 ({ frames := 1, cells := 0, slots := 0, locals := 40 } : Room) 0 0 [va_rf v0, va_rf v1, .int v2, .int v3] K (retV post) (fun G => w_J0_getBytes_840e7 K post v0 v1 v2 v3 G) := by
  refine tc_of (cc := cJ0_getBytes_840e7) (maxL := 4) (ret := none) (own := RJ0) (plainFor_of_name (by decide)) rfl rfl hll [.inr (.inr v0), .inr (.inr v1), .inl v2, .inl v3] rfl (Nat.le_of_ble_eq_true rfl) ?_
  intro p e s m args below meth c D A G ls C hr hn ht hl hW hS hw
  exact s_J0_getBytes_840e7 C hr hll post v0 v1 v2 v3 _ _ _ _ hW hS hl hw

/-! J5_putStringAt_47b60 -/
def wz_J5_putStringAt_47b60 : List Cond := Cond.code yJ5_putStringAt_47b60 cJ5_putStringAt_47b60 3 none :: w0
section Z_J5_putStringAt_47b60
variable {p : Program} {l : Launch} {e : Env} {s : State} {m : MethodId} {args : Array Value} {below : List Frame} {meth : Method} {c : Code} {D : va_G} {A : Nat → Prop}
set_option maxHeartbeats 4000000 in
set_option maxRecDepth 100000 in
theorem s_J5_putStringAt_47b60 {K : tK} (C : tc_B p l s m args meth c D K A wz_J5_putStringAt_47b60 RJ5 cJ5_putStringAt_47b60 3) (hr : meth.sig.returnType = none) (hll : l.stackTraces = false)  (post : tG → Prop) (v0 : Option Nat) (v1 : Int32) (v2 : Option Nat) : ∀ (G : tG) (H : Heap) (locs : List Loc) (ls : Array Slot), tg_W D A s H G → va_S A s.heap H locs → tl ls 3 [(0, .inr (.inr v0)), (1, .inl v1), (2, .inr (.inr v2))] → w_J5_putStringAt_47b60 K post v0 v1 v2 G → W p l e ({ frames := 2, cells := 0, slots := 0, locals := 63 } : Room) s m args below meth c H locs 0 0 (MQ below (tc_Qc D A (retV post)) args s 0 0 A) (F0 m 0 ls []) := by
  intro G H locs ls hW hS hl hw
  unfold w_J5_putStringAt_47b60 at hw
  refine tr_aload_n (k := 0) (x := v0) C hl 0 rfl dJ5_putStringAt_47b60_0 ?_
  refine tr_aload_n (k := 2) (x := v2) C hl 2 rfl dJ5_putStringAt_47b60_1 ?_
  refine tr_backV (tr_runU (r := v0) (As := [va_rf v2]) C hl.1 (c_J5_inflateIfNeededFor_a7421 l hll K _ v0 v2) (va_cwU 1 C.1.2.2.2.2 (gi_U (zm kw_539) (zm kw_540) (zm kw_541) (zm kw_542) (zm kw_404) (zm kw_538)) rfl rfl rfl rfl (by decide +kernel) ⟨(Nat.le_of_ble_eq_true rfl), (Nat.le_of_ble_eq_true rfl)⟩) rfl rfl dJ5_putStringAt_47b60_2 ⟨(Nat.le_of_ble_eq_true rfl), (Nat.le_of_ble_eq_true rfl)⟩ [] rfl (Nat.le_of_ble_eq_true rfl) rfl hW hS hw) hS (fun G_2 H locs hw hW hS => ?_)
  refine tr_aload_n (k := 2) (x := v2) C hl 2 rfl dJ5_putStringAt_47b60_5 ?_
  refine tr_aload_n (k := 0) (x := v0) C hl 0 rfl dJ5_putStringAt_47b60_6 ?_
  refine tr_gfR (C0 := RJ4) (T := TJ4) (N := 4) (ci := 1) (ref := "java/lang/AbstractStringBuilder") (k := 0) (r := v0) C (zh hw_J4) rfl (by decide) (zm kw_401) rfl dJ5_putStringAt_47b60_7 hW hw (fun x_7 hw => ?_)
  refine tr_iload_n (k := 1) (x := v1) C hl 1 rfl dJ5_putStringAt_47b60_10 ?_
  refine tr_aload_n (k := 0) (x := v0) C hl 0 rfl dJ5_putStringAt_47b60_11 ?_
  refine tr_gfI (C0 := RJ4) (T := TJ4) (N := 4) (ci := 1) (ref := "java/lang/AbstractStringBuilder") (k := 1) (r := v0) C (zh hw_J4) rfl (by decide) (zm kw_402) rfl dJ5_putStringAt_47b60_12 hW hw (fun x_12 hw => ?_)
  refine tr_backV (tr_runVS (r := v2) (As := [va_rf x_7, .int v1, .int x_12]) C hl.1 (c_J0_getBytes_840e7 l hll K _ v2 x_7 v1 x_12) (cwV 3 C.1.2.2.2.2 (gi_V (zm kw_544) (zm kw_545) (zm kw_546) (zm kw_456) (zm kw_543)) rfl rfl rfl (by decide +kernel) ⟨(Nat.le_of_ble_eq_true rfl), (Nat.le_of_ble_eq_true rfl)⟩) rfl rfl dJ5_putStringAt_47b60_15 ⟨(Nat.le_of_ble_eq_true rfl), (Nat.le_of_ble_eq_true rfl)⟩ [] rfl (Nat.le_of_ble_eq_true rfl) rfl hW hS hw) hS (fun G_15 H locs hw hW hS => ?_)
  exact tr_vret C hr dJ5_putStringAt_47b60_18 (Nat.le_of_ble_eq_true rfl) (Nat.le_of_ble_eq_true rfl) hW hS hw
end Z_J5_putStringAt_47b60
set_option maxHeartbeats 4000000 in
set_option maxRecDepth 100000 in
theorem c_J5_putStringAt_47b60 (l : Launch) (hll : l.stackTraces = false) (K : tK) (post : tG → Prop) (v0 : Option Nat) (v1 : Int32) (v2 : Option Nat) : Ct l yJ5_putStringAt_47b60 wz_J5_putStringAt_47b60 ({ frames := 2, cells := 0, slots := 0, locals := 63 } : Room) 0 0 [va_rf v0, .int v1, va_rf v2] K (retV post) (fun G => w_J5_putStringAt_47b60 K post v0 v1 v2 G) := by
  refine tc_of (cc := cJ5_putStringAt_47b60) (maxL := 3) (ret := none) (own := RJ5) (plainFor_of_name (by decide)) rfl rfl hll [.inr (.inr v0), .inl v1, .inr (.inr v2)] rfl (Nat.le_of_ble_eq_true rfl) ?_
  intro p e s m args below meth c D A G ls C hr hn ht hl hW hS hw
  exact s_J5_putStringAt_47b60 C hr hll post v0 v1 v2 _ _ _ _ hW hS hl hw

/-! J5_append_cf1ce -/
def wz_J5_append_cf1ce : List Cond := Cond.code yJ5_append_cf1ce cJ5_append_cf1ce 3 (some (.object "java/lang/AbstractStringBuilder")) :: w0
section Z_J5_append_cf1ce
variable {p : Program} {l : Launch} {e : Env} {s : State} {m : MethodId} {args : Array Value} {below : List Frame} {meth : Method} {c : Code} {D : va_G} {A : Nat → Prop}
set_option maxHeartbeats 4000000 in
set_option maxRecDepth 100000 in
theorem s_J5_append_cf1ce {K : tK} (C : tc_B p l s m args meth c D K A wz_J5_append_cf1ce RJ5 cJ5_append_cf1ce 3) (hr : meth.sig.returnType = (some (.object "java/lang/AbstractStringBuilder"))) (hll : l.stackTraces = false)  (MC MS : Nat) (post : Option Nat → tG → Prop) (v0 : Option Nat) (v1 : Option Nat) : ∀ (G : tG) (H : Heap) (locs : List Loc) (ls : Array Slot), tg_W D A s H G → va_S A s.heap H locs → tl ls 3 [(0, .inr (.inr v0)), (1, .inr (.inr v1))] → w_J5_append_cf1ce K MC MS post v0 v1 G → W p l e ({ frames := 4, cells := MC, slots := MS, locals := 91 } : Room) s m args below meth c H locs 0 0 (MQ below (tc_Qc D A (retR post)) args s MC MS A) (F0 m 0 ls []) := by
  intro G H locs ls hW hS hl hw
  unfold w_J5_append_cf1ce at hw
  refine tr_aload_n (k := 1) (x := v1) C hl 1 rfl dJ5_append_cf1ce_0 ?_
  refine tr_ifnonnull (tgt := 9) C dJ5_append_cf1ce_1 (by decide) (fun hc => ?_) (fun hc => ?_)
  · have hw := hw.1 hc
    refine tr_aload_n (k := 1) (x := v1) C hl 1 rfl dJ5_append_cf1ce_9 ?_
    refine tr_backI (tr_runVS (r := v1) (As := []) C hl.1 (c_J0_length_8abf5 l hll K _ v1) (cwV 0 C.1.2.2.2.2 (gi_V (zm kw_548) (zm kw_549) (zm kw_550) (zm kw_456) (zm kw_547)) rfl rfl rfl (by decide +kernel) ⟨(Nat.le_of_ble_eq_true rfl), (Nat.le_of_ble_eq_true rfl)⟩) rfl rfl dJ5_append_cf1ce_10 ⟨(show 0 + 0 ≤ MC by omega), (show 0 + 0 ≤ MS by omega)⟩ [] rfl (Nat.le_of_ble_eq_true rfl) rfl hW hS hw) hS (fun x_10 G_10 H locs hw hW hS => ?_)
    refine tr_istore_n (k := 2) (x := x_10) C hl [(2, .inl x_10), (0, .inr (.inr v0)), (1, .inr (.inr v1))] (by decide) rfl dJ5_append_cf1ce_13 (fun ls hl => ?_)
    refine tr_aload_n (k := 0) (x := v0) C hl 1 rfl dJ5_append_cf1ce_14 ?_
    refine tr_aload_n (k := 0) (x := v0) C hl 1 rfl dJ5_append_cf1ce_15 ?_
    refine tr_gfI (C0 := RJ4) (T := TJ4) (N := 4) (ci := 1) (ref := "java/lang/AbstractStringBuilder") (k := 3) (r := v0) C (zh hw_J4) rfl (by decide) (zm kw_407) rfl dJ5_append_cf1ce_16 hW hw (fun x_16 hw => ?_)
    refine tr_iload_n (k := 2) (x := x_10) C hl 0 rfl dJ5_append_cf1ce_19 ?_
    refine lv_iadd C.1.1 C.1.2.1 dJ5_append_cf1ce_20 ?_
    obtain ⟨mc_21, ms_21, hb21, hd21, hw⟩ := hw
    refine tr_backV (tr_runU (r := v0) (As := [.int ((x_16 + x_10))]) C hl.1 (c_J5_ensureCapacityInternal_d00df l hll K mc_21 ms_21 _ v0 ((x_16 + x_10))) (va_cwU 1 C.1.2.2.2.2 (gi_U (zm kw_485) (zm kw_486) (zm kw_487) (zm kw_488) (zm kw_404) (zm kw_484)) rfl rfl rfl rfl (by decide +kernel) ⟨(Nat.le_of_ble_eq_true rfl), (Nat.le_of_ble_eq_true rfl)⟩) rfl rfl dJ5_append_cf1ce_21 ⟨hb21, hd21⟩ [] rfl (Nat.le_of_ble_eq_true rfl) rfl hW hS hw) hS (fun G_21 H locs hw hW hS => ?_)
    refine tr_aload_n (k := 0) (x := v0) C hl 1 rfl dJ5_append_cf1ce_24 ?_
    refine tr_aload_n (k := 0) (x := v0) C hl 1 rfl dJ5_append_cf1ce_25 ?_
    refine tr_gfI (C0 := RJ4) (T := TJ4) (N := 4) (ci := 1) (ref := "java/lang/AbstractStringBuilder") (k := 3) (r := v0) C (zh hw_J4) rfl (by decide) (zm kw_407) rfl dJ5_append_cf1ce_26 hW hw (fun x_26 hw => ?_)
    refine tr_aload_n (k := 1) (x := v1) C hl 2 rfl dJ5_append_cf1ce_29 ?_
    refine tr_backV (tr_runU (r := v0) (As := [.int x_26, va_rf v1]) C hl.1 (c_J5_putStringAt_47b60 l hll K _ v0 x_26 v1) (va_cwU 2 C.1.2.2.2.2 (gi_U (zm kw_552) (zm kw_553) (zm kw_554) (zm kw_555) (zm kw_404) (zm kw_551)) rfl rfl rfl rfl (by decide +kernel) ⟨(Nat.le_of_ble_eq_true rfl), (Nat.le_of_ble_eq_true rfl)⟩) rfl rfl dJ5_append_cf1ce_30 ⟨(show (0 + mc_21) + 0 ≤ MC by omega), (show (0 + ms_21) + 0 ≤ MS by omega)⟩ [] rfl (Nat.le_of_ble_eq_true rfl) rfl hW hS hw) hS (fun G_30 H locs hw hW hS => ?_)
    refine tr_aload_n (k := 0) (x := v0) C hl 1 rfl dJ5_append_cf1ce_33 ?_
    refine lv_dup C.1.1 C.1.2.1 dJ5_append_cf1ce_34 (va_rf_cat _) ?_
    refine tr_gfI (C0 := RJ4) (T := TJ4) (N := 4) (ci := 1) (ref := "java/lang/AbstractStringBuilder") (k := 3) (r := v0) C (zh hw_J4) rfl (by decide) (zm kw_407) rfl dJ5_append_cf1ce_35 hW hw (fun x_35 hw => ?_)
    refine tr_iload_n (k := 2) (x := x_10) C hl 0 rfl dJ5_append_cf1ce_38 ?_
    refine lv_iadd C.1.1 C.1.2.1 dJ5_append_cf1ce_39 ?_
    refine tr_pf (C0 := RJ4) (T := TJ4) (N := 4) (ci := 1) (ref := "java/lang/AbstractStringBuilder") (k := 3) (ty := .int) (v := .int ((x_35 + x_10))) (r := v0) C (zh hw_J4) tyJ4 tyJ4_ok nmJ4 rfl (by decide) (zm kw_407) rfl rfl (by decide +kernel) rfl rfl dJ5_append_cf1ce_40 hW hS hw (fun G_40 H locs hw hW hS => ?_)
    refine tr_aload_n (k := 0) (x := v0) C hl 1 rfl dJ5_append_cf1ce_43 ?_
    exact tr_aret (x := v0) C hr (Or.inl ⟨_, rfl⟩) dJ5_append_cf1ce_44 (show (0 + mc_21) ≤ MC by omega) (show (0 + ms_21) ≤ MS by omega) hW hS hw
  · have hw := hw.2 hc
    refine tr_aload_n (k := 0) (x := v0) C hl 0 rfl dJ5_append_cf1ce_4 ?_
    exact hw.elim
end Z_J5_append_cf1ce
set_option maxHeartbeats 4000000 in
set_option maxRecDepth 100000 in
theorem c_J5_append_cf1ce (l : Launch) (hll : l.stackTraces = false) (K : tK) (MC MS : Nat) (post : Option Nat → tG → Prop) (v0 : Option Nat) (v1 : Option Nat) : Ct l yJ5_append_cf1ce wz_J5_append_cf1ce ({ frames := 4, cells := MC, slots := MS, locals := 91 } : Room) MC MS [va_rf v0, va_rf v1] K (retR post) (fun G => w_J5_append_cf1ce K MC MS post v0 v1 G) := by
  refine tc_of (cc := cJ5_append_cf1ce) (maxL := 3) (ret := (some (.object "java/lang/AbstractStringBuilder"))) (own := RJ5) (plainFor_of_name (by decide)) rfl rfl hll [.inr (.inr v0), .inr (.inr v1)] rfl (Nat.le_of_ble_eq_true rfl) ?_
  intro p e s m args below meth c D A G ls C hr hn ht hl hW hS hw
  exact s_J5_append_cf1ce C hr hll MC MS post v0 v1 _ _ _ _ hW hS hl hw

/-! J4_append_15ec4 -/
def wz_J4_append_15ec4 : List Cond := Cond.code yJ4_append_15ec4 cJ4_append_15ec4 2 (some (.object "java/lang/StringBuilder")) :: w0
section Z_J4_append_15ec4
variable {p : Program} {l : Launch} {e : Env} {s : State} {m : MethodId} {args : Array Value} {below : List Frame} {meth : Method} {c : Code} {D : va_G} {A : Nat → Prop}
set_option maxHeartbeats 4000000 in
set_option maxRecDepth 100000 in
theorem s_J4_append_15ec4 {K : tK} (C : tc_B p l s m args meth c D K A wz_J4_append_15ec4 RJ4 cJ4_append_15ec4 2) (hr : meth.sig.returnType = (some (.object "java/lang/StringBuilder"))) (hll : l.stackTraces = false)  (MC MS : Nat) (post : Option Nat → tG → Prop) (v0 : Option Nat) (v1 : Option Nat) : ∀ (G : tG) (H : Heap) (locs : List Loc) (ls : Array Slot), tg_W D A s H G → va_S A s.heap H locs → tl ls 2 [(0, .inr (.inr v0)), (1, .inr (.inr v1))] → w_J4_append_15ec4 K MC MS post v0 v1 G → W p l e ({ frames := 5, cells := MC, slots := MS, locals := 113 } : Room) s m args below meth c H locs 0 0 (MQ below (tc_Qc D A (retR post)) args s MC MS A) (F0 m 0 ls []) := by
  intro G H locs ls hW hS hl hw
  unfold w_J4_append_15ec4 at hw
  refine tr_aload_n (k := 0) (x := v0) C hl 0 rfl dJ4_append_15ec4_0 ?_
  refine tr_aload_n (k := 1) (x := v1) C hl 1 rfl dJ4_append_15ec4_1 ?_
  obtain ⟨mc_2, ms_2, hb2, hd2, hw⟩ := hw
  refine tr_backR (tr_runSU (C0 := RJ4) (T := TJ4) (ci := 1) (r := v0) (As := [va_rf v1]) C hl.1 (c_J5_append_cf1ce l hll K mc_2 ms_2 _ v0 v1) (va_cwSU 1 C.1.2.2.2.2 (gi_SU (zm kw_557) (zm kw_558) (zm kw_411) (zm kw_559) (zm kw_404) (zm kw_556)) rfl rfl rfl (by decide +kernel) ⟨(Nat.le_of_ble_eq_true rfl), (Nat.le_of_ble_eq_true rfl)⟩) rfl rfl dJ4_append_15ec4_2 ⟨hb2, hd2⟩ [] rfl (Nat.le_of_ble_eq_true rfl) rfl hW hS hw) hS (fun x_2 G_2 H locs hw hW hS => ?_)
  refine lv_pop C.1.1 C.1.2.1 dJ4_append_15ec4_5 (va_rf_cat _) ?_
  refine tr_aload_n (k := 0) (x := v0) C hl 0 rfl dJ4_append_15ec4_6 ?_
  exact tr_aret (x := v0) C hr (Or.inl ⟨_, rfl⟩) dJ4_append_15ec4_7 (show (0 + mc_2) ≤ MC by omega) (show (0 + ms_2) ≤ MS by omega) hW hS hw
end Z_J4_append_15ec4
set_option maxHeartbeats 4000000 in
set_option maxRecDepth 100000 in
theorem c_J4_append_15ec4 (l : Launch) (hll : l.stackTraces = false) (K : tK) (MC MS : Nat) (post : Option Nat → tG → Prop) (v0 : Option Nat) (v1 : Option Nat) : Ct l yJ4_append_15ec4 wz_J4_append_15ec4 ({ frames := 5, cells := MC, slots := MS, locals := 113 } : Room) MC MS [va_rf v0, va_rf v1] K (retR post) (fun G => w_J4_append_15ec4 K MC MS post v0 v1 G) := by
  refine tc_of (cc := cJ4_append_15ec4) (maxL := 2) (ret := (some (.object "java/lang/StringBuilder"))) (own := RJ4) (plainFor_of_name (by decide)) rfl rfl hll [.inr (.inr v0), .inr (.inr v1)] rfl (Nat.le_of_ble_eq_true rfl) ?_
  intro p e s m args below meth c D A G ls C hr hn ht hl hW hS hw
  exact s_J4_append_15ec4 C hr hll MC MS post v0 v1 _ _ _ _ hW hS hl hw

/-! J0_isEmpty_aae02 -/
def wz_J0_isEmpty_aae02 : List Cond := Cond.code yJ0_isEmpty_aae02 cJ0_isEmpty_aae02 1 (some .boolean) :: w0
section Z_J0_isEmpty_aae02
variable {p : Program} {l : Launch} {e : Env} {s : State} {m : MethodId} {args : Array Value} {below : List Frame} {meth : Method} {c : Code} {D : va_G} {A : Nat → Prop}
set_option maxHeartbeats 4000000 in
set_option maxRecDepth 100000 in
theorem s_J0_isEmpty_aae02_13 {K : tK} (C : tc_B p l s m args meth c D K A wz_J0_isEmpty_aae02 RJ0 cJ0_isEmpty_aae02 1) (hr : meth.sig.returnType = (some .boolean)) (hll : l.stackTraces = false)  (post : Int32 → tG → Prop) : ∀ (u0 : Int32) (G : tG) (H : Heap) (locs : List Loc) (ls : Array Slot), tg_W D A s H G → va_S A s.heap H locs → tl ls 1 [] → w_J0_isEmpty_aae02_13 K post u0 G → W p l e ({ frames := 0, cells := 0, slots := 0, locals := 0 } : Room) s m args below meth c H locs 0 0 (MQ below (tc_Qc D A (retI post)) args s 0 0 A) (F0 m 13 ls [.int u0]) := by
  intro u0 G H locs ls hW hS hl hw
  unfold w_J0_isEmpty_aae02_13 at hw
  exact tr_zret C hr dJ0_isEmpty_aae02_13 (Nat.le_of_ble_eq_true rfl) (Nat.le_of_ble_eq_true rfl) hW hS hw
set_option maxHeartbeats 4000000 in
set_option maxRecDepth 100000 in
theorem s_J0_isEmpty_aae02 {K : tK} (C : tc_B p l s m args meth c D K A wz_J0_isEmpty_aae02 RJ0 cJ0_isEmpty_aae02 1) (hr : meth.sig.returnType = (some .boolean)) (hll : l.stackTraces = false)  (post : Int32 → tG → Prop) (v0 : Option Nat) : ∀ (G : tG) (H : Heap) (locs : List Loc) (ls : Array Slot), tg_W D A s H G → va_S A s.heap H locs → tl ls 1 [(0, .inr (.inr v0))] → w_J0_isEmpty_aae02 K post v0 G → W p l e ({ frames := 0, cells := 0, slots := 0, locals := 0 } : Room) s m args below meth c H locs 0 0 (MQ below (tc_Qc D A (retI post)) args s 0 0 A) (F0 m 0 ls []) := by
  intro G H locs ls hW hS hl hw
  unfold w_J0_isEmpty_aae02 at hw
  refine tr_aload_n (k := 0) (x := v0) C hl 0 rfl dJ0_isEmpty_aae02_0 ?_
  refine tr_gsV (T := TJ0) (N := 4) (ci := 0) (r := v0) C (zh hw_J0) rfl (by decide) (zm kw_435) rfl rfl rfl dJ0_isEmpty_aae02_1 hW hS hw (fun x_1 hw => ?_)
  refine tr_lenK (r := x_1) C dJ0_isEmpty_aae02_4 hW hS hw (fun x_4 hw => ?_)
  refine lv_if_ne (tgt := 12) C.1.1 C.1.2.1 dJ0_isEmpty_aae02_5 (by decide) (fun hc => ?_) (fun hc => ?_)
  · have hw := hw.1 hc
    refine lv_iconst (v := (0 : Int32)) C.1.1 C.1.2.1 dJ0_isEmpty_aae02_12 (by decide) ?_
    exact s_J0_isEmpty_aae02_13 C hr hll post ((0 : Int32)) _ _ _ _ hW hS (tl_sub hl [] rfl) hw
  · have hw := hw.2 hc
    refine lv_iconst (v := (1 : Int32)) C.1.1 C.1.2.1 dJ0_isEmpty_aae02_8 (by decide) ?_
    refine lv_goto (tgt := 13) C.1.1 C.1.2.1 dJ0_isEmpty_aae02_9 (by decide) ?_
    exact s_J0_isEmpty_aae02_13 C hr hll post ((1 : Int32)) _ _ _ _ hW hS (tl_sub hl [] rfl) hw
end Z_J0_isEmpty_aae02
set_option maxHeartbeats 4000000 in
set_option maxRecDepth 100000 in
theorem c_J0_isEmpty_aae02 (l : Launch) (hll : l.stackTraces = false) (K : tK) (post : Int32 → tG → Prop) (v0 : Option Nat) : Ct l yJ0_isEmpty_aae02 wz_J0_isEmpty_aae02 ({ frames := 0, cells := 0, slots := 0, locals := 0 } : Room) 0 0 [va_rf v0] K (retI post) (fun G => w_J0_isEmpty_aae02 K post v0 G) := by
  refine tc_of (cc := cJ0_isEmpty_aae02) (maxL := 1) (ret := (some .boolean)) (own := RJ0) (plainFor_of_name (by decide)) rfl rfl hll [.inr (.inr v0)] rfl (Nat.le_of_ble_eq_true rfl) ?_
  intro p e s m args below meth c D A G ls C hr hn ht hl hW hS hw
  exact s_J0_isEmpty_aae02 C hr hll post v0 _ _ _ _ hW hS hl hw

/-! X3_shown -/
def wz_X3_shown : List Cond := Cond.code yX3_shown cX3_shown 1 (some (.object "java/lang/String")) :: w0
section Z_X3_shown
variable {p : Program} {l : Launch} {e : Env} {s : State} {m : MethodId} {args : Array Value} {below : List Frame} {meth : Method} {c : Code} {D : va_G} {A : Nat → Prop}
set_option maxHeartbeats 4000000 in
set_option maxRecDepth 100000 in
theorem s_X3_shown_31 {K : tK} (C : tc_B p l s m args meth c D K A wz_X3_shown RX3 cX3_shown 1) (hr : meth.sig.returnType = (some (.object "java/lang/String"))) (hll : l.stackTraces = false)  (MC MS : Nat) (post : Option Nat → tG → Prop) : ∀ (nc ns : Nat) (u0 : Option Nat) (G : tG) (H : Heap) (locs : List Loc) (ls : Array Slot), nc ≤ MC ∧ ns ≤ MS → tg_W D A s H G → va_S A s.heap H locs → tl ls 1 [] → w_X3_shown_31 K MC MS post nc ns u0 G → W p l e ({ frames := 6, cells := MC, slots := MS, locals := 151 } : Room) s m args below meth c H locs nc ns (MQ below (tc_Qc D A (retR post)) args s MC MS A) (F0 m 31 ls [va_rf u0]) := by
  intro nc ns u0 G H locs ls hcn hW hS hl hw
  unfold w_X3_shown_31 at hw
  exact tr_aret (x := u0) C hr (Or.inl ⟨_, rfl⟩) dX3_shown_31 (show nc ≤ MC by omega) (show ns ≤ MS by omega) hW hS hw
set_option maxHeartbeats 4000000 in
set_option maxRecDepth 100000 in
theorem s_X3_shown {K : tK} (C : tc_B p l s m args meth c D K A wz_X3_shown RX3 cX3_shown 1) (hr : meth.sig.returnType = (some (.object "java/lang/String"))) (hll : l.stackTraces = false)  (MC MS : Nat) (post : Option Nat → tG → Prop) (v0 : Int32) : ∀ (G : tG) (H : Heap) (locs : List Loc) (ls : Array Slot), tg_W D A s H G → va_S A s.heap H locs → tl ls 1 [(0, .inl v0)] → w_X3_shown K MC MS post v0 G → W p l e ({ frames := 6, cells := MC, slots := MS, locals := 151 } : Room) s m args below meth c H locs 0 0 (MQ below (tc_Qc D A (retR post)) args s MC MS A) (F0 m 0 ls []) := by
  intro G H locs ls hW hS hl hw
  unfold w_X3_shown at hw
  refine tr_iload_n (k := 0) (x := v0) C hl 0 rfl dX3_shown_0 ?_
  refine lv_sipush (v := (-1000 : Int32)) C.1.1 C.1.2.1 dX3_shown_1 (by decide) ?_
  refine lv_icmp_ne (tgt := 12) C.1.1 C.1.2.1 dX3_shown_4 (by decide) (fun hc => ?_) (fun hc => ?_)
  · have hw := hw.1 hc
    have hq1 := hw.1
    have hw := hw.2
    refine tr_new (C0 := RJ4) (T := TJ4) (N := 4) (ci := 1) (fs := [.null, .int 0, .int 0, .int 0]) C (zh hw_J4) tyJ4 tyJ4_ok (zm kw_560) (zm kw_521) (zm kw_447) rfl df_J4 hq1.1 hq1.2 dX3_shown_12 hW hS hw (fun r_12 G_12 H hw hW hS => ?_)
    refine lv_dup C.1.1 C.1.2.1 dX3_shown_15 (va_rf_cat _) ?_
    obtain ⟨mc_16, ms_16, hb16, hd16, hw⟩ := hw
    refine tr_backV (tr_runI (r := r_12) (As := []) C hl.1 (c_J4_init_da8c8 l hll K mc_16 ms_16 _ r_12) (cwI 0 C.1.2.2.2.2 (gi_I  (zm kw_522)) rfl rfl rfl (C.1.2.2.2.2 _ (zm kw_447)) (C.1.2.2.2.2 _ (zm kw_561)) (C.1.2.2.2.2 _ (zm kw_524)) rfl (by decide +kernel) ⟨(Nat.le_of_ble_eq_true rfl), (Nat.le_of_ble_eq_true rfl)⟩) rfl dX3_shown_16 ⟨hb16, hd16⟩ [.inr (.inr r_12)] rfl (Nat.le_of_ble_eq_true rfl) rfl hW hS hw) hS (fun G_16 H locs hw hW hS => ?_)
    refine tr_ldcS (cn := 6) (tx := "") C (by decide) dX3_shown_19 ?_
    obtain ⟨mc_21, ms_21, hb21, hd21, hw⟩ := hw
    refine tr_backR (tr_runV (r := r_12) (As := [va_rf ((some (K.2.2 6)))]) C hl.1 (c_J4_append_15ec4 l hll K mc_21 ms_21 _ r_12 ((some (K.2.2 6)))) (cwV 1 C.1.2.2.2.2 (gi_V (zm kw_563) (zm kw_564) (zm kw_565) (zm kw_447) (zm kw_562)) rfl rfl rfl (by decide +kernel) ⟨(Nat.le_of_ble_eq_true rfl), (Nat.le_of_ble_eq_true rfl)⟩) rfl rfl dX3_shown_21 ⟨hb21, hd21⟩ [] rfl (Nat.le_of_ble_eq_true rfl) rfl hW hS hw) hS (fun x_21 G_21 H locs hw hW hS => ?_)
    refine tr_iload_n (k := 0) (x := v0) C hl 0 rfl dX3_shown_24 ?_
    obtain ⟨mc_25, ms_25, hb25, hd25, hw⟩ := hw
    refine tr_backR (tr_runV (r := x_21) (As := [.int v0]) C hl.1 (c_J4_append_bf812 l hll K mc_25 ms_25 _ x_21 v0) (cwV 1 C.1.2.2.2.2 (gi_V (zm kw_566) (zm kw_507) (zm kw_508) (zm kw_447) (zm kw_505)) rfl rfl rfl (by decide +kernel) ⟨(Nat.le_of_ble_eq_true rfl), (Nat.le_of_ble_eq_true rfl)⟩) rfl rfl dX3_shown_25 ⟨hb25, hd25⟩ [] rfl (Nat.le_of_ble_eq_true rfl) rfl hW hS hw) hS (fun x_25 G_25 H locs hw hW hS => ?_)
    obtain ⟨mc_28, ms_28, hb28, hd28, hw⟩ := hw
    refine tr_backR (tr_runV (r := x_25) (As := []) C hl.1 (c_J4_toString_0e30d l hll K mc_28 ms_28 _ x_25) (cwV 0 C.1.2.2.2.2 (gi_V (zm kw_567) (zm kw_518) (zm kw_519) (zm kw_447) (zm kw_516)) rfl rfl rfl (by decide +kernel) ⟨(Nat.le_of_ble_eq_true rfl), (Nat.le_of_ble_eq_true rfl)⟩) rfl rfl dX3_shown_28 ⟨hb28, hd28⟩ [] rfl (Nat.le_of_ble_eq_true rfl) rfl hW hS hw) hS (fun x_28 G_28 H locs hw hW hS => ?_)
    exact s_X3_shown_31 C hr hll MC MS post ((((((0 + 1) + mc_16) + mc_21) + mc_25) + mc_28)) ((((((0 + 4) + ms_16) + ms_21) + ms_25) + ms_28)) x_28 _ _ _ _ (show (((((0 + 1) + mc_16) + mc_21) + mc_25) + mc_28) ≤ MC ∧ (((((0 + 4) + ms_16) + ms_21) + ms_25) + ms_28) ≤ MS by omega) hW hS (tl_sub hl [] rfl) hw
  · have hw := hw.2 hc
    refine tr_ldcS (cn := 5) (tx := "-") C (by decide) dX3_shown_7 ?_
    refine lv_goto (tgt := 31) C.1.1 C.1.2.1 dX3_shown_9 (by decide) ?_
    exact s_X3_shown_31 C hr hll MC MS post 0 0 ((some (K.2.2 5))) _ _ _ _ (show 0 ≤ MC ∧ 0 ≤ MS by omega) hW hS (tl_sub hl [] rfl) hw
end Z_X3_shown
set_option maxHeartbeats 4000000 in
set_option maxRecDepth 100000 in
theorem c_X3_shown (l : Launch) (hll : l.stackTraces = false) (K : tK) (MC MS : Nat) (post : Option Nat → tG → Prop) (v0 : Int32) : Ct l yX3_shown wz_X3_shown ({ frames := 6, cells := MC, slots := MS, locals := 151 } : Room) MC MS [.int v0] K (retR post) (fun G => w_X3_shown K MC MS post v0 G) := by
  refine tc_of (cc := cX3_shown) (maxL := 1) (ret := (some (.object "java/lang/String"))) (own := RX3) (plainFor_of_name (by decide)) rfl rfl hll [.inl v0] rfl (Nat.le_of_ble_eq_true rfl) ?_
  intro p e s m args below meth c D A G ls C hr hn ht hl hW hS hw
  exact s_X3_shown C hr hll MC MS post v0 _ _ _ _ hW hS hl hw

/-! X3_walk -/
def wz_X3_walk : List Cond := Cond.code yX3_walk cX3_walk 8 (some (.object "java/lang/String")) :: w0
section Z_X3_walk
variable {p : Program} {l : Launch} {e : Env} {s : State} {m : MethodId} {args : Array Value} {below : List Frame} {meth : Method} {c : Code} {D : va_G} {A : Nat → Prop}
set_option maxHeartbeats 4000000 in
set_option maxRecDepth 100000 in
theorem s_X3_walk_153 {K : tK} (C : tc_B p l s m args meth c D K A wz_X3_walk RX3 cX3_walk 8) (hr : meth.sig.returnType = (some (.object "java/lang/String"))) (hll : l.stackTraces = false)  (MC MS : Nat) (post : Option Nat → tG → Prop) (k60 : Nat → Nat → Option Nat → Int32 → Int32 → Int32 → Option Nat → Int32 → Int32 → tG → Prop) (hk60 : ∀ (nc ns : Nat) (v0 : Option Nat) (v1 : Int32) (v3 : Int32) (v4 : Int32) (v5 : Option Nat) (v6 : Int32) (v7 : Int32) (G : tG) (H : Heap) (locs : List Loc) (ls : Array Slot), nc ≤ MC ∧ ns ≤ MS → tg_W D A s H G → va_S A s.heap H locs → tl ls 8 [(0, .inr (.inr v0)), (1, .inl v1), (3, .inl v3), (4, .inl v4), (5, .inr (.inr v5)), (6, .inl v6), (7, .inl v7)] → k60 nc ns v0 v1 v3 v4 v5 v6 v7 G → W p l e ({ frames := 7, cells := MC, slots := MS, locals := 171 } : Room) s m args below meth c H locs nc ns (MQ below (tc_Qc D A (retR post)) args s MC MS A) (F0 m 60 ls [])) : ∀ (nc ns : Nat) (v0 : Option Nat) (v1 : Int32) (v3 : Int32) (v4 : Int32) (v5 : Option Nat) (v7 : Int32) (u0 : Int32) (u1 : Int32) (G : tG) (H : Heap) (locs : List Loc) (ls : Array Slot), nc ≤ MC ∧ ns ≤ MS → tg_W D A s H G → va_S A s.heap H locs → tl ls 8 [(0, .inr (.inr v0)), (1, .inl v1), (3, .inl v3), (4, .inl v4), (5, .inr (.inr v5)), (7, .inl v7)] → w_X3_walk_153 K MC MS post k60 nc ns v0 v1 v3 v4 v5 v7 u0 u1 G → W p l e ({ frames := 7, cells := MC, slots := MS, locals := 171 } : Room) s m args below meth c H locs nc ns (MQ below (tc_Qc D A (retR post)) args s MC MS A) (F0 m 153 ls [.int u1, .int u0]) := by
  intro nc ns v0 v1 v3 v4 v5 v7 u0 u1 G H locs ls hcn hW hS hl hw
  unfold w_X3_walk_153 at hw
  refine lv_iadd C.1.1 C.1.2.1 dX3_walk_153 ?_
  refine tr_istore (x := (u0 + u1)) C hl [(6, .inl (u0 + u1)), (0, .inr (.inr v0)), (1, .inl v1), (3, .inl v3), (4, .inl v4), (5, .inr (.inr v5)), (7, .inl v7)] (by decide) rfl dX3_walk_154 (fun ls hl => ?_)
  refine tr_iinc C hl 6 (v7 + (1 : Int32)) [(7, .inl (v7 + (1 : Int32))), (6, .inl (u0 + u1)), (0, .inr (.inr v0)), (1, .inl v1), (3, .inl v3), (4, .inl v4), (5, .inr (.inr v5))] rfl rfl (by decide) rfl dX3_walk_156 (fun ls hl => ?_)
  refine lv_goto (tgt := 60) C.1.1 C.1.2.1 dX3_walk_159 (by decide) ?_
  exact hk60 nc ns v0 v1 v3 v4 v5 ((u0 + u1)) ((v7 + (1 : Int32))) _ _ _ _ (show nc ≤ MC ∧ ns ≤ MS by omega) hW hS (tl_sub hl [2, 3, 4, 5, 6, 1, 0] rfl) hw
set_option maxHeartbeats 4000000 in
set_option maxRecDepth 100000 in
theorem s_X3_walk_110 {K : tK} (C : tc_B p l s m args meth c D K A wz_X3_walk RX3 cX3_walk 8) (hr : meth.sig.returnType = (some (.object "java/lang/String"))) (hll : l.stackTraces = false)  (MC MS : Nat) (post : Option Nat → tG → Prop) (k60 : Nat → Nat → Option Nat → Int32 → Int32 → Int32 → Option Nat → Int32 → Int32 → tG → Prop) (hk60 : ∀ (nc ns : Nat) (v0 : Option Nat) (v1 : Int32) (v3 : Int32) (v4 : Int32) (v5 : Option Nat) (v6 : Int32) (v7 : Int32) (G : tG) (H : Heap) (locs : List Loc) (ls : Array Slot), nc ≤ MC ∧ ns ≤ MS → tg_W D A s H G → va_S A s.heap H locs → tl ls 8 [(0, .inr (.inr v0)), (1, .inl v1), (3, .inl v3), (4, .inl v4), (5, .inr (.inr v5)), (6, .inl v6), (7, .inl v7)] → k60 nc ns v0 v1 v3 v4 v5 v6 v7 G → W p l e ({ frames := 7, cells := MC, slots := MS, locals := 171 } : Room) s m args below meth c H locs nc ns (MQ below (tc_Qc D A (retR post)) args s MC MS A) (F0 m 60 ls [])) : ∀ (nc ns : Nat) (v0 : Option Nat) (v1 : Int32) (v3 : Int32) (v4 : Int32) (v6 : Int32) (v7 : Int32) (u0 : Option Nat) (u1 : Option Nat) (G : tG) (H : Heap) (locs : List Loc) (ls : Array Slot), nc ≤ MC ∧ ns ≤ MS → tg_W D A s H G → va_S A s.heap H locs → tl ls 8 [(0, .inr (.inr v0)), (1, .inl v1), (3, .inl v3), (4, .inl v4), (6, .inl v6), (7, .inl v7)] → w_X3_walk_110 K MC MS post k60 nc ns v0 v1 v3 v4 v6 v7 u0 u1 G → W p l e ({ frames := 7, cells := MC, slots := MS, locals := 171 } : Room) s m args below meth c H locs nc ns (MQ below (tc_Qc D A (retR post)) args s MC MS A) (F0 m 110 ls [va_rf u1, va_rf u0]) := by
  intro nc ns v0 v1 v3 v4 v6 v7 u0 u1 G H locs ls hcn hW hS hl hw
  unfold w_X3_walk_110 at hw
  obtain ⟨mc_110, ms_110, hb110, hd110, hw⟩ := hw
  refine tr_backR (tr_runV (r := u0) (As := [va_rf u1]) C hl.1 (c_J4_append_15ec4 l hll K mc_110 ms_110 _ u0 u1) (cwV 1 C.1.2.2.2.2 (gi_V (zm kw_563) (zm kw_564) (zm kw_565) (zm kw_447) (zm kw_562)) rfl rfl rfl (by decide +kernel) ⟨(Nat.le_of_ble_eq_true rfl), (Nat.le_of_ble_eq_true rfl)⟩) rfl rfl dX3_walk_110 ⟨hb110, hd110⟩ [] rfl (Nat.le_of_ble_eq_true rfl) rfl hW hS hw) hS (fun x_110 G_110 H locs hw hW hS => ?_)
  refine tr_iload (x := v6) C hl 4 rfl dX3_walk_113 ?_
  obtain ⟨mc_115, ms_115, hb115, hd115, hw⟩ := hw
  refine tr_backR (tr_runV (r := x_110) (As := [.int v6]) C hl.1 (c_J4_append_bf812 l hll K mc_115 ms_115 _ x_110 v6) (cwV 1 C.1.2.2.2.2 (gi_V (zm kw_566) (zm kw_507) (zm kw_508) (zm kw_447) (zm kw_505)) rfl rfl rfl (by decide +kernel) ⟨(Nat.le_of_ble_eq_true rfl), (Nat.le_of_ble_eq_true rfl)⟩) rfl rfl dX3_walk_115 ⟨hb115, hd115⟩ [] rfl (Nat.le_of_ble_eq_true rfl) rfl hW hS hw) hS (fun x_115 G_115 H locs hw hW hS => ?_)
  refine tr_ldcS (cn := 8) (tx := ":") C (by decide) dX3_walk_118 ?_
  obtain ⟨mc_120, ms_120, hb120, hd120, hw⟩ := hw
  refine tr_backR (tr_runV (r := x_115) (As := [va_rf ((some (K.2.2 8)))]) C hl.1 (c_J4_append_15ec4 l hll K mc_120 ms_120 _ x_115 ((some (K.2.2 8)))) (cwV 1 C.1.2.2.2.2 (gi_V (zm kw_563) (zm kw_564) (zm kw_565) (zm kw_447) (zm kw_562)) rfl rfl rfl (by decide +kernel) ⟨(Nat.le_of_ble_eq_true rfl), (Nat.le_of_ble_eq_true rfl)⟩) rfl rfl dX3_walk_120 ⟨hb120, hd120⟩ [] rfl (Nat.le_of_ble_eq_true rfl) rfl hW hS hw) hS (fun x_120 G_120 H locs hw hW hS => ?_)
  refine tr_aload_n (k := 0) (x := v0) C hl 0 rfl dX3_walk_123 ?_
  refine tr_iload_n (k := 1) (x := v1) C hl 1 rfl dX3_walk_124 ?_
  refine tr_iload (x := v6) C hl 4 rfl dX3_walk_125 ?_
  refine tr_backI (tr_runV (r := v0) (As := [.int v1, .int v6]) C hl.1 (c_X3_value l hll K _ v0 v1 v6) (cwV 2 C.1.2.2.2.2 (gi_V (zm kw_152) (zm kw_153) (zm kw_154) (zm kw_155) (zm kw_151)) rfl rfl rfl (by decide +kernel) ⟨(Nat.le_of_ble_eq_true rfl), (Nat.le_of_ble_eq_true rfl)⟩) rfl rfl dX3_walk_127 ⟨(show (((nc + mc_110) + mc_115) + mc_120) + 0 ≤ MC by omega), (show (((ns + ms_110) + ms_115) + ms_120) + 0 ≤ MS by omega)⟩ [.inr (.inr x_120)] rfl (Nat.le_of_ble_eq_true rfl) rfl hW hS hw) hS (fun x_127 G_127 H locs hw hW hS => ?_)
  obtain ⟨mc_130, ms_130, hb130, hd130, hw⟩ := hw
  refine tr_backR (tr_runS (As := [.int x_127]) C hl.1 (c_X3_shown l hll K mc_130 ms_130 _ x_127) (va_cwS 1 C.1.2.2.2.2 (gi_S (zm kw_569) (zm kw_570) (zm kw_155) (zm kw_568)) rfl rfl rfl (by decide +kernel) ⟨(Nat.le_of_ble_eq_true rfl), (Nat.le_of_ble_eq_true rfl)⟩) rfl dX3_walk_130 ⟨hb130, hd130⟩ [.inr (.inr x_120)] rfl (Nat.le_of_ble_eq_true rfl) rfl hW hS hw) hS (fun x_130 G_130 H locs hw hW hS => ?_)
  obtain ⟨mc_133, ms_133, hb133, hd133, hw⟩ := hw
  refine tr_backR (tr_runV (r := x_120) (As := [va_rf x_130]) C hl.1 (c_J4_append_15ec4 l hll K mc_133 ms_133 _ x_120 x_130) (cwV 1 C.1.2.2.2.2 (gi_V (zm kw_563) (zm kw_564) (zm kw_565) (zm kw_447) (zm kw_562)) rfl rfl rfl (by decide +kernel) ⟨(Nat.le_of_ble_eq_true rfl), (Nat.le_of_ble_eq_true rfl)⟩) rfl rfl dX3_walk_133 ⟨hb133, hd133⟩ [] rfl (Nat.le_of_ble_eq_true rfl) rfl hW hS hw) hS (fun x_133 G_133 H locs hw hW hS => ?_)
  obtain ⟨mc_136, ms_136, hb136, hd136, hw⟩ := hw
  refine tr_backR (tr_runV (r := x_133) (As := []) C hl.1 (c_J4_toString_0e30d l hll K mc_136 ms_136 _ x_133) (cwV 0 C.1.2.2.2.2 (gi_V (zm kw_567) (zm kw_518) (zm kw_519) (zm kw_447) (zm kw_516)) rfl rfl rfl (by decide +kernel) ⟨(Nat.le_of_ble_eq_true rfl), (Nat.le_of_ble_eq_true rfl)⟩) rfl rfl dX3_walk_136 ⟨hb136, hd136⟩ [] rfl (Nat.le_of_ble_eq_true rfl) rfl hW hS hw) hS (fun x_136 G_136 H locs hw hW hS => ?_)
  refine tr_astore (x := x_136) C hl [(5, .inr (.inr x_136)), (0, .inr (.inr v0)), (1, .inl v1), (3, .inl v3), (4, .inl v4), (6, .inl v6), (7, .inl v7)] (by decide) rfl dX3_walk_139 (fun ls hl => ?_)
  refine tr_iload (x := v6) C hl 5 rfl dX3_walk_141 ?_
  refine tr_iload (x := v4) C hl 4 rfl dX3_walk_143 ?_
  refine lv_if_eq (tgt := 152) C.1.1 C.1.2.1 dX3_walk_145 (by decide) (fun hc => ?_) (fun hc => ?_)
  · have hw := hw.1 hc
    refine lv_iconst (v := (1 : Int32)) C.1.1 C.1.2.1 dX3_walk_152 (by decide) ?_
    exact s_X3_walk_153 C hr hll MC MS post k60 hk60 (((((((nc + mc_110) + mc_115) + mc_120) + mc_130) + mc_133) + mc_136)) (((((((ns + ms_110) + ms_115) + ms_120) + ms_130) + ms_133) + ms_136)) v0 v1 v3 v4 x_136 v7 v6 ((1 : Int32)) _ _ _ _ (show ((((((nc + mc_110) + mc_115) + mc_120) + mc_130) + mc_133) + mc_136) ≤ MC ∧ ((((((ns + ms_110) + ms_115) + ms_120) + ms_130) + ms_133) + ms_136) ≤ MS by omega) hW hS (tl_sub hl [1, 2, 3, 4, 0, 6] rfl) hw
  · have hw := hw.2 hc
    refine lv_iconst (v := (-1 : Int32)) C.1.1 C.1.2.1 dX3_walk_148 (by decide) ?_
    refine lv_goto (tgt := 153) C.1.1 C.1.2.1 dX3_walk_149 (by decide) ?_
    exact s_X3_walk_153 C hr hll MC MS post k60 hk60 (((((((nc + mc_110) + mc_115) + mc_120) + mc_130) + mc_133) + mc_136)) (((((((ns + ms_110) + ms_115) + ms_120) + ms_130) + ms_133) + ms_136)) v0 v1 v3 v4 x_136 v7 v6 ((-1 : Int32)) _ _ _ _ (show ((((((nc + mc_110) + mc_115) + mc_120) + mc_130) + mc_133) + mc_136) ≤ MC ∧ ((((((ns + ms_110) + ms_115) + ms_120) + ms_130) + ms_133) + ms_136) ≤ MS by omega) hW hS (tl_sub hl [1, 2, 3, 4, 0, 6] rfl) hw
set_option maxHeartbeats 4000000 in
set_option maxRecDepth 100000 in
theorem s_X3_walk_162 {K : tK} (C : tc_B p l s m args meth c D K A wz_X3_walk RX3 cX3_walk 8) (hr : meth.sig.returnType = (some (.object "java/lang/String"))) (hll : l.stackTraces = false)  (MC MS : Nat) (post : Option Nat → tG → Prop) : ∀ (nc ns : Nat) (v5 : Option Nat) (G : tG) (H : Heap) (locs : List Loc) (ls : Array Slot), nc ≤ MC ∧ ns ≤ MS → tg_W D A s H G → va_S A s.heap H locs → tl ls 8 [(5, .inr (.inr v5))] → w_X3_walk_162 K MC MS post nc ns v5 G → W p l e ({ frames := 7, cells := MC, slots := MS, locals := 171 } : Room) s m args below meth c H locs nc ns (MQ below (tc_Qc D A (retR post)) args s MC MS A) (F0 m 162 ls []) := by
  intro nc ns v5 G H locs ls hcn hW hS hl hw
  unfold w_X3_walk_162 at hw
  refine tr_aload (x := v5) C hl 0 rfl dX3_walk_162 ?_
  exact tr_aret (x := v5) C hr (Or.inl ⟨_, rfl⟩) dX3_walk_164 (show nc ≤ MC by omega) (show ns ≤ MS by omega) hW hS hw
set_option maxHeartbeats 4000000 in
set_option maxRecDepth 100000 in
theorem s_X3_walk_60_b {K : tK} (C : tc_B p l s m args meth c D K A wz_X3_walk RX3 cX3_walk 8) (hr : meth.sig.returnType = (some (.object "java/lang/String"))) (hll : l.stackTraces = false)  (MC MS : Nat) (post : Option Nat → tG → Prop) (k60 : Nat → Nat → Option Nat → Int32 → Int32 → Int32 → Option Nat → Int32 → Int32 → tG → Prop) (hk60 : ∀ (nc ns : Nat) (v0 : Option Nat) (v1 : Int32) (v3 : Int32) (v4 : Int32) (v5 : Option Nat) (v6 : Int32) (v7 : Int32) (G : tG) (H : Heap) (locs : List Loc) (ls : Array Slot), nc ≤ MC ∧ ns ≤ MS → tg_W D A s H G → va_S A s.heap H locs → tl ls 8 [(0, .inr (.inr v0)), (1, .inl v1), (3, .inl v3), (4, .inl v4), (5, .inr (.inr v5)), (6, .inl v6), (7, .inl v7)] → k60 nc ns v0 v1 v3 v4 v5 v6 v7 G → W p l e ({ frames := 7, cells := MC, slots := MS, locals := 171 } : Room) s m args below meth c H locs nc ns (MQ below (tc_Qc D A (retR post)) args s MC MS A) (F0 m 60 ls [])) : ∀ (nc ns : Nat) (v0 : Option Nat) (v1 : Int32) (v3 : Int32) (v4 : Int32) (v5 : Option Nat) (v6 : Int32) (v7 : Int32) (G : tG) (H : Heap) (locs : List Loc) (ls : Array Slot), nc ≤ MC ∧ ns ≤ MS → tg_W D A s H G → va_S A s.heap H locs → tl ls 8 [(0, .inr (.inr v0)), (1, .inl v1), (3, .inl v3), (4, .inl v4), (5, .inr (.inr v5)), (6, .inl v6), (7, .inl v7)] → w_X3_walk_60_b K MC MS post k60 nc ns v0 v1 v3 v4 v5 v6 v7 G → W p l e ({ frames := 7, cells := MC, slots := MS, locals := 171 } : Room) s m args below meth c H locs nc ns (MQ below (tc_Qc D A (retR post)) args s MC MS A) (F0 m 60 ls []) := by
  intro nc ns v0 v1 v3 v4 v5 v6 v7 G H locs ls hcn hW hS hl hw
  unfold w_X3_walk_60_b at hw
  refine tr_iload (x := v7) C hl 6 rfl dX3_walk_60 ?_
  refine tr_iload_n (k := 3) (x := v3) C hl 2 rfl dX3_walk_62 ?_
  refine lv_icmp_ge (tgt := 162) C.1.1 C.1.2.1 dX3_walk_63 (by decide) (fun hc => ?_) (fun hc => ?_)
  · have hw := hw.1 hc
    exact s_X3_walk_162 C hr hll MC MS post nc ns v5 _ _ _ _ (show nc ≤ MC ∧ ns ≤ MS by omega) hW hS (tl_sub hl [4] rfl) hw
  · have hw := hw.2 hc
    refine tr_iload (x := v6) C hl 5 rfl dX3_walk_66 ?_
    refine lv_iconst (v := (0 : Int32)) C.1.1 C.1.2.1 dX3_walk_68 (by decide) ?_
    refine tr_aload_n (k := 0) (x := v0) C hl 0 rfl dX3_walk_69 ?_
    refine tr_gfR (C0 := RX3) (T := TX3) (N := 8) (ci := 5) (ref := "TwinrowModel") (k := 3) (r := v0) C (zh hw_X3) rfl (by decide) (zm kw_24) rfl dX3_walk_70 hW hw (fun x_70 hw => ?_)
    refine tr_iload_n (k := 1) (x := v1) C hl 1 rfl dX3_walk_73 ?_
    refine tr_alI (r := x_70) C dX3_walk_74 hW hw (fun x_74 hw => ?_)
    refine lv_iconst (v := (1 : Int32)) C.1.1 C.1.2.1 dX3_walk_75 (by decide) ?_
    refine lv_isub C.1.1 C.1.2.1 dX3_walk_76 ?_
    refine tr_backI (tr_runS (As := [.int v6, .int ((0 : Int32)), .int ((x_74 - (1 : Int32)))]) C hl.1 (c_X3_isIn l hll K _ v6 ((0 : Int32)) ((x_74 - (1 : Int32)))) (va_cwS 3 C.1.2.2.2.2 (gi_S (zm kw_194) (zm kw_195) (zm kw_155) (zm kw_193)) rfl rfl rfl (by decide +kernel) ⟨(Nat.le_of_ble_eq_true rfl), (Nat.le_of_ble_eq_true rfl)⟩) rfl dX3_walk_77 ⟨(show nc + 0 ≤ MC by omega), (show ns + 0 ≤ MS by omega)⟩ [] rfl (Nat.le_of_ble_eq_true rfl) rfl hW hS hw) hS (fun x_77 G_77 H locs hw hW hS => ?_)
    refine lv_if_eq (tgt := 162) C.1.1 C.1.2.1 dX3_walk_80 (by decide) (fun hc => ?_) (fun hc => ?_)
    · have hw := hw.1 hc
      exact s_X3_walk_162 C hr hll MC MS post nc ns v5 _ _ _ _ (show nc ≤ MC ∧ ns ≤ MS by omega) hW hS (tl_sub hl [4] rfl) hw
    · have hw := hw.2 hc
      have hq1 := hw.1
      have hw := hw.2
      refine tr_new (C0 := RJ4) (T := TJ4) (N := 4) (ci := 1) (fs := [.null, .int 0, .int 0, .int 0]) C (zh hw_J4) tyJ4 tyJ4_ok (zm kw_560) (zm kw_521) (zm kw_447) rfl df_J4 hq1.1 hq1.2 dX3_walk_83 hW hS hw (fun r_83 G_83 H hw hW hS => ?_)
      refine lv_dup C.1.1 C.1.2.1 dX3_walk_86 (va_rf_cat _) ?_
      obtain ⟨mc_87, ms_87, hb87, hd87, hw⟩ := hw
      refine tr_backV (tr_runI (r := r_83) (As := []) C hl.1 (c_J4_init_da8c8 l hll K mc_87 ms_87 _ r_83) (cwI 0 C.1.2.2.2.2 (gi_I  (zm kw_522)) rfl rfl rfl (C.1.2.2.2.2 _ (zm kw_447)) (C.1.2.2.2.2 _ (zm kw_561)) (C.1.2.2.2.2 _ (zm kw_524)) rfl (by decide +kernel) ⟨(Nat.le_of_ble_eq_true rfl), (Nat.le_of_ble_eq_true rfl)⟩) rfl dX3_walk_87 ⟨hb87, hd87⟩ [.inr (.inr r_83)] rfl (Nat.le_of_ble_eq_true rfl) rfl hW hS hw) hS (fun G_87 H locs hw hW hS => ?_)
      refine tr_aload (x := v5) C hl 4 rfl dX3_walk_90 ?_
      obtain ⟨mc_92, ms_92, hb92, hd92, hw⟩ := hw
      refine tr_backR (tr_runV (r := r_83) (As := [va_rf v5]) C hl.1 (c_J4_append_15ec4 l hll K mc_92 ms_92 _ r_83 v5) (cwV 1 C.1.2.2.2.2 (gi_V (zm kw_563) (zm kw_564) (zm kw_565) (zm kw_447) (zm kw_562)) rfl rfl rfl (by decide +kernel) ⟨(Nat.le_of_ble_eq_true rfl), (Nat.le_of_ble_eq_true rfl)⟩) rfl rfl dX3_walk_92 ⟨hb92, hd92⟩ [] rfl (Nat.le_of_ble_eq_true rfl) rfl hW hS hw) hS (fun x_92 G_92 H locs hw hW hS => ?_)
      refine tr_aload (x := v5) C hl 4 rfl dX3_walk_95 ?_
      refine tr_backI (tr_runVS (r := v5) (As := []) C hl.1 (c_J0_isEmpty_aae02 l hll K _ v5) (cwV 0 C.1.2.2.2.2 (gi_V (zm kw_572) (zm kw_573) (zm kw_574) (zm kw_456) (zm kw_571)) rfl rfl rfl (by decide +kernel) ⟨(Nat.le_of_ble_eq_true rfl), (Nat.le_of_ble_eq_true rfl)⟩) rfl rfl dX3_walk_97 ⟨(show (((nc + 1) + mc_87) + mc_92) + 0 ≤ MC by omega), (show (((ns + 4) + ms_87) + ms_92) + 0 ≤ MS by omega)⟩ [.inr (.inr x_92)] rfl (Nat.le_of_ble_eq_true rfl) rfl hW hS hw) hS (fun x_97 G_97 H locs hw hW hS => ?_)
      refine lv_if_eq (tgt := 108) C.1.1 C.1.2.1 dX3_walk_100 (by decide) (fun hc => ?_) (fun hc => ?_)
      · have hw := hw.1 hc
        refine tr_ldcS (cn := 7) (tx := " ") C (by decide) dX3_walk_108 ?_
        exact s_X3_walk_110 C hr hll MC MS post k60 hk60 ((((nc + 1) + mc_87) + mc_92)) ((((ns + 4) + ms_87) + ms_92)) v0 v1 v3 v4 v6 v7 x_92 ((some (K.2.2 7))) _ _ _ _ (show (((nc + 1) + mc_87) + mc_92) ≤ MC ∧ (((ns + 4) + ms_87) + ms_92) ≤ MS by omega) hW hS (tl_sub hl [0, 1, 2, 3, 5, 6] rfl) hw
      · have hw := hw.2 hc
        refine tr_ldcS (cn := 6) (tx := "") C (by decide) dX3_walk_103 ?_
        refine lv_goto (tgt := 110) C.1.1 C.1.2.1 dX3_walk_105 (by decide) ?_
        exact s_X3_walk_110 C hr hll MC MS post k60 hk60 ((((nc + 1) + mc_87) + mc_92)) ((((ns + 4) + ms_87) + ms_92)) v0 v1 v3 v4 v6 v7 x_92 ((some (K.2.2 6))) _ _ _ _ (show (((nc + 1) + mc_87) + mc_92) ≤ MC ∧ (((ns + 4) + ms_87) + ms_92) ≤ MS by omega) hW hS (tl_sub hl [0, 1, 2, 3, 5, 6] rfl) hw
set_option maxHeartbeats 4000000 in
set_option maxRecDepth 100000 in
theorem s_X3_walk_60 {K : tK} (C : tc_B p l s m args meth c D K A wz_X3_walk RX3 cX3_walk 8) (hr : meth.sig.returnType = (some (.object "java/lang/String"))) (hll : l.stackTraces = false)  (MC MS : Nat) (post : Option Nat → tG → Prop) : ∀ (n : Nat) (nc ns : Nat) (v0 : Option Nat) (v1 : Int32) (v3 : Int32) (v4 : Int32) (v5 : Option Nat) (v6 : Int32) (v7 : Int32) (G : tG) (H : Heap) (locs : List Loc) (ls : Array Slot), nc ≤ MC ∧ ns ≤ MS → tg_W D A s H G → va_S A s.heap H locs → tl ls 8 [(0, .inr (.inr v0)), (1, .inl v1), (3, .inl v3), (4, .inl v4), (5, .inr (.inr v5)), (6, .inl v6), (7, .inl v7)] → w_X3_walk_60 K MC MS post n nc ns v0 v1 v3 v4 v5 v6 v7 G → W p l e ({ frames := 7, cells := MC, slots := MS, locals := 171 } : Room) s m args below meth c H locs nc ns (MQ below (tc_Qc D A (retR post)) args s MC MS A) (F0 m 60 ls []) := by
  intro n
  induction n with
  | zero =>
    intro nc ns v0 v1 v3 v4 v5 v6 v7 G H locs ls hcn hW hS hl hw
    exact hw.elim
  | succ n ih => exact s_X3_walk_60_b C hr hll MC MS post _ ih
set_option maxHeartbeats 4000000 in
set_option maxRecDepth 100000 in
theorem s_X3_walk_55 {K : tK} (C : tc_B p l s m args meth c D K A wz_X3_walk RX3 cX3_walk 8) (hr : meth.sig.returnType = (some (.object "java/lang/String"))) (hll : l.stackTraces = false)  (MC MS : Nat) (post : Option Nat → tG → Prop) : ∀ (nc ns : Nat) (v0 : Option Nat) (v1 : Int32) (v3 : Int32) (v4 : Int32) (v5 : Option Nat) (u0 : Int32) (G : tG) (H : Heap) (locs : List Loc) (ls : Array Slot), nc ≤ MC ∧ ns ≤ MS → tg_W D A s H G → va_S A s.heap H locs → tl ls 8 [(0, .inr (.inr v0)), (1, .inl v1), (3, .inl v3), (4, .inl v4), (5, .inr (.inr v5))] → w_X3_walk_55 K MC MS post nc ns v0 v1 v3 v4 v5 u0 G → W p l e ({ frames := 7, cells := MC, slots := MS, locals := 171 } : Room) s m args below meth c H locs nc ns (MQ below (tc_Qc D A (retR post)) args s MC MS A) (F0 m 55 ls [.int u0]) := by
  intro nc ns v0 v1 v3 v4 v5 u0 G H locs ls hcn hW hS hl hw
  unfold w_X3_walk_55 at hw
  refine tr_istore (x := u0) C hl [(6, .inl u0), (0, .inr (.inr v0)), (1, .inl v1), (3, .inl v3), (4, .inl v4), (5, .inr (.inr v5))] (by decide) rfl dX3_walk_55 (fun ls hl => ?_)
  refine lv_iconst (v := (0 : Int32)) C.1.1 C.1.2.1 dX3_walk_57 (by decide) ?_
  refine tr_istore (x := (0 : Int32)) C hl [(7, .inl (0 : Int32)), (6, .inl u0), (0, .inr (.inr v0)), (1, .inl v1), (3, .inl v3), (4, .inl v4), (5, .inr (.inr v5))] (by decide) rfl dX3_walk_58 (fun ls hl => ?_)
  obtain ⟨n60, hw⟩ := hw
  exact s_X3_walk_60 C hr hll MC MS post n60 nc ns v0 v1 v3 v4 v5 u0 ((0 : Int32)) _ _ _ _ (show nc ≤ MC ∧ ns ≤ MS by omega) hW hS (tl_sub hl [2, 3, 4, 5, 6, 1, 0] rfl) hw
set_option maxHeartbeats 4000000 in
set_option maxRecDepth 100000 in
theorem s_X3_walk_30 {K : tK} (C : tc_B p l s m args meth c D K A wz_X3_walk RX3 cX3_walk 8) (hr : meth.sig.returnType = (some (.object "java/lang/String"))) (hll : l.stackTraces = false)  (MC MS : Nat) (post : Option Nat → tG → Prop) : ∀ (nc ns : Nat) (v0 : Option Nat) (v1 : Int32) (v2 : Int32) (v3 : Int32) (v4 : Int32) (u0 : Option Nat) (u1 : Int32) (u2 : Int32) (G : tG) (H : Heap) (locs : List Loc) (ls : Array Slot), nc ≤ MC ∧ ns ≤ MS → tg_W D A s H G → va_S A s.heap H locs → tl ls 8 [(0, .inr (.inr v0)), (1, .inl v1), (2, .inl v2), (3, .inl v3), (4, .inl v4)] → w_X3_walk_30 K MC MS post nc ns v0 v1 v2 v3 v4 u0 u1 u2 G → W p l e ({ frames := 7, cells := MC, slots := MS, locals := 171 } : Room) s m args below meth c H locs nc ns (MQ below (tc_Qc D A (retR post)) args s MC MS A) (F0 m 30 ls [.int u2, .int u1, va_rf u0]) := by
  intro nc ns v0 v1 v2 v3 v4 u0 u1 u2 G H locs ls hcn hW hS hl hw
  unfold w_X3_walk_30 at hw
  refine tr_backI (tr_runV (r := u0) (As := [.int u1, .int u2]) C hl.1 (c_X3_fails l hll K _ u0 u1 u2) (cwV 2 C.1.2.2.2.2 (gi_V (zm kw_190) (zm kw_191) (zm kw_192) (zm kw_155) (zm kw_189)) rfl rfl rfl (by decide +kernel) ⟨(Nat.le_of_ble_eq_true rfl), (Nat.le_of_ble_eq_true rfl)⟩) rfl rfl dX3_walk_30 ⟨(show nc + 0 ≤ MC by omega), (show ns + 0 ≤ MS by omega)⟩ [] rfl (Nat.le_of_ble_eq_true rfl) rfl hW hS hw) hS (fun x_30 G_30 H locs hw hW hS => ?_)
  refine lv_if_eq (tgt := 39) C.1.1 C.1.2.1 dX3_walk_33 (by decide) (fun hc => ?_) (fun hc => ?_)
  · have hw := hw.1 hc
    refine tr_ldcS (cn := 6) (tx := "") C (by decide) dX3_walk_39 ?_
    refine tr_astore (x := (some (K.2.2 6))) C hl [(5, .inr (.inr (some (K.2.2 6)))), (0, .inr (.inr v0)), (1, .inl v1), (2, .inl v2), (3, .inl v3), (4, .inl v4)] (by decide) rfl dX3_walk_41 (fun ls hl => ?_)
    refine tr_iload (x := v4) C hl 5 rfl dX3_walk_43 ?_
    refine lv_if_eq (tgt := 54) C.1.1 C.1.2.1 dX3_walk_45 (by decide) (fun hc => ?_) (fun hc => ?_)
    · have hw := hw.1 hc
      refine tr_iload_n (k := 2) (x := v2) C hl 3 rfl dX3_walk_54 ?_
      exact s_X3_walk_55 C hr hll MC MS post nc ns v0 v1 v3 v4 ((some (K.2.2 6))) v2 _ _ _ _ (show nc ≤ MC ∧ ns ≤ MS by omega) hW hS (tl_sub hl [1, 2, 4, 5, 0] rfl) hw
    · have hw := hw.2 hc
      refine tr_iload_n (k := 2) (x := v2) C hl 3 rfl dX3_walk_48 ?_
      refine lv_iconst (v := (1 : Int32)) C.1.1 C.1.2.1 dX3_walk_49 (by decide) ?_
      refine lv_isub C.1.1 C.1.2.1 dX3_walk_50 ?_
      refine lv_goto (tgt := 55) C.1.1 C.1.2.1 dX3_walk_51 (by decide) ?_
      exact s_X3_walk_55 C hr hll MC MS post nc ns v0 v1 v3 v4 ((some (K.2.2 6))) ((v2 - (1 : Int32))) _ _ _ _ (show nc ≤ MC ∧ ns ≤ MS by omega) hW hS (tl_sub hl [1, 2, 4, 5, 0] rfl) hw
  · have hw := hw.2 hc
    refine tr_ldcS (cn := 6) (tx := "") C (by decide) dX3_walk_36 ?_
    exact tr_aret (x := (some (K.2.2 6))) C hr (Or.inl ⟨_, rfl⟩) dX3_walk_38 (show nc ≤ MC by omega) (show ns ≤ MS by omega) hW hS hw
set_option maxHeartbeats 4000000 in
set_option maxRecDepth 100000 in
theorem s_X3_walk_25 {K : tK} (C : tc_B p l s m args meth c D K A wz_X3_walk RX3 cX3_walk 8) (hr : meth.sig.returnType = (some (.object "java/lang/String"))) (hll : l.stackTraces = false)  (MC MS : Nat) (post : Option Nat → tG → Prop) : ∀ (nc ns : Nat) (v0 : Option Nat) (v1 : Int32) (v2 : Int32) (v3 : Int32) (v4 : Int32) (u0 : Option Nat) (u1 : Int32) (G : tG) (H : Heap) (locs : List Loc) (ls : Array Slot), nc ≤ MC ∧ ns ≤ MS → tg_W D A s H G → va_S A s.heap H locs → tl ls 8 [(0, .inr (.inr v0)), (1, .inl v1), (2, .inl v2), (3, .inl v3), (4, .inl v4)] → w_X3_walk_25 K MC MS post nc ns v0 v1 v2 v3 v4 u0 u1 G → W p l e ({ frames := 7, cells := MC, slots := MS, locals := 171 } : Room) s m args below meth c H locs nc ns (MQ below (tc_Qc D A (retR post)) args s MC MS A) (F0 m 25 ls [.int u1, va_rf u0]) := by
  intro nc ns v0 v1 v2 v3 v4 u0 u1 G H locs ls hcn hW hS hl hw
  unfold w_X3_walk_25 at hw
  refine lv_iconst (v := (1 : Int32)) C.1.1 C.1.2.1 dX3_walk_25 (by decide) ?_
  refine lv_goto (tgt := 30) C.1.1 C.1.2.1 dX3_walk_26 (by decide) ?_
  exact s_X3_walk_30 C hr hll MC MS post nc ns v0 v1 v2 v3 v4 u0 u1 ((1 : Int32)) _ _ _ _ (show nc ≤ MC ∧ ns ≤ MS by omega) hW hS (tl_sub hl [0, 1, 2, 3, 4] rfl) hw
set_option maxHeartbeats 4000000 in
set_option maxRecDepth 100000 in
theorem s_X3_walk {K : tK} (C : tc_B p l s m args meth c D K A wz_X3_walk RX3 cX3_walk 8) (hr : meth.sig.returnType = (some (.object "java/lang/String"))) (hll : l.stackTraces = false)  (MC MS : Nat) (post : Option Nat → tG → Prop) (v0 : Option Nat) (v1 : Int32) (v2 : Int32) (v3 : Int32) (v4 : Int32) : ∀ (G : tG) (H : Heap) (locs : List Loc) (ls : Array Slot), tg_W D A s H G → va_S A s.heap H locs → tl ls 8 [(0, .inr (.inr v0)), (1, .inl v1), (2, .inl v2), (3, .inl v3), (4, .inl v4)] → w_X3_walk K MC MS post v0 v1 v2 v3 v4 G → W p l e ({ frames := 7, cells := MC, slots := MS, locals := 171 } : Room) s m args below meth c H locs 0 0 (MQ below (tc_Qc D A (retR post)) args s MC MS A) (F0 m 0 ls []) := by
  intro G H locs ls hW hS hl hw
  unfold w_X3_walk at hw
  refine tr_aload_n (k := 0) (x := v0) C hl 0 rfl dX3_walk_0 ?_
  refine tr_aload_n (k := 0) (x := v0) C hl 0 rfl dX3_walk_1 ?_
  refine tr_iload_n (k := 1) (x := v1) C hl 1 rfl dX3_walk_2 ?_
  refine tr_backI (tr_runV (r := v0) (As := [.int v1]) C hl.1 (c_X3_isNoList l hll K _ v0 v1) (cwV 1 C.1.2.2.2.2 (gi_V (zm kw_211) (zm kw_212) (zm kw_213) (zm kw_155) (zm kw_210)) rfl rfl rfl (by decide +kernel) ⟨(Nat.le_of_ble_eq_true rfl), (Nat.le_of_ble_eq_true rfl)⟩) rfl rfl dX3_walk_3 ⟨(show 0 + 0 ≤ MC by omega), (show 0 + 0 ≤ MS by omega)⟩ [.inr (.inr v0)] rfl (Nat.le_of_ble_eq_true rfl) rfl hW hS hw) hS (fun x_3 G_3 H locs hw hW hS => ?_)
  refine tr_aload_n (k := 0) (x := v0) C hl 0 rfl dX3_walk_6 ?_
  refine tr_iload_n (k := 1) (x := v1) C hl 1 rfl dX3_walk_7 ?_
  refine tr_iload_n (k := 2) (x := v2) C hl 2 rfl dX3_walk_8 ?_
  refine tr_backI (tr_runV (r := v0) (As := [.int v1, .int v2]) C hl.1 (c_X3_isBeyond l hll K _ v0 v1 v2) (cwV 2 C.1.2.2.2.2 (gi_V (zm kw_291) (zm kw_292) (zm kw_293) (zm kw_155) (zm kw_290)) rfl rfl rfl (by decide +kernel) ⟨(Nat.le_of_ble_eq_true rfl), (Nat.le_of_ble_eq_true rfl)⟩) rfl rfl dX3_walk_9 ⟨(show 0 + 0 ≤ MC by omega), (show 0 + 0 ≤ MS by omega)⟩ [.inl x_3, .inr (.inr v0)] rfl (Nat.le_of_ble_eq_true rfl) rfl hW hS hw) hS (fun x_9 G_9 H locs hw hW hS => ?_)
  refine lv_if_ne (tgt := 25) C.1.1 C.1.2.1 dX3_walk_12 (by decide) (fun hc => ?_) (fun hc => ?_)
  · have hw := hw.1 hc
    exact s_X3_walk_25 C hr hll MC MS post 0 0 v0 v1 v2 v3 v4 v0 x_3 _ _ _ _ (show 0 ≤ MC ∧ 0 ≤ MS by omega) hW hS (tl_sub hl [0, 1, 2, 3, 4] rfl) hw
  · have hw := hw.2 hc
    refine tr_iload_n (k := 3) (x := v3) C hl 3 rfl dX3_walk_15 ?_
    refine lv_iconst (v := (0 : Int32)) C.1.1 C.1.2.1 dX3_walk_16 (by decide) ?_
    refine lv_bipush (v := (12 : Int32)) C.1.1 C.1.2.1 dX3_walk_17 (by decide) ?_
    refine tr_backI (tr_runS (As := [.int v3, .int ((0 : Int32)), .int ((12 : Int32))]) C hl.1 (c_X3_isIn l hll K _ v3 ((0 : Int32)) ((12 : Int32))) (va_cwS 3 C.1.2.2.2.2 (gi_S (zm kw_194) (zm kw_195) (zm kw_155) (zm kw_193)) rfl rfl rfl (by decide +kernel) ⟨(Nat.le_of_ble_eq_true rfl), (Nat.le_of_ble_eq_true rfl)⟩) rfl dX3_walk_19 ⟨(show 0 + 0 ≤ MC by omega), (show 0 + 0 ≤ MS by omega)⟩ [.inl x_3, .inr (.inr v0)] rfl (Nat.le_of_ble_eq_true rfl) rfl hW hS hw) hS (fun x_19 G_19 H locs hw hW hS => ?_)
    refine lv_if_ne (tgt := 29) C.1.1 C.1.2.1 dX3_walk_22 (by decide) (fun hc => ?_) (fun hc => ?_)
    · have hw := hw.1 hc
      refine lv_iconst (v := (0 : Int32)) C.1.1 C.1.2.1 dX3_walk_29 (by decide) ?_
      exact s_X3_walk_30 C hr hll MC MS post 0 0 v0 v1 v2 v3 v4 v0 x_3 ((0 : Int32)) _ _ _ _ (show 0 ≤ MC ∧ 0 ≤ MS by omega) hW hS (tl_sub hl [0, 1, 2, 3, 4] rfl) hw
    · have hw := hw.2 hc
      exact s_X3_walk_25 C hr hll MC MS post 0 0 v0 v1 v2 v3 v4 v0 x_3 _ _ _ _ (show 0 ≤ MC ∧ 0 ≤ MS by omega) hW hS (tl_sub hl [0, 1, 2, 3, 4] rfl) hw
end Z_X3_walk
set_option maxHeartbeats 4000000 in
set_option maxRecDepth 100000 in
theorem c_X3_walk (l : Launch) (hll : l.stackTraces = false) (K : tK) (MC MS : Nat) (post : Option Nat → tG → Prop) (v0 : Option Nat) (v1 : Int32) (v2 : Int32) (v3 : Int32) (v4 : Int32) : Ct l yX3_walk wz_X3_walk ({ frames := 7, cells := MC, slots := MS, locals := 171 } : Room) MC MS [va_rf v0, .int v1, .int v2, .int v3, .int v4] K (retR post) (fun G => w_X3_walk K MC MS post v0 v1 v2 v3 v4 G) := by
  refine tc_of (cc := cX3_walk) (maxL := 8) (ret := (some (.object "java/lang/String"))) (own := RX3) (plainFor_of_name (by decide)) rfl rfl hll [.inr (.inr v0), .inl v1, .inl v2, .inl v3, .inl v4] rfl (Nat.le_of_ble_eq_true rfl) ?_
  intro p e s m args below meth c D A G ls C hr hn ht hl hW hS hw
  exact s_X3_walk C hr hll MC MS post v0 v1 v2 v3 v4 _ _ _ _ hW hS hl hw

/-! L_code -/
def wz_L_code : List Cond := Cond.codeWith yL_code cL_code 4 (some .int) [(0, 10, 13, 19)] :: w0
section Z_L_code
variable {p : Program} {l : Launch} {e : Env} {s : State} {m : MethodId} {args : Array Value} {below : List Frame} {meth : Method} {c : Code} {D : va_G} {A : Nat → Prop}
set_option maxHeartbeats 4000000 in
set_option maxRecDepth 100000 in
theorem s_L_code {K : tK} (C : tc_B p l s m args meth c D K A wz_L_code RL cL_code 4) (hr : meth.sig.returnType = (some .int)) (htab : c.exceptionTable.toList = tableOf [(0, 10, 13, 19)]) (hcC : kx_C s) (hll : l.stackTraces = false)  (post : Int32 → tG → Prop) (v0 : Option Nat) (v1 : Int32) (v2 : Option Nat) : ∀ (G : tG) (H : Heap) (locs : List Loc) (ls : Array Slot), tg_W D A s H G → va_S A s.heap H locs → tl ls 4 [(0, .inr (.inr v0)), (1, .inl v1), (2, .inr (.inr v2))] → w_L_code K post v0 v1 v2 G → W p l e ({ frames := 8, cells := 1, slots := 6, locals := 126 } : Room) s m args below meth c H locs 0 0 (vx_MQ below (tc_Qc D A (retI post)) (tc_XC D A (fun _ _ => False)) args s 1 6 A) (F0 m 0 ls []) := by
  intro G H locs ls hW hS hl hw
  unfold w_L_code at hw
  refine tr_aload_n (k := 2) (x := v2) C hl 2 rfl dL_code_0 ?_
  refine tr_aload_n (k := 0) (x := v0) C hl 0 rfl dL_code_1 ?_
  refine tr_iload_n (k := 1) (x := v1) C hl 1 rfl dL_code_2 ?_
  refine tx_backCI (tx_runV (r := v0) (As := [.int v1]) C hl.1 (c_X1_code l hll K _ _ v0 v1) (cwV 1 C.1.2.2.2.2 (gi_V (zm kw_575) (zm kw_114) (zm kw_115) (zm kw_33) (zm kw_112)) rfl rfl rfl (by decide +kernel) ⟨(Nat.le_of_ble_eq_true rfl), (Nat.le_of_ble_eq_true rfl)⟩) rfl rfl dL_code_3 ⟨(Nat.le_of_ble_eq_true rfl), (Nat.le_of_ble_eq_true rfl)⟩ [.inr (.inr v2)] rfl (Nat.le_of_ble_eq_true rfl) rfl hW hS hw) hS (fun E ce q9 GX H locs hw hW hS hce hcv hcl => ?_) (fun x_3 G_3 H locs hw hW hS => ?_)
  · by_cases hq0 : E = "java/lang/IndexOutOfBoundsException"
    · replace hw := hw.1 hq0
      subst hq0
      refine vx_catch (name := "java/lang/IndexOutOfBoundsException") C.1.2.2.2.1 [] (⟨0, 10, 13, 19⟩ : ExceptionTableEntry) [] (by rw [htab]; rfl) (fun z hz => nomatch hz) (by decide) (by decide) (C.1.2.2.2.2 _ (zm kw_209)) hcC.2.2.1 hce hcv hcl ?_
      refine tr_astore_n (k := 3) (x := (some q9)) C hl [(3, .inr (.inr (some q9))), (0, .inr (.inr v0)), (1, .inl v1), (2, .inr (.inr v2))] (by decide) rfl dL_code_13 (fun ls hl => ?_)
      refine lv_iconst (v := (1 : Int32)) C.1.1 C.1.2.1 dL_code_14 (by decide) ?_
      exact vx_ret (tr_iret C hr dL_code_15 (Nat.le_of_ble_eq_true rfl) (Nat.le_of_ble_eq_true rfl) hW hS hw)
    replace hw := hw.2 hq0
    exact hw.elim
  · refine lv_i2l (v := ((x_3).toInt64)) C.1.1 C.1.2.1 dL_code_6 rfl ?_
    refine tr_pfN (C0 := RX2) (T := TX2) (N := 2) (ci := 4) (ref := "TwinrowLaw$Out") (host := "TwinrowLaw") (k := 0) (ty := .long) (v := .long (((x_3).toInt64))) (r := v2) C (zh hw_X2) tyX2 tyX2_ok nmX2 rfl (by decide) hcC.1 rfl rfl (by decide +kernel) rfl rfl dL_code_7 hW hS hw (fun G_7 H locs hw hW hS => ?_)
    refine lv_goto (tgt := 16) C.1.1 C.1.2.1 dL_code_10 (by decide) ?_
    refine lv_iconst (v := (0 : Int32)) C.1.1 C.1.2.1 dL_code_16 (by decide) ?_
    exact vx_ret (tr_iret C hr dL_code_17 (Nat.le_of_ble_eq_true rfl) (Nat.le_of_ble_eq_true rfl) hW hS hw)
end Z_L_code
set_option maxHeartbeats 4000000 in
set_option maxRecDepth 100000 in
theorem c_L_code (l : Launch) (hll : l.stackTraces = false) (K : tK) (post : Int32 → tG → Prop) (v0 : Option Nat) (v1 : Int32) (v2 : Option Nat) : Cx l yL_code wz_L_code ({ frames := 8, cells := 1, slots := 6, locals := 126 } : Room) 1 6 [va_rf v0, .int v1, va_rf v2] K (retI post) (fun _ _ => False) (fun G => w_L_code K post v0 v1 v2 G) := by
  refine tx_ofH (cc := cL_code) (maxL := 4) (ret := (some .int)) (own := RL) (hh := [(0, 10, 13, 19)]) (by decide) rfl rfl hll [.inr (.inr v0), .inl v1, .inr (.inr v2)] rfl (Nat.le_of_ble_eq_true rfl) ?_
  intro p e s m args below meth c D A G ls C hr htab hcC hl hW hS hw
  exact s_L_code C hr htab hcC hll post v0 v1 v2 _ _ _ _ hW hS hl hw

/-! X3_code -/
def wz_X3_code : List Cond := Cond.code yX3_code cX3_code 2 (some .int) :: w0
section Z_X3_code
variable {p : Program} {l : Launch} {e : Env} {s : State} {m : MethodId} {args : Array Value} {below : List Frame} {meth : Method} {c : Code} {D : va_G} {A : Nat → Prop}
set_option maxHeartbeats 4000000 in
set_option maxRecDepth 100000 in
theorem s_X3_code_22 {K : tK} (C : tc_B p l s m args meth c D K A wz_X3_code RX3 cX3_code 2) (hr : meth.sig.returnType = (some .int)) (hll : l.stackTraces = false)  (post : Int32 → tG → Prop) : ∀ (u0 : Int32) (G : tG) (H : Heap) (locs : List Loc) (ls : Array Slot), tg_W D A s H G → va_S A s.heap H locs → tl ls 2 [] → w_X3_code_22 K post u0 G → W p l e ({ frames := 3, cells := 1, slots := 12, locals := 71 } : Room) s m args below meth c H locs 1 12 (MQ below (tc_Qc D A (retI post)) args s 1 12 A) (F0 m 22 ls [.int u0]) := by
  intro u0 G H locs ls hW hS hl hw
  unfold w_X3_code_22 at hw
  exact tr_iret C hr dX3_code_22 (Nat.le_of_ble_eq_true rfl) (Nat.le_of_ble_eq_true rfl) hW hS hw
set_option maxHeartbeats 4000000 in
set_option maxRecDepth 100000 in
theorem s_X3_code {K : tK} (C : tc_B p l s m args meth c D K A wz_X3_code RX3 cX3_code 2) (hr : meth.sig.returnType = (some .int)) (hll : l.stackTraces = false)  (post : Int32 → tG → Prop) (v0 : Option Nat) (v1 : Int32) : ∀ (G : tG) (H : Heap) (locs : List Loc) (ls : Array Slot), tg_W D A s H G → va_S A s.heap H locs → tl ls 2 [(0, .inr (.inr v0)), (1, .inl v1)] → w_X3_code K post v0 v1 G → W p l e ({ frames := 3, cells := 1, slots := 12, locals := 71 } : Room) s m args below meth c H locs 0 0 (MQ below (tc_Qc D A (retI post)) args s 1 12 A) (F0 m 0 ls []) := by
  intro G H locs ls hW hS hl hw
  unfold w_X3_code at hw
  refine tr_aload_n (k := 0) (x := v0) C hl 0 rfl dX3_code_0 ?_
  refine tr_aload_n (k := 0) (x := v0) C hl 0 rfl dX3_code_1 ?_
  refine tr_iload_n (k := 1) (x := v1) C hl 1 rfl dX3_code_2 ?_
  refine tr_backI (tr_runV (r := v0) (As := [.int v1]) C hl.1 (c_X3_isNoList l hll K _ v0 v1) (cwV 1 C.1.2.2.2.2 (gi_V (zm kw_211) (zm kw_212) (zm kw_213) (zm kw_155) (zm kw_210)) rfl rfl rfl (by decide +kernel) ⟨(Nat.le_of_ble_eq_true rfl), (Nat.le_of_ble_eq_true rfl)⟩) rfl rfl dX3_code_3 ⟨(Nat.le_of_ble_eq_true rfl), (Nat.le_of_ble_eq_true rfl)⟩ [.inr (.inr v0)] rfl (Nat.le_of_ble_eq_true rfl) rfl hW hS hw) hS (fun x_3 G_3 H locs hw hW hS => ?_)
  refine lv_iconst (v := (0 : Int32)) C.1.1 C.1.2.1 dX3_code_6 (by decide) ?_
  refine tr_backI (tr_runV (r := v0) (As := [.int x_3, .int ((0 : Int32))]) C hl.1 (c_X3_fails l hll K _ v0 x_3 ((0 : Int32))) (cwV 2 C.1.2.2.2.2 (gi_V (zm kw_190) (zm kw_191) (zm kw_192) (zm kw_155) (zm kw_189)) rfl rfl rfl (by decide +kernel) ⟨(Nat.le_of_ble_eq_true rfl), (Nat.le_of_ble_eq_true rfl)⟩) rfl rfl dX3_code_7 ⟨(Nat.le_of_ble_eq_true rfl), (Nat.le_of_ble_eq_true rfl)⟩ [] rfl (Nat.le_of_ble_eq_true rfl) rfl hW hS hw) hS (fun x_7 G_7 H locs hw hW hS => ?_)
  refine lv_if_eq (tgt := 17) C.1.1 C.1.2.1 dX3_code_10 (by decide) (fun hc => ?_) (fun hc => ?_)
  · have hw := hw.1 hc
    refine tr_aload_n (k := 0) (x := v0) C hl 0 rfl dX3_code_17 ?_
    refine tr_iload_n (k := 1) (x := v1) C hl 1 rfl dX3_code_18 ?_
    refine tr_backI (tr_runV (r := v0) (As := [.int v1]) C hl.1 (c_X3_codeNow l hll K _ v0 v1) (cwV 1 C.1.2.2.2.2 (gi_V (zm kw_174) (zm kw_175) (zm kw_176) (zm kw_155) (zm kw_173)) rfl rfl rfl (by decide +kernel) ⟨(Nat.le_of_ble_eq_true rfl), (Nat.le_of_ble_eq_true rfl)⟩) rfl rfl dX3_code_19 ⟨(Nat.le_of_ble_eq_true rfl), (Nat.le_of_ble_eq_true rfl)⟩ [] rfl (Nat.le_of_ble_eq_true rfl) rfl hW hS hw) hS (fun x_19 G_19 H locs hw hW hS => ?_)
    exact s_X3_code_22 C hr hll post x_19 _ _ _ _ hW hS (tl_sub hl [] rfl) hw
  · have hw := hw.2 hc
    refine lv_iconst (v := (0 : Int32)) C.1.1 C.1.2.1 dX3_code_13 (by decide) ?_
    refine lv_goto (tgt := 22) C.1.1 C.1.2.1 dX3_code_14 (by decide) ?_
    refine W.widen (k := 1) (n := 12) (Nat.le_of_ble_eq_true rfl) (Nat.le_of_ble_eq_true rfl) ?_
    exact s_X3_code_22 C hr hll post ((0 : Int32)) _ _ _ _ hW hS (tl_sub hl [] rfl) hw
end Z_X3_code
set_option maxHeartbeats 4000000 in
set_option maxRecDepth 100000 in
theorem c_X3_code (l : Launch) (hll : l.stackTraces = false) (K : tK) (post : Int32 → tG → Prop) (v0 : Option Nat) (v1 : Int32) : Ct l yX3_code wz_X3_code ({ frames := 3, cells := 1, slots := 12, locals := 71 } : Room) 1 12 [va_rf v0, .int v1] K (retI post) (fun G => w_X3_code K post v0 v1 G) := by
  refine tc_of (cc := cX3_code) (maxL := 2) (ret := (some .int)) (own := RX3) (plainFor_of_name (by decide)) rfl rfl hll [.inr (.inr v0), .inl v1] rfl (Nat.le_of_ble_eq_true rfl) ?_
  intro p e s m args below meth c D A G ls C hr hn ht hl hW hS hw
  exact s_X3_code C hr hll post v0 v1 _ _ _ _ hW hS hl hw

/-! X1_areEqual -/
def wz_X1_areEqual : List Cond := Cond.code yX1_areEqual cX1_areEqual 4 (some .boolean) :: w0
section Z_X1_areEqual
variable {p : Program} {l : Launch} {e : Env} {s : State} {m : MethodId} {args : Array Value} {below : List Frame} {meth : Method} {c : Code} {D : va_G} {A : Nat → Prop}
set_option maxHeartbeats 4000000 in
set_option maxRecDepth 100000 in
theorem s_X1_areEqual {K : tK} (C : tc_B p l s m args meth c D K A wz_X1_areEqual RX1 cX1_areEqual 4) (hr : meth.sig.returnType = (some .boolean)) (ht : ∀ x ∈ c.exceptionTable.toList, False) (hll : l.stackTraces = false)  (post : Int32 → tG → Prop) (postX : String → tG → Prop) (v0 : Option Nat) (v1 : Int32) (v2 : Int32) : ∀ (G : tG) (H : Heap) (locs : List Loc) (ls : Array Slot), tg_W D A s H G → va_S A s.heap H locs → tl ls 4 [(0, .inr (.inr v0)), (1, .inl v1), (2, .inl v2)] → w_X1_areEqual K post postX v0 v1 v2 G → W p l e ({ frames := 7, cells := 2, slots := 12, locals := 104 } : Room) s m args below meth c H locs 0 0 (vx_MQ below (tc_Qc D A (retI post)) (tc_XC D A postX) args s 2 12 A) (F0 m 0 ls []) := by
  intro G H locs ls hW hS hl hw
  unfold w_X1_areEqual at hw
  refine tr_aload_n (k := 0) (x := v0) C hl 0 rfl dX1_areEqual_0 ?_
  refine tr_iload_n (k := 1) (x := v1) C hl 1 rfl dX1_areEqual_1 ?_
  refine tx_backR (tx_runV (r := v0) (As := [.int v1]) C hl.1 (c_X1_listAt l hll K _ _ v0 v1) (cwV 1 C.1.2.2.2.2 (gi_V (zm kw_94) (zm kw_95) (zm kw_96) (zm kw_33) (zm kw_93)) rfl rfl rfl (by decide +kernel) ⟨(Nat.le_of_ble_eq_true rfl), (Nat.le_of_ble_eq_true rfl)⟩) rfl rfl dX1_areEqual_2 ⟨(Nat.le_of_ble_eq_true rfl), (Nat.le_of_ble_eq_true rfl)⟩ [] rfl (Nat.le_of_ble_eq_true rfl) rfl hW hS hw) hS C.2.1 ht (Nat.le_of_ble_eq_true rfl) (Nat.le_of_ble_eq_true rfl) (fun x_2 G_2 H locs hw hW hS => ?_)
  refine tr_astore_n (k := 3) (x := x_2) C hl [(3, .inr (.inr x_2)), (0, .inr (.inr v0)), (1, .inl v1), (2, .inl v2)] (by decide) rfl dX1_areEqual_5 (fun ls hl => ?_)
  refine tr_aload_n (k := 3) (x := x_2) C hl 0 rfl dX1_areEqual_6 ?_
  refine tr_aload_n (k := 0) (x := v0) C hl 1 rfl dX1_areEqual_7 ?_
  refine tr_iload_n (k := 2) (x := v2) C hl 3 rfl dX1_areEqual_8 ?_
  refine tx_backR (tx_runV (r := v0) (As := [.int v2]) C hl.1 (c_X1_listAt l hll K _ _ v0 v2) (cwV 1 C.1.2.2.2.2 (gi_V (zm kw_94) (zm kw_95) (zm kw_96) (zm kw_33) (zm kw_93)) rfl rfl rfl (by decide +kernel) ⟨(Nat.le_of_ble_eq_true rfl), (Nat.le_of_ble_eq_true rfl)⟩) rfl rfl dX1_areEqual_9 ⟨(Nat.le_of_ble_eq_true rfl), (Nat.le_of_ble_eq_true rfl)⟩ [.inr (.inr x_2)] rfl (Nat.le_of_ble_eq_true rfl) rfl hW hS hw) hS C.2.1 ht (Nat.le_of_ble_eq_true rfl) (Nat.le_of_ble_eq_true rfl) (fun x_9 G_9 H locs hw hW hS => ?_)
  refine tr_backI (tr_runS (As := [va_rf x_2, va_rf x_9]) C hl.1 (c_X1_areSame l hll K _ x_2 x_9) (va_cwS 2 C.1.2.2.2.2 (gi_S (zm kw_44) (zm kw_45) (zm kw_33) (zm kw_43)) rfl rfl rfl (by decide +kernel) ⟨(Nat.le_of_ble_eq_true rfl), (Nat.le_of_ble_eq_true rfl)⟩) rfl dX1_areEqual_12 ⟨(Nat.le_of_ble_eq_true rfl), (Nat.le_of_ble_eq_true rfl)⟩ [] rfl (Nat.le_of_ble_eq_true rfl) rfl hW hS hw) hS (fun x_12 G_12 H locs hw hW hS => ?_)
  exact vx_ret (tr_zret C hr dX1_areEqual_15 (Nat.le_of_ble_eq_true rfl) (Nat.le_of_ble_eq_true rfl) hW hS hw)
end Z_X1_areEqual
set_option maxHeartbeats 4000000 in
set_option maxRecDepth 100000 in
theorem c_X1_areEqual (l : Launch) (hll : l.stackTraces = false) (K : tK) (post : Int32 → tG → Prop) (postX : String → tG → Prop) (v0 : Option Nat) (v1 : Int32) (v2 : Int32) : Cx l yX1_areEqual wz_X1_areEqual ({ frames := 7, cells := 2, slots := 12, locals := 104 } : Room) 2 12 [va_rf v0, .int v1, .int v2] K (retI post) postX (fun G => w_X1_areEqual K post postX v0 v1 v2 G) := by
  refine tx_of (cc := cX1_areEqual) (maxL := 4) (ret := (some .boolean)) (own := RX1) (by decide) rfl rfl hll [.inr (.inr v0), .inl v1, .inl v2] rfl (Nat.le_of_ble_eq_true rfl) ?_
  intro p e s m args below meth c D A G ls C hr hn ht hl hW hS hw
  exact s_X1_areEqual C hr ht hll post postX v0 v1 v2 _ _ _ _ hW hS hl hw

/-! L_areEqual -/
def wz_L_areEqual : List Cond := Cond.codeWith yL_areEqual cL_areEqual 5 (some .int) [(0, 18, 21, 19)] :: w0
section Z_L_areEqual
variable {p : Program} {l : Launch} {e : Env} {s : State} {m : MethodId} {args : Array Value} {below : List Frame} {meth : Method} {c : Code} {D : va_G} {A : Nat → Prop}
set_option maxHeartbeats 4000000 in
set_option maxRecDepth 100000 in
theorem s_L_areEqual_15 {K : tK} (C : tc_B p l s m args meth c D K A wz_L_areEqual RL cL_areEqual 5) (hr : meth.sig.returnType = (some .int)) (htab : c.exceptionTable.toList = tableOf [(0, 18, 21, 19)]) (hcC : kx_C s) (hll : l.stackTraces = false)  (post : Int32 → tG → Prop) : ∀ (u0 : Option Nat) (u1 : Int64) (G : tG) (H : Heap) (locs : List Loc) (ls : Array Slot), tg_W D A s H G → va_S A s.heap H locs → tl ls 5 [] → w_L_areEqual_15 K post u0 u1 G → W p l e ({ frames := 8, cells := 2, slots := 12, locals := 127 } : Room) s m args below meth c H locs 2 12 (vx_MQ below (tc_Qc D A (retI post)) (tc_XC D A (fun _ _ => False)) args s 2 12 A) (F0 m 15 ls [.long u1, va_rf u0]) := by
  intro u0 u1 G H locs ls hW hS hl hw
  unfold w_L_areEqual_15 at hw
  refine tr_pfN (C0 := RX2) (T := TX2) (N := 2) (ci := 4) (ref := "TwinrowLaw$Out") (host := "TwinrowLaw") (k := 0) (ty := .long) (v := .long u1) (r := u0) C (zh hw_X2) tyX2 tyX2_ok nmX2 rfl (by decide) hcC.1 rfl rfl (by decide +kernel) rfl rfl dL_areEqual_15 hW hS hw (fun G_15 H locs hw hW hS => ?_)
  refine lv_goto (tgt := 25) C.1.1 C.1.2.1 dL_areEqual_18 (by decide) ?_
  refine lv_iconst (v := (0 : Int32)) C.1.1 C.1.2.1 dL_areEqual_25 (by decide) ?_
  exact vx_ret (tr_iret C hr dL_areEqual_26 (Nat.le_of_ble_eq_true rfl) (Nat.le_of_ble_eq_true rfl) hW hS hw)
set_option maxHeartbeats 4000000 in
set_option maxRecDepth 100000 in
theorem s_L_areEqual {K : tK} (C : tc_B p l s m args meth c D K A wz_L_areEqual RL cL_areEqual 5) (hr : meth.sig.returnType = (some .int)) (htab : c.exceptionTable.toList = tableOf [(0, 18, 21, 19)]) (hcC : kx_C s) (hll : l.stackTraces = false)  (post : Int32 → tG → Prop) (v0 : Option Nat) (v1 : Int32) (v2 : Int32) (v3 : Option Nat) : ∀ (G : tG) (H : Heap) (locs : List Loc) (ls : Array Slot), tg_W D A s H G → va_S A s.heap H locs → tl ls 5 [(0, .inr (.inr v0)), (1, .inl v1), (2, .inl v2), (3, .inr (.inr v3))] → w_L_areEqual K post v0 v1 v2 v3 G → W p l e ({ frames := 8, cells := 2, slots := 12, locals := 127 } : Room) s m args below meth c H locs 0 0 (vx_MQ below (tc_Qc D A (retI post)) (tc_XC D A (fun _ _ => False)) args s 2 12 A) (F0 m 0 ls []) := by
  intro G H locs ls hW hS hl hw
  unfold w_L_areEqual at hw
  refine tr_aload_n (k := 3) (x := v3) C hl 3 rfl dL_areEqual_0 ?_
  refine tr_aload_n (k := 0) (x := v0) C hl 0 rfl dL_areEqual_1 ?_
  refine tr_iload_n (k := 1) (x := v1) C hl 1 rfl dL_areEqual_2 ?_
  refine tr_iload_n (k := 2) (x := v2) C hl 2 rfl dL_areEqual_3 ?_
  refine tx_backCI (tx_runV (r := v0) (As := [.int v1, .int v2]) C hl.1 (c_X1_areEqual l hll K _ _ v0 v1 v2) (cwV 2 C.1.2.2.2.2 (gi_V (zm kw_577) (zm kw_578) (zm kw_579) (zm kw_33) (zm kw_576)) rfl rfl rfl (by decide +kernel) ⟨(Nat.le_of_ble_eq_true rfl), (Nat.le_of_ble_eq_true rfl)⟩) rfl rfl dL_areEqual_4 ⟨(Nat.le_of_ble_eq_true rfl), (Nat.le_of_ble_eq_true rfl)⟩ [.inr (.inr v3)] rfl (Nat.le_of_ble_eq_true rfl) rfl hW hS hw) hS (fun E ce q9 GX H locs hw hW hS hce hcv hcl => ?_) (fun x_4 G_4 H locs hw hW hS => ?_)
  · by_cases hq0 : E = "java/lang/IndexOutOfBoundsException"
    · replace hw := hw.1 hq0
      subst hq0
      refine vx_catch (name := "java/lang/IndexOutOfBoundsException") C.1.2.2.2.1 [] (⟨0, 18, 21, 19⟩ : ExceptionTableEntry) [] (by rw [htab]; rfl) (fun z hz => nomatch hz) (by decide) (by decide) (C.1.2.2.2.2 _ (zm kw_209)) hcC.2.2.1 hce hcv hcl ?_
      refine tr_astore (x := (some q9)) C hl [(4, .inr (.inr (some q9))), (0, .inr (.inr v0)), (1, .inl v1), (2, .inl v2), (3, .inr (.inr v3))] (by decide) rfl dL_areEqual_21 (fun ls hl => ?_)
      refine lv_iconst (v := (1 : Int32)) C.1.1 C.1.2.1 dL_areEqual_23 (by decide) ?_
      exact vx_ret (tr_iret C hr dL_areEqual_24 (Nat.le_of_ble_eq_true rfl) (Nat.le_of_ble_eq_true rfl) hW hS hw)
    replace hw := hw.2 hq0
    exact hw.elim
  · refine lv_if_eq (tgt := 14) C.1.1 C.1.2.1 dL_areEqual_7 (by decide) (fun hc => ?_) (fun hc => ?_)
    · have hw := hw.1 hc
      refine lv_lconst (v := (0 : Int64)) C.1.1 C.1.2.1 dL_areEqual_14 (by decide) ?_
      exact s_L_areEqual_15 C hr htab hcC hll post v3 ((0 : Int64)) _ _ _ _ hW hS (tl_sub hl [] rfl) hw
    · have hw := hw.2 hc
      refine lv_lconst (v := (1 : Int64)) C.1.1 C.1.2.1 dL_areEqual_10 (by decide) ?_
      refine lv_goto (tgt := 15) C.1.1 C.1.2.1 dL_areEqual_11 (by decide) ?_
      exact s_L_areEqual_15 C hr htab hcC hll post v3 ((1 : Int64)) _ _ _ _ hW hS (tl_sub hl [] rfl) hw
end Z_L_areEqual
set_option maxHeartbeats 4000000 in
set_option maxRecDepth 100000 in
theorem c_L_areEqual (l : Launch) (hll : l.stackTraces = false) (K : tK) (post : Int32 → tG → Prop) (v0 : Option Nat) (v1 : Int32) (v2 : Int32) (v3 : Option Nat) : Cx l yL_areEqual wz_L_areEqual ({ frames := 8, cells := 2, slots := 12, locals := 127 } : Room) 2 12 [va_rf v0, .int v1, .int v2, va_rf v3] K (retI post) (fun _ _ => False) (fun G => w_L_areEqual K post v0 v1 v2 v3 G) := by
  refine tx_ofH (cc := cL_areEqual) (maxL := 5) (ret := (some .int)) (own := RL) (hh := [(0, 18, 21, 19)]) (by decide) rfl rfl hll [.inr (.inr v0), .inl v1, .inl v2, .inr (.inr v3)] rfl (Nat.le_of_ble_eq_true rfl) ?_
  intro p e s m args below meth c D A G ls C hr htab hcC hl hW hS hw
  exact s_L_areEqual C hr htab hcC hll post v0 v1 v2 v3 _ _ _ _ hW hS hl hw

/-! X3_isAt -/
def wz_X3_isAt : List Cond := Cond.code yX3_isAt cX3_isAt 5 (some .boolean) :: w0
section Z_X3_isAt
variable {p : Program} {l : Launch} {e : Env} {s : State} {m : MethodId} {args : Array Value} {below : List Frame} {meth : Method} {c : Code} {D : va_G} {A : Nat → Prop}
set_option maxHeartbeats 4000000 in
set_option maxRecDepth 100000 in
theorem s_X3_isAt_47 {K : tK} (C : tc_B p l s m args meth c D K A wz_X3_isAt RX3 cX3_isAt 5) (hr : meth.sig.returnType = (some .boolean)) (hll : l.stackTraces = false)  (post : Int32 → tG → Prop) (k18 : Option Nat → Int32 → Option Nat → Int32 → Int32 → tG → Prop) (hk18 : ∀ (v0 : Option Nat) (v1 : Int32) (v2 : Option Nat) (v3 : Int32) (v4 : Int32) (G : tG) (H : Heap) (locs : List Loc) (ls : Array Slot), tg_W D A s H G → va_S A s.heap H locs → tl ls 5 [(0, .inr (.inr v0)), (1, .inl v1), (2, .inr (.inr v2)), (3, .inl v3), (4, .inl v4)] → k18 v0 v1 v2 v3 v4 G → W p l e ({ frames := 0, cells := 0, slots := 0, locals := 0 } : Room) s m args below meth c H locs 0 0 (MQ below (tc_Qc D A (retI post)) args s 0 0 A) (F0 m 18 ls [])) : ∀ (v0 : Option Nat) (v1 : Int32) (v2 : Option Nat) (v4 : Int32) (u0 : Int32) (G : tG) (H : Heap) (locs : List Loc) (ls : Array Slot), tg_W D A s H G → va_S A s.heap H locs → tl ls 5 [(0, .inr (.inr v0)), (1, .inl v1), (2, .inr (.inr v2)), (4, .inl v4)] → w_X3_isAt_47 K post k18 v0 v1 v2 v4 u0 G → W p l e ({ frames := 0, cells := 0, slots := 0, locals := 0 } : Room) s m args below meth c H locs 0 0 (MQ below (tc_Qc D A (retI post)) args s 0 0 A) (F0 m 47 ls [.int u0]) := by
  intro v0 v1 v2 v4 u0 G H locs ls hW hS hl hw
  unfold w_X3_isAt_47 at hw
  refine tr_istore_n (k := 3) (x := u0) C hl [(3, .inl u0), (0, .inr (.inr v0)), (1, .inl v1), (2, .inr (.inr v2)), (4, .inl v4)] (by decide) rfl dX3_isAt_47 (fun ls hl => ?_)
  refine tr_iinc C hl 4 (v4 + (1 : Int32)) [(4, .inl (v4 + (1 : Int32))), (3, .inl u0), (0, .inr (.inr v0)), (1, .inl v1), (2, .inr (.inr v2))] rfl rfl (by decide) rfl dX3_isAt_48 (fun ls hl => ?_)
  refine lv_goto (tgt := 18) C.1.1 C.1.2.1 dX3_isAt_51 (by decide) ?_
  exact hk18 v0 v1 v2 u0 ((v4 + (1 : Int32))) _ _ _ _ hW hS (tl_sub hl [2, 3, 4, 1, 0] rfl) hw
set_option maxHeartbeats 4000000 in
set_option maxRecDepth 100000 in
theorem s_X3_isAt_54 {K : tK} (C : tc_B p l s m args meth c D K A wz_X3_isAt RX3 cX3_isAt 5) (hr : meth.sig.returnType = (some .boolean)) (hll : l.stackTraces = false)  (post : Int32 → tG → Prop) : ∀ (v3 : Int32) (G : tG) (H : Heap) (locs : List Loc) (ls : Array Slot), tg_W D A s H G → va_S A s.heap H locs → tl ls 5 [(3, .inl v3)] → w_X3_isAt_54 K post v3 G → W p l e ({ frames := 0, cells := 0, slots := 0, locals := 0 } : Room) s m args below meth c H locs 0 0 (MQ below (tc_Qc D A (retI post)) args s 0 0 A) (F0 m 54 ls []) := by
  intro v3 G H locs ls hW hS hl hw
  unfold w_X3_isAt_54 at hw
  refine tr_iload_n (k := 3) (x := v3) C hl 0 rfl dX3_isAt_54 ?_
  exact tr_zret C hr dX3_isAt_55 (Nat.le_of_ble_eq_true rfl) (Nat.le_of_ble_eq_true rfl) hW hS hw
set_option maxHeartbeats 4000000 in
set_option maxRecDepth 100000 in
theorem s_X3_isAt_18_b {K : tK} (C : tc_B p l s m args meth c D K A wz_X3_isAt RX3 cX3_isAt 5) (hr : meth.sig.returnType = (some .boolean)) (hll : l.stackTraces = false)  (post : Int32 → tG → Prop) (k18 : Option Nat → Int32 → Option Nat → Int32 → Int32 → tG → Prop) (hk18 : ∀ (v0 : Option Nat) (v1 : Int32) (v2 : Option Nat) (v3 : Int32) (v4 : Int32) (G : tG) (H : Heap) (locs : List Loc) (ls : Array Slot), tg_W D A s H G → va_S A s.heap H locs → tl ls 5 [(0, .inr (.inr v0)), (1, .inl v1), (2, .inr (.inr v2)), (3, .inl v3), (4, .inl v4)] → k18 v0 v1 v2 v3 v4 G → W p l e ({ frames := 0, cells := 0, slots := 0, locals := 0 } : Room) s m args below meth c H locs 0 0 (MQ below (tc_Qc D A (retI post)) args s 0 0 A) (F0 m 18 ls [])) : ∀ (v0 : Option Nat) (v1 : Int32) (v2 : Option Nat) (v3 : Int32) (v4 : Int32) (G : tG) (H : Heap) (locs : List Loc) (ls : Array Slot), tg_W D A s H G → va_S A s.heap H locs → tl ls 5 [(0, .inr (.inr v0)), (1, .inl v1), (2, .inr (.inr v2)), (3, .inl v3), (4, .inl v4)] → w_X3_isAt_18_b K post k18 v0 v1 v2 v3 v4 G → W p l e ({ frames := 0, cells := 0, slots := 0, locals := 0 } : Room) s m args below meth c H locs 0 0 (MQ below (tc_Qc D A (retI post)) args s 0 0 A) (F0 m 18 ls []) := by
  intro v0 v1 v2 v3 v4 G H locs ls hW hS hl hw
  unfold w_X3_isAt_18_b at hw
  refine tr_iload (x := v4) C hl 4 rfl dX3_isAt_18 ?_
  refine tr_aload_n (k := 2) (x := v2) C hl 2 rfl dX3_isAt_20 ?_
  refine tr_len (r := v2) C dX3_isAt_21 hW hw (fun x_21 hw => ?_)
  refine lv_icmp_ge (tgt := 54) C.1.1 C.1.2.1 dX3_isAt_22 (by decide) (fun hc => ?_) (fun hc => ?_)
  · have hw := hw.1 hc
    exact s_X3_isAt_54 C hr hll post v3 _ _ _ _ hW hS (tl_sub hl [3] rfl) hw
  · have hw := hw.2 hc
    refine tr_iload_n (k := 3) (x := v3) C hl 3 rfl dX3_isAt_25 ?_
    refine lv_if_eq (tgt := 54) C.1.1 C.1.2.1 dX3_isAt_26 (by decide) (fun hc => ?_) (fun hc => ?_)
    · have hw := hw.1 hc
      exact s_X3_isAt_54 C hr hll post v3 _ _ _ _ hW hS (tl_sub hl [3] rfl) hw
    · have hw := hw.2 hc
      refine tr_aload_n (k := 0) (x := v0) C hl 0 rfl dX3_isAt_29 ?_
      refine tr_iload_n (k := 1) (x := v1) C hl 1 rfl dX3_isAt_30 ?_
      refine tr_iload (x := v4) C hl 4 rfl dX3_isAt_31 ?_
      refine lv_iadd C.1.1 C.1.2.1 dX3_isAt_33 ?_
      refine tr_alI (r := v0) C dX3_isAt_34 hW hw (fun x_34 hw => ?_)
      refine tr_aload_n (k := 2) (x := v2) C hl 2 rfl dX3_isAt_35 ?_
      refine tr_iload (x := v4) C hl 4 rfl dX3_isAt_36 ?_
      refine tr_alI (r := v2) C dX3_isAt_38 hW hw (fun x_38 hw => ?_)
      refine lv_icmp_ne (tgt := 46) C.1.1 C.1.2.1 dX3_isAt_39 (by decide) (fun hc => ?_) (fun hc => ?_)
      · have hw := hw.1 hc
        refine lv_iconst (v := (0 : Int32)) C.1.1 C.1.2.1 dX3_isAt_46 (by decide) ?_
        exact s_X3_isAt_47 C hr hll post k18 hk18 v0 v1 v2 v4 ((0 : Int32)) _ _ _ _ hW hS (tl_sub hl [0, 1, 2, 4] rfl) hw
      · have hw := hw.2 hc
        refine lv_iconst (v := (1 : Int32)) C.1.1 C.1.2.1 dX3_isAt_42 (by decide) ?_
        refine lv_goto (tgt := 47) C.1.1 C.1.2.1 dX3_isAt_43 (by decide) ?_
        exact s_X3_isAt_47 C hr hll post k18 hk18 v0 v1 v2 v4 ((1 : Int32)) _ _ _ _ hW hS (tl_sub hl [0, 1, 2, 4] rfl) hw
set_option maxHeartbeats 4000000 in
set_option maxRecDepth 100000 in
theorem s_X3_isAt_18 {K : tK} (C : tc_B p l s m args meth c D K A wz_X3_isAt RX3 cX3_isAt 5) (hr : meth.sig.returnType = (some .boolean)) (hll : l.stackTraces = false)  (post : Int32 → tG → Prop) : ∀ (n : Nat) (v0 : Option Nat) (v1 : Int32) (v2 : Option Nat) (v3 : Int32) (v4 : Int32) (G : tG) (H : Heap) (locs : List Loc) (ls : Array Slot), tg_W D A s H G → va_S A s.heap H locs → tl ls 5 [(0, .inr (.inr v0)), (1, .inl v1), (2, .inr (.inr v2)), (3, .inl v3), (4, .inl v4)] → w_X3_isAt_18 K post n v0 v1 v2 v3 v4 G → W p l e ({ frames := 0, cells := 0, slots := 0, locals := 0 } : Room) s m args below meth c H locs 0 0 (MQ below (tc_Qc D A (retI post)) args s 0 0 A) (F0 m 18 ls []) := by
  intro n
  induction n with
  | zero =>
    intro v0 v1 v2 v3 v4 G H locs ls hW hS hl hw
    exact hw.elim
  | succ n ih => exact s_X3_isAt_18_b C hr hll post _ ih
set_option maxHeartbeats 4000000 in
set_option maxRecDepth 100000 in
theorem s_X3_isAt_14 {K : tK} (C : tc_B p l s m args meth c D K A wz_X3_isAt RX3 cX3_isAt 5) (hr : meth.sig.returnType = (some .boolean)) (hll : l.stackTraces = false)  (post : Int32 → tG → Prop) : ∀ (v0 : Option Nat) (v1 : Int32) (v2 : Option Nat) (u0 : Int32) (G : tG) (H : Heap) (locs : List Loc) (ls : Array Slot), tg_W D A s H G → va_S A s.heap H locs → tl ls 5 [(0, .inr (.inr v0)), (1, .inl v1), (2, .inr (.inr v2))] → w_X3_isAt_14 K post v0 v1 v2 u0 G → W p l e ({ frames := 0, cells := 0, slots := 0, locals := 0 } : Room) s m args below meth c H locs 0 0 (MQ below (tc_Qc D A (retI post)) args s 0 0 A) (F0 m 14 ls [.int u0]) := by
  intro v0 v1 v2 u0 G H locs ls hW hS hl hw
  unfold w_X3_isAt_14 at hw
  refine tr_istore_n (k := 3) (x := u0) C hl [(3, .inl u0), (0, .inr (.inr v0)), (1, .inl v1), (2, .inr (.inr v2))] (by decide) rfl dX3_isAt_14 (fun ls hl => ?_)
  refine lv_iconst (v := (0 : Int32)) C.1.1 C.1.2.1 dX3_isAt_15 (by decide) ?_
  refine tr_istore (x := (0 : Int32)) C hl [(4, .inl (0 : Int32)), (3, .inl u0), (0, .inr (.inr v0)), (1, .inl v1), (2, .inr (.inr v2))] (by decide) rfl dX3_isAt_16 (fun ls hl => ?_)
  obtain ⟨n18, hw⟩ := hw
  exact s_X3_isAt_18 C hr hll post n18 v0 v1 v2 u0 ((0 : Int32)) _ _ _ _ hW hS (tl_sub hl [2, 3, 4, 1, 0] rfl) hw
set_option maxHeartbeats 4000000 in
set_option maxRecDepth 100000 in
theorem s_X3_isAt {K : tK} (C : tc_B p l s m args meth c D K A wz_X3_isAt RX3 cX3_isAt 5) (hr : meth.sig.returnType = (some .boolean)) (hll : l.stackTraces = false)  (post : Int32 → tG → Prop) (v0 : Option Nat) (v1 : Int32) (v2 : Option Nat) : ∀ (G : tG) (H : Heap) (locs : List Loc) (ls : Array Slot), tg_W D A s H G → va_S A s.heap H locs → tl ls 5 [(0, .inr (.inr v0)), (1, .inl v1), (2, .inr (.inr v2))] → w_X3_isAt K post v0 v1 v2 G → W p l e ({ frames := 0, cells := 0, slots := 0, locals := 0 } : Room) s m args below meth c H locs 0 0 (MQ below (tc_Qc D A (retI post)) args s 0 0 A) (F0 m 0 ls []) := by
  intro G H locs ls hW hS hl hw
  unfold w_X3_isAt at hw
  refine tr_iload_n (k := 1) (x := v1) C hl 1 rfl dX3_isAt_0 ?_
  refine tr_aload_n (k := 2) (x := v2) C hl 2 rfl dX3_isAt_1 ?_
  refine tr_len (r := v2) C dX3_isAt_2 hW hw (fun x_2 hw => ?_)
  refine lv_iadd C.1.1 C.1.2.1 dX3_isAt_3 ?_
  refine tr_aload_n (k := 0) (x := v0) C hl 0 rfl dX3_isAt_4 ?_
  refine tr_len (r := v0) C dX3_isAt_5 hW hw (fun x_5 hw => ?_)
  refine lv_icmp_gt (tgt := 13) C.1.1 C.1.2.1 dX3_isAt_6 (by decide) (fun hc => ?_) (fun hc => ?_)
  · have hw := hw.1 hc
    refine lv_iconst (v := (0 : Int32)) C.1.1 C.1.2.1 dX3_isAt_13 (by decide) ?_
    exact s_X3_isAt_14 C hr hll post v0 v1 v2 ((0 : Int32)) _ _ _ _ hW hS (tl_sub hl [0, 1, 2] rfl) hw
  · have hw := hw.2 hc
    refine lv_iconst (v := (1 : Int32)) C.1.1 C.1.2.1 dX3_isAt_9 (by decide) ?_
    refine lv_goto (tgt := 14) C.1.1 C.1.2.1 dX3_isAt_10 (by decide) ?_
    exact s_X3_isAt_14 C hr hll post v0 v1 v2 ((1 : Int32)) _ _ _ _ hW hS (tl_sub hl [0, 1, 2] rfl) hw
end Z_X3_isAt
set_option maxHeartbeats 4000000 in
set_option maxRecDepth 100000 in
theorem c_X3_isAt (l : Launch) (hll : l.stackTraces = false) (K : tK) (post : Int32 → tG → Prop) (v0 : Option Nat) (v1 : Int32) (v2 : Option Nat) : Ct l yX3_isAt wz_X3_isAt ({ frames := 0, cells := 0, slots := 0, locals := 0 } : Room) 0 0 [va_rf v0, .int v1, va_rf v2] K (retI post) (fun G => w_X3_isAt K post v0 v1 v2 G) := by
  refine tc_of (cc := cX3_isAt) (maxL := 5) (ret := (some .boolean)) (own := RX3) (plainFor_of_name (by decide)) rfl rfl hll [.inr (.inr v0), .inl v1, .inr (.inr v2)] rfl (Nat.le_of_ble_eq_true rfl) ?_
  intro p e s m args below meth c D A G ls C hr hn ht hl hW hS hw
  exact s_X3_isAt C hr hll post v0 v1 v2 _ _ _ _ hW hS hl hw

/-! X3_areEqual -/
def wz_X3_areEqual : List Cond := Cond.code yX3_areEqual cX3_areEqual 3 (some .boolean) :: w0
section Z_X3_areEqual
variable {p : Program} {l : Launch} {e : Env} {s : State} {m : MethodId} {args : Array Value} {below : List Frame} {meth : Method} {c : Code} {D : va_G} {A : Nat → Prop}
set_option maxHeartbeats 4000000 in
set_option maxRecDepth 100000 in
theorem s_X3_areEqual_51 {K : tK} (C : tc_B p l s m args meth c D K A wz_X3_areEqual RX3 cX3_areEqual 3) (hr : meth.sig.returnType = (some .boolean)) (hll : l.stackTraces = false)  (post : Int32 → tG → Prop) : ∀ (u0 : Int32) (G : tG) (H : Heap) (locs : List Loc) (ls : Array Slot), tg_W D A s H G → va_S A s.heap H locs → tl ls 3 [] → w_X3_areEqual_51 K post u0 G → W p l e ({ frames := 3, cells := 2, slots := 24, locals := 65 } : Room) s m args below meth c H locs 2 24 (MQ below (tc_Qc D A (retI post)) args s 2 24 A) (F0 m 51 ls [.int u0]) := by
  intro u0 G H locs ls hW hS hl hw
  unfold w_X3_areEqual_51 at hw
  exact tr_zret C hr dX3_areEqual_51 (Nat.le_of_ble_eq_true rfl) (Nat.le_of_ble_eq_true rfl) hW hS hw
set_option maxHeartbeats 4000000 in
set_option maxRecDepth 100000 in
theorem s_X3_areEqual_50 {K : tK} (C : tc_B p l s m args meth c D K A wz_X3_areEqual RX3 cX3_areEqual 3) (hr : meth.sig.returnType = (some .boolean)) (hll : l.stackTraces = false)  (post : Int32 → tG → Prop) : ∀ (G : tG) (H : Heap) (locs : List Loc) (ls : Array Slot), tg_W D A s H G → va_S A s.heap H locs → tl ls 3 [] → w_X3_areEqual_50 K post G → W p l e ({ frames := 3, cells := 2, slots := 24, locals := 65 } : Room) s m args below meth c H locs 2 24 (MQ below (tc_Qc D A (retI post)) args s 2 24 A) (F0 m 50 ls []) := by
  intro G H locs ls hW hS hl hw
  unfold w_X3_areEqual_50 at hw
  refine lv_iconst (v := (0 : Int32)) C.1.1 C.1.2.1 dX3_areEqual_50 (by decide) ?_
  exact s_X3_areEqual_51 C hr hll post ((0 : Int32)) _ _ _ _ hW hS (tl_sub hl [] rfl) hw
set_option maxHeartbeats 4000000 in
set_option maxRecDepth 100000 in
theorem s_X3_areEqual {K : tK} (C : tc_B p l s m args meth c D K A wz_X3_areEqual RX3 cX3_areEqual 3) (hr : meth.sig.returnType = (some .boolean)) (hll : l.stackTraces = false)  (post : Int32 → tG → Prop) (v0 : Option Nat) (v1 : Int32) (v2 : Int32) : ∀ (G : tG) (H : Heap) (locs : List Loc) (ls : Array Slot), tg_W D A s H G → va_S A s.heap H locs → tl ls 3 [(0, .inr (.inr v0)), (1, .inl v1), (2, .inl v2)] → w_X3_areEqual K post v0 v1 v2 G → W p l e ({ frames := 3, cells := 2, slots := 24, locals := 65 } : Room) s m args below meth c H locs 0 0 (MQ below (tc_Qc D A (retI post)) args s 2 24 A) (F0 m 0 ls []) := by
  intro G H locs ls hW hS hl hw
  unfold w_X3_areEqual at hw
  refine tr_aload_n (k := 0) (x := v0) C hl 0 rfl dX3_areEqual_0 ?_
  refine tr_aload_n (k := 0) (x := v0) C hl 0 rfl dX3_areEqual_1 ?_
  refine tr_iload_n (k := 1) (x := v1) C hl 1 rfl dX3_areEqual_2 ?_
  refine tr_iload_n (k := 2) (x := v2) C hl 2 rfl dX3_areEqual_3 ?_
  refine tr_backI (tr_runV (r := v0) (As := [.int v1, .int v2]) C hl.1 (c_X3_isNoPair l hll K _ v0 v1 v2) (cwV 2 C.1.2.2.2.2 (gi_V (zm kw_257) (zm kw_258) (zm kw_259) (zm kw_155) (zm kw_256)) rfl rfl rfl (by decide +kernel) ⟨(Nat.le_of_ble_eq_true rfl), (Nat.le_of_ble_eq_true rfl)⟩) rfl rfl dX3_areEqual_4 ⟨(Nat.le_of_ble_eq_true rfl), (Nat.le_of_ble_eq_true rfl)⟩ [.inr (.inr v0)] rfl (Nat.le_of_ble_eq_true rfl) rfl hW hS hw) hS (fun x_4 G_4 H locs hw hW hS => ?_)
  refine lv_iconst (v := (0 : Int32)) C.1.1 C.1.2.1 dX3_areEqual_7 (by decide) ?_
  refine tr_backI (tr_runV (r := v0) (As := [.int x_4, .int ((0 : Int32))]) C hl.1 (c_X3_fails l hll K _ v0 x_4 ((0 : Int32))) (cwV 2 C.1.2.2.2.2 (gi_V (zm kw_190) (zm kw_191) (zm kw_192) (zm kw_155) (zm kw_189)) rfl rfl rfl (by decide +kernel) ⟨(Nat.le_of_ble_eq_true rfl), (Nat.le_of_ble_eq_true rfl)⟩) rfl rfl dX3_areEqual_8 ⟨(Nat.le_of_ble_eq_true rfl), (Nat.le_of_ble_eq_true rfl)⟩ [] rfl (Nat.le_of_ble_eq_true rfl) rfl hW hS hw) hS (fun x_8 G_8 H locs hw hW hS => ?_)
  refine lv_if_ne (tgt := 50) C.1.1 C.1.2.1 dX3_areEqual_11 (by decide) (fun hc => ?_) (fun hc => ?_)
  · have hw := hw.1 hc
    refine W.widen (k := 2) (n := 24) (Nat.le_of_ble_eq_true rfl) (Nat.le_of_ble_eq_true rfl) ?_
    exact s_X3_areEqual_50 C hr hll post _ _ _ _ hW hS (tl_sub hl [] rfl) hw
  · have hw := hw.2 hc
    refine tr_aload_n (k := 0) (x := v0) C hl 0 rfl dX3_areEqual_14 ?_
    refine tr_gfR (C0 := RX3) (T := TX3) (N := 8) (ci := 5) (ref := "TwinrowModel") (k := 3) (r := v0) C (zh hw_X3) rfl (by decide) (zm kw_24) rfl dX3_areEqual_15 hW hw (fun x_15 hw => ?_)
    refine tr_iload_n (k := 1) (x := v1) C hl 1 rfl dX3_areEqual_18 ?_
    refine tr_alI (r := x_15) C dX3_areEqual_19 hW hw (fun x_19 hw => ?_)
    refine tr_aload_n (k := 0) (x := v0) C hl 0 rfl dX3_areEqual_20 ?_
    refine tr_gfR (C0 := RX3) (T := TX3) (N := 8) (ci := 5) (ref := "TwinrowModel") (k := 3) (r := v0) C (zh hw_X3) rfl (by decide) (zm kw_24) rfl dX3_areEqual_21 hW hw (fun x_21 hw => ?_)
    refine tr_iload_n (k := 2) (x := v2) C hl 2 rfl dX3_areEqual_24 ?_
    refine tr_alI (r := x_21) C dX3_areEqual_25 hW hw (fun x_25 hw => ?_)
    refine lv_icmp_ne (tgt := 50) C.1.1 C.1.2.1 dX3_areEqual_26 (by decide) (fun hc => ?_) (fun hc => ?_)
    · have hw := hw.1 hc
      refine W.widen (k := 2) (n := 24) (Nat.le_of_ble_eq_true rfl) (Nat.le_of_ble_eq_true rfl) ?_
      exact s_X3_areEqual_50 C hr hll post _ _ _ _ hW hS (tl_sub hl [] rfl) hw
    · have hw := hw.2 hc
      refine tr_aload_n (k := 0) (x := v0) C hl 0 rfl dX3_areEqual_29 ?_
      refine tr_iload_n (k := 1) (x := v1) C hl 1 rfl dX3_areEqual_30 ?_
      refine tr_backR (tr_runV (r := v0) (As := [.int v1]) C hl.1 (c_X3_all l hll K _ v0 v1) (cwV 1 C.1.2.2.2.2 (gi_V (zm kw_157) (zm kw_158) (zm kw_159) (zm kw_155) (zm kw_156)) rfl rfl rfl (by decide +kernel) ⟨(Nat.le_of_ble_eq_true rfl), (Nat.le_of_ble_eq_true rfl)⟩) rfl rfl dX3_areEqual_31 ⟨(Nat.le_of_ble_eq_true rfl), (Nat.le_of_ble_eq_true rfl)⟩ [] rfl (Nat.le_of_ble_eq_true rfl) rfl hW hS hw) hS (fun x_31 G_31 H locs hw hW hS => ?_)
      refine lv_iconst (v := (0 : Int32)) C.1.1 C.1.2.1 dX3_areEqual_34 (by decide) ?_
      refine tr_aload_n (k := 0) (x := v0) C hl 0 rfl dX3_areEqual_35 ?_
      refine tr_iload_n (k := 2) (x := v2) C hl 2 rfl dX3_areEqual_36 ?_
      refine tr_backR (tr_runV (r := v0) (As := [.int v2]) C hl.1 (c_X3_all l hll K _ v0 v2) (cwV 1 C.1.2.2.2.2 (gi_V (zm kw_157) (zm kw_158) (zm kw_159) (zm kw_155) (zm kw_156)) rfl rfl rfl (by decide +kernel) ⟨(Nat.le_of_ble_eq_true rfl), (Nat.le_of_ble_eq_true rfl)⟩) rfl rfl dX3_areEqual_37 ⟨(Nat.le_of_ble_eq_true rfl), (Nat.le_of_ble_eq_true rfl)⟩ [.inl ((0 : Int32)), .inr (.inr x_31)] rfl (Nat.le_of_ble_eq_true rfl) rfl hW hS hw) hS (fun x_37 G_37 H locs hw hW hS => ?_)
      refine tr_backI (tr_runS (As := [va_rf x_31, .int ((0 : Int32)), va_rf x_37]) C hl.1 (c_X3_isAt l hll K _ x_31 ((0 : Int32)) x_37) (va_cwS 3 C.1.2.2.2.2 (gi_S (zm kw_581) (zm kw_582) (zm kw_155) (zm kw_580)) rfl rfl rfl (by decide +kernel) ⟨(Nat.le_of_ble_eq_true rfl), (Nat.le_of_ble_eq_true rfl)⟩) rfl dX3_areEqual_40 ⟨(Nat.le_of_ble_eq_true rfl), (Nat.le_of_ble_eq_true rfl)⟩ [] rfl (Nat.le_of_ble_eq_true rfl) rfl hW hS hw) hS (fun x_40 G_40 H locs hw hW hS => ?_)
      refine lv_if_eq (tgt := 50) C.1.1 C.1.2.1 dX3_areEqual_43 (by decide) (fun hc => ?_) (fun hc => ?_)
      · have hw := hw.1 hc
        exact s_X3_areEqual_50 C hr hll post _ _ _ _ hW hS (tl_sub hl [] rfl) hw
      · have hw := hw.2 hc
        refine lv_iconst (v := (1 : Int32)) C.1.1 C.1.2.1 dX3_areEqual_46 (by decide) ?_
        refine lv_goto (tgt := 51) C.1.1 C.1.2.1 dX3_areEqual_47 (by decide) ?_
        exact s_X3_areEqual_51 C hr hll post ((1 : Int32)) _ _ _ _ hW hS (tl_sub hl [] rfl) hw
end Z_X3_areEqual
set_option maxHeartbeats 4000000 in
set_option maxRecDepth 100000 in
theorem c_X3_areEqual (l : Launch) (hll : l.stackTraces = false) (K : tK) (post : Int32 → tG → Prop) (v0 : Option Nat) (v1 : Int32) (v2 : Int32) : Ct l yX3_areEqual wz_X3_areEqual ({ frames := 3, cells := 2, slots := 24, locals := 65 } : Room) 2 24 [va_rf v0, .int v1, .int v2] K (retI post) (fun G => w_X3_areEqual K post v0 v1 v2 G) := by
  refine tc_of (cc := cX3_areEqual) (maxL := 3) (ret := (some .boolean)) (own := RX3) (plainFor_of_name (by decide)) rfl rfl hll [.inr (.inr v0), .inl v1, .inl v2] rfl (Nat.le_of_ble_eq_true rfl) ?_
  intro p e s m args below meth c D A G ls C hr hn ht hl hW hS hw
  exact s_X3_areEqual C hr hll post v0 v1 v2 _ _ _ _ hW hS hl hw

/-! X1_indexOfAll -/
def wz_X1_indexOfAll : List Cond := Cond.code yX1_indexOfAll cX1_indexOfAll 6 (some .int) :: w0
section Z_X1_indexOfAll
variable {p : Program} {l : Launch} {e : Env} {s : State} {m : MethodId} {args : Array Value} {below : List Frame} {meth : Method} {c : Code} {D : va_G} {A : Nat → Prop}
set_option maxHeartbeats 4000000 in
set_option maxRecDepth 100000 in
theorem s_X1_indexOfAll_16_b {K : tK} (C : tc_B p l s m args meth c D K A wz_X1_indexOfAll RX1 cX1_indexOfAll 6) (hr : meth.sig.returnType = (some .int)) (ht : ∀ x ∈ c.exceptionTable.toList, False) (hll : l.stackTraces = false)  (post : Int32 → tG → Prop) (postX : String → tG → Prop) (k16 : Option Nat → Option Nat → Int32 → tG → Prop) (hk16 : ∀ (v3 : Option Nat) (v4 : Option Nat) (v5 : Int32) (G : tG) (H : Heap) (locs : List Loc) (ls : Array Slot), tg_W D A s H G → va_S A s.heap H locs → tl ls 6 [(3, .inr (.inr v3)), (4, .inr (.inr v4)), (5, .inl v5)] → k16 v3 v4 v5 G → W p l e ({ frames := 7, cells := 2, slots := 12, locals := 104 } : Room) s m args below meth c H locs 2 12 (vx_MQ below (tc_Qc D A (retI post)) (tc_XC D A postX) args s 2 12 A) (F0 m 16 ls [])) : ∀ (v3 : Option Nat) (v4 : Option Nat) (v5 : Int32) (G : tG) (H : Heap) (locs : List Loc) (ls : Array Slot), tg_W D A s H G → va_S A s.heap H locs → tl ls 6 [(3, .inr (.inr v3)), (4, .inr (.inr v4)), (5, .inl v5)] → w_X1_indexOfAll_16_b K post postX k16 v3 v4 v5 G → W p l e ({ frames := 7, cells := 2, slots := 12, locals := 104 } : Room) s m args below meth c H locs 2 12 (vx_MQ below (tc_Qc D A (retI post)) (tc_XC D A postX) args s 2 12 A) (F0 m 16 ls []) := by
  intro v3 v4 v5 G H locs ls hW hS hl hw
  unfold w_X1_indexOfAll_16_b at hw
  refine tr_iload (x := v5) C hl 2 rfl dX1_indexOfAll_16 ?_
  refine tr_aload_n (k := 3) (x := v3) C hl 0 rfl dX1_indexOfAll_18 ?_
  refine tr_gfI (C0 := RX0) (T := TX0) (N := 4) (ci := 2) (ref := "Twinrow$RowList") (k := 3) (r := v3) C (zh hw_X0) rfl (by decide) (zm kw_34) rfl dX1_indexOfAll_19 hW hw (fun x_19 hw => ?_)
  refine tr_aload (x := v4) C hl 1 rfl dX1_indexOfAll_22 ?_
  refine tr_gfI (C0 := RX0) (T := TX0) (N := 4) (ci := 2) (ref := "Twinrow$RowList") (k := 3) (r := v4) C (zh hw_X0) rfl (by decide) (zm kw_34) rfl dX1_indexOfAll_24 hW hw (fun x_24 hw => ?_)
  refine lv_isub C.1.1 C.1.2.1 dX1_indexOfAll_27 ?_
  refine lv_icmp_gt (tgt := 51) C.1.1 C.1.2.1 dX1_indexOfAll_28 (by decide) (fun hc => ?_) (fun hc => ?_)
  · have hw := hw.1 hc
    refine lv_iconst (v := (-1 : Int32)) C.1.1 C.1.2.1 dX1_indexOfAll_51 (by decide) ?_
    exact vx_ret (tr_iret C hr dX1_indexOfAll_52 (Nat.le_of_ble_eq_true rfl) (Nat.le_of_ble_eq_true rfl) hW hS hw)
  · have hw := hw.2 hc
    refine tr_aload_n (k := 3) (x := v3) C hl 0 rfl dX1_indexOfAll_31 ?_
    refine tr_iload (x := v5) C hl 2 rfl dX1_indexOfAll_32 ?_
    refine tr_aload (x := v4) C hl 1 rfl dX1_indexOfAll_34 ?_
    refine tr_backI (tr_runS (As := [va_rf v3, .int v5, va_rf v4]) C hl.1 (c_X1_hasAllFrom l hll K _ v3 v5 v4) (va_cwS 3 C.1.2.2.2.2 (gi_S (zm kw_40) (zm kw_41) (zm kw_33) (zm kw_39)) rfl rfl rfl (by decide +kernel) ⟨(Nat.le_of_ble_eq_true rfl), (Nat.le_of_ble_eq_true rfl)⟩) rfl dX1_indexOfAll_36 ⟨(Nat.le_of_ble_eq_true rfl), (Nat.le_of_ble_eq_true rfl)⟩ [] rfl (Nat.le_of_ble_eq_true rfl) rfl hW hS hw) hS (fun x_36 G_36 H locs hw hW hS => ?_)
    refine lv_if_eq (tgt := 45) C.1.1 C.1.2.1 dX1_indexOfAll_39 (by decide) (fun hc => ?_) (fun hc => ?_)
    · have hw := hw.1 hc
      refine tr_iinc C hl 2 (v5 + (1 : Int32)) [(5, .inl (v5 + (1 : Int32))), (3, .inr (.inr v3)), (4, .inr (.inr v4))] rfl rfl (by decide) rfl dX1_indexOfAll_45 (fun ls hl => ?_)
      refine lv_goto (tgt := 16) C.1.1 C.1.2.1 dX1_indexOfAll_48 (by decide) ?_
      exact hk16 v3 v4 ((v5 + (1 : Int32))) _ _ _ _ hW hS (tl_sub hl [1, 2, 0] rfl) hw
    · have hw := hw.2 hc
      refine tr_iload (x := v5) C hl 2 rfl dX1_indexOfAll_42 ?_
      exact vx_ret (tr_iret C hr dX1_indexOfAll_44 (Nat.le_of_ble_eq_true rfl) (Nat.le_of_ble_eq_true rfl) hW hS hw)
set_option maxHeartbeats 4000000 in
set_option maxRecDepth 100000 in
theorem s_X1_indexOfAll_16 {K : tK} (C : tc_B p l s m args meth c D K A wz_X1_indexOfAll RX1 cX1_indexOfAll 6) (hr : meth.sig.returnType = (some .int)) (ht : ∀ x ∈ c.exceptionTable.toList, False) (hll : l.stackTraces = false)  (post : Int32 → tG → Prop) (postX : String → tG → Prop) : ∀ (n : Nat) (v3 : Option Nat) (v4 : Option Nat) (v5 : Int32) (G : tG) (H : Heap) (locs : List Loc) (ls : Array Slot), tg_W D A s H G → va_S A s.heap H locs → tl ls 6 [(3, .inr (.inr v3)), (4, .inr (.inr v4)), (5, .inl v5)] → w_X1_indexOfAll_16 K post postX n v3 v4 v5 G → W p l e ({ frames := 7, cells := 2, slots := 12, locals := 104 } : Room) s m args below meth c H locs 2 12 (vx_MQ below (tc_Qc D A (retI post)) (tc_XC D A postX) args s 2 12 A) (F0 m 16 ls []) := by
  intro n
  induction n with
  | zero =>
    intro v3 v4 v5 G H locs ls hW hS hl hw
    exact hw.elim
  | succ n ih => exact s_X1_indexOfAll_16_b C hr ht hll post postX _ ih
set_option maxHeartbeats 4000000 in
set_option maxRecDepth 100000 in
theorem s_X1_indexOfAll {K : tK} (C : tc_B p l s m args meth c D K A wz_X1_indexOfAll RX1 cX1_indexOfAll 6) (hr : meth.sig.returnType = (some .int)) (ht : ∀ x ∈ c.exceptionTable.toList, False) (hll : l.stackTraces = false)  (post : Int32 → tG → Prop) (postX : String → tG → Prop) (v0 : Option Nat) (v1 : Int32) (v2 : Int32) : ∀ (G : tG) (H : Heap) (locs : List Loc) (ls : Array Slot), tg_W D A s H G → va_S A s.heap H locs → tl ls 6 [(0, .inr (.inr v0)), (1, .inl v1), (2, .inl v2)] → w_X1_indexOfAll K post postX v0 v1 v2 G → W p l e ({ frames := 7, cells := 2, slots := 12, locals := 104 } : Room) s m args below meth c H locs 0 0 (vx_MQ below (tc_Qc D A (retI post)) (tc_XC D A postX) args s 2 12 A) (F0 m 0 ls []) := by
  intro G H locs ls hW hS hl hw
  unfold w_X1_indexOfAll at hw
  refine tr_aload_n (k := 0) (x := v0) C hl 0 rfl dX1_indexOfAll_0 ?_
  refine tr_iload_n (k := 1) (x := v1) C hl 1 rfl dX1_indexOfAll_1 ?_
  refine tx_backR (tx_runV (r := v0) (As := [.int v1]) C hl.1 (c_X1_listAt l hll K _ _ v0 v1) (cwV 1 C.1.2.2.2.2 (gi_V (zm kw_94) (zm kw_95) (zm kw_96) (zm kw_33) (zm kw_93)) rfl rfl rfl (by decide +kernel) ⟨(Nat.le_of_ble_eq_true rfl), (Nat.le_of_ble_eq_true rfl)⟩) rfl rfl dX1_indexOfAll_2 ⟨(Nat.le_of_ble_eq_true rfl), (Nat.le_of_ble_eq_true rfl)⟩ [] rfl (Nat.le_of_ble_eq_true rfl) rfl hW hS hw) hS C.2.1 ht (Nat.le_of_ble_eq_true rfl) (Nat.le_of_ble_eq_true rfl) (fun x_2 G_2 H locs hw hW hS => ?_)
  refine tr_astore_n (k := 3) (x := x_2) C hl [(3, .inr (.inr x_2)), (0, .inr (.inr v0)), (1, .inl v1), (2, .inl v2)] (by decide) rfl dX1_indexOfAll_5 (fun ls hl => ?_)
  refine tr_aload_n (k := 0) (x := v0) C hl 1 rfl dX1_indexOfAll_6 ?_
  refine tr_iload_n (k := 2) (x := v2) C hl 3 rfl dX1_indexOfAll_7 ?_
  refine tx_backR (tx_runV (r := v0) (As := [.int v2]) C hl.1 (c_X1_listAt l hll K _ _ v0 v2) (cwV 1 C.1.2.2.2.2 (gi_V (zm kw_94) (zm kw_95) (zm kw_96) (zm kw_33) (zm kw_93)) rfl rfl rfl (by decide +kernel) ⟨(Nat.le_of_ble_eq_true rfl), (Nat.le_of_ble_eq_true rfl)⟩) rfl rfl dX1_indexOfAll_8 ⟨(Nat.le_of_ble_eq_true rfl), (Nat.le_of_ble_eq_true rfl)⟩ [] rfl (Nat.le_of_ble_eq_true rfl) rfl hW hS hw) hS C.2.1 ht (Nat.le_of_ble_eq_true rfl) (Nat.le_of_ble_eq_true rfl) (fun x_8 G_8 H locs hw hW hS => ?_)
  refine tr_astore (x := x_8) C hl [(4, .inr (.inr x_8)), (3, .inr (.inr x_2)), (0, .inr (.inr v0)), (1, .inl v1), (2, .inl v2)] (by decide) rfl dX1_indexOfAll_11 (fun ls hl => ?_)
  refine lv_iconst (v := (0 : Int32)) C.1.1 C.1.2.1 dX1_indexOfAll_13 (by decide) ?_
  refine tr_istore (x := (0 : Int32)) C hl [(5, .inl (0 : Int32)), (4, .inr (.inr x_8)), (3, .inr (.inr x_2)), (0, .inr (.inr v0)), (1, .inl v1), (2, .inl v2)] (by decide) rfl dX1_indexOfAll_14 (fun ls hl => ?_)
  obtain ⟨n16, hw⟩ := hw
  exact s_X1_indexOfAll_16 C hr ht hll post postX n16 x_2 x_8 ((0 : Int32)) _ _ _ _ hW hS (tl_sub hl [2, 1, 0] rfl) hw
end Z_X1_indexOfAll
set_option maxHeartbeats 4000000 in
set_option maxRecDepth 100000 in
theorem c_X1_indexOfAll (l : Launch) (hll : l.stackTraces = false) (K : tK) (post : Int32 → tG → Prop) (postX : String → tG → Prop) (v0 : Option Nat) (v1 : Int32) (v2 : Int32) : Cx l yX1_indexOfAll wz_X1_indexOfAll ({ frames := 7, cells := 2, slots := 12, locals := 104 } : Room) 2 12 [va_rf v0, .int v1, .int v2] K (retI post) postX (fun G => w_X1_indexOfAll K post postX v0 v1 v2 G) := by
  refine tx_of (cc := cX1_indexOfAll) (maxL := 6) (ret := (some .int)) (own := RX1) (by decide) rfl rfl hll [.inr (.inr v0), .inl v1, .inl v2] rfl (Nat.le_of_ble_eq_true rfl) ?_
  intro p e s m args below meth c D A G ls C hr hn ht hl hW hS hw
  exact s_X1_indexOfAll C hr ht hll post postX v0 v1 v2 _ _ _ _ hW hS hl hw

/-! L_indexOfAll -/
def wz_L_indexOfAll : List Cond := Cond.codeWith yL_indexOfAll cL_indexOfAll 5 (some .int) [(0, 11, 14, 19)] :: w0
section Z_L_indexOfAll
variable {p : Program} {l : Launch} {e : Env} {s : State} {m : MethodId} {args : Array Value} {below : List Frame} {meth : Method} {c : Code} {D : va_G} {A : Nat → Prop}
set_option maxHeartbeats 4000000 in
set_option maxRecDepth 100000 in
theorem s_L_indexOfAll {K : tK} (C : tc_B p l s m args meth c D K A wz_L_indexOfAll RL cL_indexOfAll 5) (hr : meth.sig.returnType = (some .int)) (htab : c.exceptionTable.toList = tableOf [(0, 11, 14, 19)]) (hcC : kx_C s) (hll : l.stackTraces = false)  (post : Int32 → tG → Prop) (v0 : Option Nat) (v1 : Int32) (v2 : Int32) (v3 : Option Nat) : ∀ (G : tG) (H : Heap) (locs : List Loc) (ls : Array Slot), tg_W D A s H G → va_S A s.heap H locs → tl ls 5 [(0, .inr (.inr v0)), (1, .inl v1), (2, .inl v2), (3, .inr (.inr v3))] → w_L_indexOfAll K post v0 v1 v2 v3 G → W p l e ({ frames := 8, cells := 2, slots := 12, locals := 129 } : Room) s m args below meth c H locs 0 0 (vx_MQ below (tc_Qc D A (retI post)) (tc_XC D A (fun _ _ => False)) args s 2 12 A) (F0 m 0 ls []) := by
  intro G H locs ls hW hS hl hw
  unfold w_L_indexOfAll at hw
  refine tr_aload_n (k := 3) (x := v3) C hl 3 rfl dL_indexOfAll_0 ?_
  refine tr_aload_n (k := 0) (x := v0) C hl 0 rfl dL_indexOfAll_1 ?_
  refine tr_iload_n (k := 1) (x := v1) C hl 1 rfl dL_indexOfAll_2 ?_
  refine tr_iload_n (k := 2) (x := v2) C hl 2 rfl dL_indexOfAll_3 ?_
  refine tx_backCI (tx_runV (r := v0) (As := [.int v1, .int v2]) C hl.1 (c_X1_indexOfAll l hll K _ _ v0 v1 v2) (cwV 2 C.1.2.2.2.2 (gi_V (zm kw_584) (zm kw_585) (zm kw_586) (zm kw_33) (zm kw_583)) rfl rfl rfl (by decide +kernel) ⟨(Nat.le_of_ble_eq_true rfl), (Nat.le_of_ble_eq_true rfl)⟩) rfl rfl dL_indexOfAll_4 ⟨(Nat.le_of_ble_eq_true rfl), (Nat.le_of_ble_eq_true rfl)⟩ [.inr (.inr v3)] rfl (Nat.le_of_ble_eq_true rfl) rfl hW hS hw) hS (fun E ce q9 GX H locs hw hW hS hce hcv hcl => ?_) (fun x_4 G_4 H locs hw hW hS => ?_)
  · by_cases hq0 : E = "java/lang/IndexOutOfBoundsException"
    · replace hw := hw.1 hq0
      subst hq0
      refine vx_catch (name := "java/lang/IndexOutOfBoundsException") C.1.2.2.2.1 [] (⟨0, 11, 14, 19⟩ : ExceptionTableEntry) [] (by rw [htab]; rfl) (fun z hz => nomatch hz) (by decide) (by decide) (C.1.2.2.2.2 _ (zm kw_209)) hcC.2.2.1 hce hcv hcl ?_
      refine tr_astore (x := (some q9)) C hl [(4, .inr (.inr (some q9))), (0, .inr (.inr v0)), (1, .inl v1), (2, .inl v2), (3, .inr (.inr v3))] (by decide) rfl dL_indexOfAll_14 (fun ls hl => ?_)
      refine lv_iconst (v := (1 : Int32)) C.1.1 C.1.2.1 dL_indexOfAll_16 (by decide) ?_
      exact vx_ret (tr_iret C hr dL_indexOfAll_17 (Nat.le_of_ble_eq_true rfl) (Nat.le_of_ble_eq_true rfl) hW hS hw)
    replace hw := hw.2 hq0
    exact hw.elim
  · refine lv_i2l (v := ((x_4).toInt64)) C.1.1 C.1.2.1 dL_indexOfAll_7 rfl ?_
    refine tr_pfN (C0 := RX2) (T := TX2) (N := 2) (ci := 4) (ref := "TwinrowLaw$Out") (host := "TwinrowLaw") (k := 0) (ty := .long) (v := .long (((x_4).toInt64))) (r := v3) C (zh hw_X2) tyX2 tyX2_ok nmX2 rfl (by decide) hcC.1 rfl rfl (by decide +kernel) rfl rfl dL_indexOfAll_8 hW hS hw (fun G_8 H locs hw hW hS => ?_)
    refine lv_goto (tgt := 18) C.1.1 C.1.2.1 dL_indexOfAll_11 (by decide) ?_
    refine lv_iconst (v := (0 : Int32)) C.1.1 C.1.2.1 dL_indexOfAll_18 (by decide) ?_
    exact vx_ret (tr_iret C hr dL_indexOfAll_19 (Nat.le_of_ble_eq_true rfl) (Nat.le_of_ble_eq_true rfl) hW hS hw)
end Z_L_indexOfAll
set_option maxHeartbeats 4000000 in
set_option maxRecDepth 100000 in
theorem c_L_indexOfAll (l : Launch) (hll : l.stackTraces = false) (K : tK) (post : Int32 → tG → Prop) (v0 : Option Nat) (v1 : Int32) (v2 : Int32) (v3 : Option Nat) : Cx l yL_indexOfAll wz_L_indexOfAll ({ frames := 8, cells := 2, slots := 12, locals := 129 } : Room) 2 12 [va_rf v0, .int v1, .int v2, va_rf v3] K (retI post) (fun _ _ => False) (fun G => w_L_indexOfAll K post v0 v1 v2 v3 G) := by
  refine tx_ofH (cc := cL_indexOfAll) (maxL := 5) (ret := (some .int)) (own := RL) (hh := [(0, 11, 14, 19)]) (by decide) rfl rfl hll [.inr (.inr v0), .inl v1, .inl v2, .inr (.inr v3)] rfl (Nat.le_of_ble_eq_true rfl) ?_
  intro p e s m args below meth c D A G ls C hr htab hcC hl hW hS hw
  exact s_L_indexOfAll C hr htab hcC hll post v0 v1 v2 v3 _ _ _ _ hW hS hl hw

/-! X3_indexOfAll -/
def wz_X3_indexOfAll : List Cond := Cond.code yX3_indexOfAll cX3_indexOfAll 4 (some .int) :: w0
section Z_X3_indexOfAll
variable {p : Program} {l : Launch} {e : Env} {s : State} {m : MethodId} {args : Array Value} {below : List Frame} {meth : Method} {c : Code} {D : va_G} {A : Nat → Prop}
set_option maxHeartbeats 4000000 in
set_option maxRecDepth 100000 in
theorem s_X3_indexOfAll_18_b {K : tK} (C : tc_B p l s m args meth c D K A wz_X3_indexOfAll RX3 cX3_indexOfAll 4) (hr : meth.sig.returnType = (some .int)) (hll : l.stackTraces = false)  (post : Int32 → tG → Prop) (k18 : Nat → Nat → Option Nat → Int32 → Int32 → Int32 → tG → Prop) (hk18 : ∀ (nc ns : Nat) (v0 : Option Nat) (v1 : Int32) (v2 : Int32) (v3 : Int32) (G : tG) (H : Heap) (locs : List Loc) (ls : Array Slot), nc ≤ 26 ∧ ns ≤ 312 → tg_W D A s H G → va_S A s.heap H locs → tl ls 4 [(0, .inr (.inr v0)), (1, .inl v1), (2, .inl v2), (3, .inl v3)] → k18 nc ns v0 v1 v2 v3 G → W p l e ({ frames := 3, cells := 26, slots := 312, locals := 65 } : Room) s m args below meth c H locs nc ns (MQ below (tc_Qc D A (retI post)) args s 26 312 A) (F0 m 18 ls [])) : ∀ (nc ns : Nat) (v0 : Option Nat) (v1 : Int32) (v2 : Int32) (v3 : Int32) (G : tG) (H : Heap) (locs : List Loc) (ls : Array Slot), nc ≤ 26 ∧ ns ≤ 312 → tg_W D A s H G → va_S A s.heap H locs → tl ls 4 [(0, .inr (.inr v0)), (1, .inl v1), (2, .inl v2), (3, .inl v3)] → w_X3_indexOfAll_18_b K post k18 nc ns v0 v1 v2 v3 G → W p l e ({ frames := 3, cells := 26, slots := 312, locals := 65 } : Room) s m args below meth c H locs nc ns (MQ below (tc_Qc D A (retI post)) args s 26 312 A) (F0 m 18 ls []) := by
  intro nc ns v0 v1 v2 v3 G H locs ls hcn hW hS hl hw
  unfold w_X3_indexOfAll_18_b at hw
  refine tr_iload_n (k := 3) (x := v3) C hl 3 rfl dX3_indexOfAll_18 ?_
  refine tr_aload_n (k := 0) (x := v0) C hl 0 rfl dX3_indexOfAll_19 ?_
  refine tr_gfR (C0 := RX3) (T := TX3) (N := 8) (ci := 5) (ref := "TwinrowModel") (k := 3) (r := v0) C (zh hw_X3) rfl (by decide) (zm kw_24) rfl dX3_indexOfAll_20 hW hw (fun x_20 hw => ?_)
  refine tr_iload_n (k := 1) (x := v1) C hl 1 rfl dX3_indexOfAll_23 ?_
  refine tr_alI (r := x_20) C dX3_indexOfAll_24 hW hw (fun x_24 hw => ?_)
  refine lv_icmp_gt (tgt := 53) C.1.1 C.1.2.1 dX3_indexOfAll_25 (by decide) (fun hc => ?_) (fun hc => ?_)
  · have hw := hw.1 hc
    refine lv_iconst (v := (-1 : Int32)) C.1.1 C.1.2.1 dX3_indexOfAll_53 (by decide) ?_
    exact tr_iret C hr dX3_indexOfAll_54 (show nc ≤ 26 by omega) (show ns ≤ 312 by omega) hW hS hw
  · have hw := hw.2 hc
    refine tr_aload_n (k := 0) (x := v0) C hl 0 rfl dX3_indexOfAll_28 ?_
    refine tr_iload_n (k := 1) (x := v1) C hl 1 rfl dX3_indexOfAll_29 ?_
    have hq1 := hw.1
    have hw := hw.2
    refine tr_backR (tr_runV (r := v0) (As := [.int v1]) C hl.1 (c_X3_all l hll K _ v0 v1) (cwV 1 C.1.2.2.2.2 (gi_V (zm kw_157) (zm kw_158) (zm kw_159) (zm kw_155) (zm kw_156)) rfl rfl rfl (by decide +kernel) ⟨(Nat.le_of_ble_eq_true rfl), (Nat.le_of_ble_eq_true rfl)⟩) rfl rfl dX3_indexOfAll_30 ⟨hq1.1, hq1.2⟩ [] rfl (Nat.le_of_ble_eq_true rfl) rfl hW hS hw) hS (fun x_30 G_30 H locs hw hW hS => ?_)
    refine tr_iload_n (k := 3) (x := v3) C hl 3 rfl dX3_indexOfAll_33 ?_
    refine tr_aload_n (k := 0) (x := v0) C hl 0 rfl dX3_indexOfAll_34 ?_
    refine tr_iload_n (k := 2) (x := v2) C hl 2 rfl dX3_indexOfAll_35 ?_
    have hq2 := hw.1
    have hw := hw.2
    refine tr_backR (tr_runV (r := v0) (As := [.int v2]) C hl.1 (c_X3_all l hll K _ v0 v2) (cwV 1 C.1.2.2.2.2 (gi_V (zm kw_157) (zm kw_158) (zm kw_159) (zm kw_155) (zm kw_156)) rfl rfl rfl (by decide +kernel) ⟨(Nat.le_of_ble_eq_true rfl), (Nat.le_of_ble_eq_true rfl)⟩) rfl rfl dX3_indexOfAll_36 ⟨hq2.1, hq2.2⟩ [.inl v3, .inr (.inr x_30)] rfl (Nat.le_of_ble_eq_true rfl) rfl hW hS hw) hS (fun x_36 G_36 H locs hw hW hS => ?_)
    refine tr_backI (tr_runS (As := [va_rf x_30, .int v3, va_rf x_36]) C hl.1 (c_X3_isAt l hll K _ x_30 v3 x_36) (va_cwS 3 C.1.2.2.2.2 (gi_S (zm kw_581) (zm kw_582) (zm kw_155) (zm kw_580)) rfl rfl rfl (by decide +kernel) ⟨(Nat.le_of_ble_eq_true rfl), (Nat.le_of_ble_eq_true rfl)⟩) rfl dX3_indexOfAll_39 ⟨(show ((nc + 1) + 1) + 0 ≤ 26 by omega), (show ((ns + 12) + 12) + 0 ≤ 312 by omega)⟩ [] rfl (Nat.le_of_ble_eq_true rfl) rfl hW hS hw) hS (fun x_39 G_39 H locs hw hW hS => ?_)
    refine lv_if_eq (tgt := 47) C.1.1 C.1.2.1 dX3_indexOfAll_42 (by decide) (fun hc => ?_) (fun hc => ?_)
    · have hw := hw.1 hc
      refine tr_iinc C hl 3 (v3 + (1 : Int32)) [(3, .inl (v3 + (1 : Int32))), (0, .inr (.inr v0)), (1, .inl v1), (2, .inl v2)] rfl rfl (by decide) rfl dX3_indexOfAll_47 (fun ls hl => ?_)
      refine lv_goto (tgt := 18) C.1.1 C.1.2.1 dX3_indexOfAll_50 (by decide) ?_
      exact hk18 (((nc + 1) + 1)) (((ns + 12) + 12)) v0 v1 v2 ((v3 + (1 : Int32))) _ _ _ _ (show ((nc + 1) + 1) ≤ 26 ∧ ((ns + 12) + 12) ≤ 312 by omega) hW hS (tl_sub hl [1, 2, 3, 0] rfl) hw
    · have hw := hw.2 hc
      refine tr_iload_n (k := 3) (x := v3) C hl 3 rfl dX3_indexOfAll_45 ?_
      exact tr_iret C hr dX3_indexOfAll_46 (show ((nc + 1) + 1) ≤ 26 by omega) (show ((ns + 12) + 12) ≤ 312 by omega) hW hS hw
set_option maxHeartbeats 4000000 in
set_option maxRecDepth 100000 in
theorem s_X3_indexOfAll_18 {K : tK} (C : tc_B p l s m args meth c D K A wz_X3_indexOfAll RX3 cX3_indexOfAll 4) (hr : meth.sig.returnType = (some .int)) (hll : l.stackTraces = false)  (post : Int32 → tG → Prop) : ∀ (n : Nat) (nc ns : Nat) (v0 : Option Nat) (v1 : Int32) (v2 : Int32) (v3 : Int32) (G : tG) (H : Heap) (locs : List Loc) (ls : Array Slot), nc ≤ 26 ∧ ns ≤ 312 → tg_W D A s H G → va_S A s.heap H locs → tl ls 4 [(0, .inr (.inr v0)), (1, .inl v1), (2, .inl v2), (3, .inl v3)] → w_X3_indexOfAll_18 K post n nc ns v0 v1 v2 v3 G → W p l e ({ frames := 3, cells := 26, slots := 312, locals := 65 } : Room) s m args below meth c H locs nc ns (MQ below (tc_Qc D A (retI post)) args s 26 312 A) (F0 m 18 ls []) := by
  intro n
  induction n with
  | zero =>
    intro nc ns v0 v1 v2 v3 G H locs ls hcn hW hS hl hw
    exact hw.elim
  | succ n ih => exact s_X3_indexOfAll_18_b C hr hll post _ ih
set_option maxHeartbeats 4000000 in
set_option maxRecDepth 100000 in
theorem s_X3_indexOfAll {K : tK} (C : tc_B p l s m args meth c D K A wz_X3_indexOfAll RX3 cX3_indexOfAll 4) (hr : meth.sig.returnType = (some .int)) (hll : l.stackTraces = false)  (post : Int32 → tG → Prop) (v0 : Option Nat) (v1 : Int32) (v2 : Int32) : ∀ (G : tG) (H : Heap) (locs : List Loc) (ls : Array Slot), tg_W D A s H G → va_S A s.heap H locs → tl ls 4 [(0, .inr (.inr v0)), (1, .inl v1), (2, .inl v2)] → w_X3_indexOfAll K post v0 v1 v2 G → W p l e ({ frames := 3, cells := 26, slots := 312, locals := 65 } : Room) s m args below meth c H locs 0 0 (MQ below (tc_Qc D A (retI post)) args s 26 312 A) (F0 m 0 ls []) := by
  intro G H locs ls hW hS hl hw
  unfold w_X3_indexOfAll at hw
  refine tr_aload_n (k := 0) (x := v0) C hl 0 rfl dX3_indexOfAll_0 ?_
  refine tr_aload_n (k := 0) (x := v0) C hl 0 rfl dX3_indexOfAll_1 ?_
  refine tr_iload_n (k := 1) (x := v1) C hl 1 rfl dX3_indexOfAll_2 ?_
  refine tr_iload_n (k := 2) (x := v2) C hl 2 rfl dX3_indexOfAll_3 ?_
  refine tr_backI (tr_runV (r := v0) (As := [.int v1, .int v2]) C hl.1 (c_X3_isNoPair l hll K _ v0 v1 v2) (cwV 2 C.1.2.2.2.2 (gi_V (zm kw_257) (zm kw_258) (zm kw_259) (zm kw_155) (zm kw_256)) rfl rfl rfl (by decide +kernel) ⟨(Nat.le_of_ble_eq_true rfl), (Nat.le_of_ble_eq_true rfl)⟩) rfl rfl dX3_indexOfAll_4 ⟨(show 0 + 0 ≤ 26 by omega), (show 0 + 0 ≤ 312 by omega)⟩ [.inr (.inr v0)] rfl (Nat.le_of_ble_eq_true rfl) rfl hW hS hw) hS (fun x_4 G_4 H locs hw hW hS => ?_)
  refine lv_iconst (v := (0 : Int32)) C.1.1 C.1.2.1 dX3_indexOfAll_7 (by decide) ?_
  refine tr_backI (tr_runV (r := v0) (As := [.int x_4, .int ((0 : Int32))]) C hl.1 (c_X3_fails l hll K _ v0 x_4 ((0 : Int32))) (cwV 2 C.1.2.2.2.2 (gi_V (zm kw_190) (zm kw_191) (zm kw_192) (zm kw_155) (zm kw_189)) rfl rfl rfl (by decide +kernel) ⟨(Nat.le_of_ble_eq_true rfl), (Nat.le_of_ble_eq_true rfl)⟩) rfl rfl dX3_indexOfAll_8 ⟨(show 0 + 0 ≤ 26 by omega), (show 0 + 0 ≤ 312 by omega)⟩ [] rfl (Nat.le_of_ble_eq_true rfl) rfl hW hS hw) hS (fun x_8 G_8 H locs hw hW hS => ?_)
  refine lv_if_eq (tgt := 16) C.1.1 C.1.2.1 dX3_indexOfAll_11 (by decide) (fun hc => ?_) (fun hc => ?_)
  · have hw := hw.1 hc
    refine lv_iconst (v := (0 : Int32)) C.1.1 C.1.2.1 dX3_indexOfAll_16 (by decide) ?_
    refine tr_istore_n (k := 3) (x := (0 : Int32)) C hl [(3, .inl (0 : Int32)), (0, .inr (.inr v0)), (1, .inl v1), (2, .inl v2)] (by decide) rfl dX3_indexOfAll_17 (fun ls hl => ?_)
    obtain ⟨n18, hw⟩ := hw
    exact s_X3_indexOfAll_18 C hr hll post n18 0 0 v0 v1 v2 ((0 : Int32)) _ _ _ _ (show 0 ≤ 26 ∧ 0 ≤ 312 by omega) hW hS (tl_sub hl [1, 2, 3, 0] rfl) hw
  · have hw := hw.2 hc
    refine lv_iconst (v := (0 : Int32)) C.1.1 C.1.2.1 dX3_indexOfAll_14 (by decide) ?_
    exact tr_iret C hr dX3_indexOfAll_15 (show 0 ≤ 26 by omega) (show 0 ≤ 312 by omega) hW hS hw
end Z_X3_indexOfAll
set_option maxHeartbeats 4000000 in
set_option maxRecDepth 100000 in
theorem c_X3_indexOfAll (l : Launch) (hll : l.stackTraces = false) (K : tK) (post : Int32 → tG → Prop) (v0 : Option Nat) (v1 : Int32) (v2 : Int32) : Ct l yX3_indexOfAll wz_X3_indexOfAll ({ frames := 3, cells := 26, slots := 312, locals := 65 } : Room) 26 312 [va_rf v0, .int v1, .int v2] K (retI post) (fun G => w_X3_indexOfAll K post v0 v1 v2 G) := by
  refine tc_of (cc := cX3_indexOfAll) (maxL := 4) (ret := (some .int)) (own := RX3) (plainFor_of_name (by decide)) rfl rfl hll [.inr (.inr v0), .inl v1, .inl v2] rfl (Nat.le_of_ble_eq_true rfl) ?_
  intro p e s m args below meth c D A G ls C hr hn ht hl hW hS hw
  exact s_X3_indexOfAll C hr hll post v0 v1 v2 _ _ _ _ hW hS hl hw

/-! X1_areApart -/
def wz_X1_areApart : List Cond := Cond.code yX1_areApart cX1_areApart 4 (some .boolean) :: w0
section Z_X1_areApart
variable {p : Program} {l : Launch} {e : Env} {s : State} {m : MethodId} {args : Array Value} {below : List Frame} {meth : Method} {c : Code} {D : va_G} {A : Nat → Prop}
set_option maxHeartbeats 4000000 in
set_option maxRecDepth 100000 in
theorem s_X1_areApart_24 {K : tK} (C : tc_B p l s m args meth c D K A wz_X1_areApart RX1 cX1_areApart 4) (hr : meth.sig.returnType = (some .boolean)) (ht : ∀ x ∈ c.exceptionTable.toList, False) (hll : l.stackTraces = false)  (post : Int32 → tG → Prop) (postX : String → tG → Prop) : ∀ (u0 : Int32) (G : tG) (H : Heap) (locs : List Loc) (ls : Array Slot), tg_W D A s H G → va_S A s.heap H locs → tl ls 4 [] → w_X1_areApart_24 K post postX u0 G → W p l e ({ frames := 7, cells := 2, slots := 12, locals := 104 } : Room) s m args below meth c H locs 2 12 (vx_MQ below (tc_Qc D A (retI post)) (tc_XC D A postX) args s 2 12 A) (F0 m 24 ls [.int u0]) := by
  intro u0 G H locs ls hW hS hl hw
  unfold w_X1_areApart_24 at hw
  exact vx_ret (tr_zret C hr dX1_areApart_24 (Nat.le_of_ble_eq_true rfl) (Nat.le_of_ble_eq_true rfl) hW hS hw)
set_option maxHeartbeats 4000000 in
set_option maxRecDepth 100000 in
theorem s_X1_areApart {K : tK} (C : tc_B p l s m args meth c D K A wz_X1_areApart RX1 cX1_areApart 4) (hr : meth.sig.returnType = (some .boolean)) (ht : ∀ x ∈ c.exceptionTable.toList, False) (hll : l.stackTraces = false)  (post : Int32 → tG → Prop) (postX : String → tG → Prop) (v0 : Option Nat) (v1 : Int32) (v2 : Int32) : ∀ (G : tG) (H : Heap) (locs : List Loc) (ls : Array Slot), tg_W D A s H G → va_S A s.heap H locs → tl ls 4 [(0, .inr (.inr v0)), (1, .inl v1), (2, .inl v2)] → w_X1_areApart K post postX v0 v1 v2 G → W p l e ({ frames := 7, cells := 2, slots := 12, locals := 104 } : Room) s m args below meth c H locs 0 0 (vx_MQ below (tc_Qc D A (retI post)) (tc_XC D A postX) args s 2 12 A) (F0 m 0 ls []) := by
  intro G H locs ls hW hS hl hw
  unfold w_X1_areApart at hw
  refine tr_aload_n (k := 0) (x := v0) C hl 0 rfl dX1_areApart_0 ?_
  refine tr_iload_n (k := 1) (x := v1) C hl 1 rfl dX1_areApart_1 ?_
  refine tx_backR (tx_runV (r := v0) (As := [.int v1]) C hl.1 (c_X1_listAt l hll K _ _ v0 v1) (cwV 1 C.1.2.2.2.2 (gi_V (zm kw_94) (zm kw_95) (zm kw_96) (zm kw_33) (zm kw_93)) rfl rfl rfl (by decide +kernel) ⟨(Nat.le_of_ble_eq_true rfl), (Nat.le_of_ble_eq_true rfl)⟩) rfl rfl dX1_areApart_2 ⟨(Nat.le_of_ble_eq_true rfl), (Nat.le_of_ble_eq_true rfl)⟩ [] rfl (Nat.le_of_ble_eq_true rfl) rfl hW hS hw) hS C.2.1 ht (Nat.le_of_ble_eq_true rfl) (Nat.le_of_ble_eq_true rfl) (fun x_2 G_2 H locs hw hW hS => ?_)
  refine tr_astore_n (k := 3) (x := x_2) C hl [(3, .inr (.inr x_2)), (0, .inr (.inr v0)), (1, .inl v1), (2, .inl v2)] (by decide) rfl dX1_areApart_5 (fun ls hl => ?_)
  refine tr_aload_n (k := 3) (x := x_2) C hl 0 rfl dX1_areApart_6 ?_
  refine tr_aload_n (k := 0) (x := v0) C hl 1 rfl dX1_areApart_7 ?_
  refine tr_iload_n (k := 2) (x := v2) C hl 3 rfl dX1_areApart_8 ?_
  refine tx_backR (tx_runV (r := v0) (As := [.int v2]) C hl.1 (c_X1_listAt l hll K _ _ v0 v2) (cwV 1 C.1.2.2.2.2 (gi_V (zm kw_94) (zm kw_95) (zm kw_96) (zm kw_33) (zm kw_93)) rfl rfl rfl (by decide +kernel) ⟨(Nat.le_of_ble_eq_true rfl), (Nat.le_of_ble_eq_true rfl)⟩) rfl rfl dX1_areApart_9 ⟨(Nat.le_of_ble_eq_true rfl), (Nat.le_of_ble_eq_true rfl)⟩ [.inr (.inr x_2)] rfl (Nat.le_of_ble_eq_true rfl) rfl hW hS hw) hS C.2.1 ht (Nat.le_of_ble_eq_true rfl) (Nat.le_of_ble_eq_true rfl) (fun x_9 G_9 H locs hw hW hS => ?_)
  refine lv_iconst (v := (1 : Int32)) C.1.1 C.1.2.1 dX1_areApart_12 (by decide) ?_
  refine tr_backI (tr_runS (As := [va_rf x_2, va_rf x_9, .int ((1 : Int32))]) C hl.1 (c_X1_hasOneThatStands l hll K _ x_2 x_9 ((1 : Int32))) (va_cwS 3 C.1.2.2.2.2 (gi_S (zm kw_247) (zm kw_248) (zm kw_33) (zm kw_246)) rfl rfl rfl (by decide +kernel) ⟨(Nat.le_of_ble_eq_true rfl), (Nat.le_of_ble_eq_true rfl)⟩) rfl dX1_areApart_13 ⟨(Nat.le_of_ble_eq_true rfl), (Nat.le_of_ble_eq_true rfl)⟩ [] rfl (Nat.le_of_ble_eq_true rfl) rfl hW hS hw) hS (fun x_13 G_13 H locs hw hW hS => ?_)
  refine lv_if_ne (tgt := 23) C.1.1 C.1.2.1 dX1_areApart_16 (by decide) (fun hc => ?_) (fun hc => ?_)
  · have hw := hw.1 hc
    refine lv_iconst (v := (0 : Int32)) C.1.1 C.1.2.1 dX1_areApart_23 (by decide) ?_
    exact s_X1_areApart_24 C hr ht hll post postX ((0 : Int32)) _ _ _ _ hW hS (tl_sub hl [] rfl) hw
  · have hw := hw.2 hc
    refine lv_iconst (v := (1 : Int32)) C.1.1 C.1.2.1 dX1_areApart_19 (by decide) ?_
    refine lv_goto (tgt := 24) C.1.1 C.1.2.1 dX1_areApart_20 (by decide) ?_
    exact s_X1_areApart_24 C hr ht hll post postX ((1 : Int32)) _ _ _ _ hW hS (tl_sub hl [] rfl) hw
end Z_X1_areApart
set_option maxHeartbeats 4000000 in
set_option maxRecDepth 100000 in
theorem c_X1_areApart (l : Launch) (hll : l.stackTraces = false) (K : tK) (post : Int32 → tG → Prop) (postX : String → tG → Prop) (v0 : Option Nat) (v1 : Int32) (v2 : Int32) : Cx l yX1_areApart wz_X1_areApart ({ frames := 7, cells := 2, slots := 12, locals := 104 } : Room) 2 12 [va_rf v0, .int v1, .int v2] K (retI post) postX (fun G => w_X1_areApart K post postX v0 v1 v2 G) := by
  refine tx_of (cc := cX1_areApart) (maxL := 4) (ret := (some .boolean)) (own := RX1) (by decide) rfl rfl hll [.inr (.inr v0), .inl v1, .inl v2] rfl (Nat.le_of_ble_eq_true rfl) ?_
  intro p e s m args below meth c D A G ls C hr hn ht hl hW hS hw
  exact s_X1_areApart C hr ht hll post postX v0 v1 v2 _ _ _ _ hW hS hl hw

/-! L_areApart -/
def wz_L_areApart : List Cond := Cond.codeWith yL_areApart cL_areApart 5 (some .int) [(0, 18, 21, 19)] :: w0
section Z_L_areApart
variable {p : Program} {l : Launch} {e : Env} {s : State} {m : MethodId} {args : Array Value} {below : List Frame} {meth : Method} {c : Code} {D : va_G} {A : Nat → Prop}
set_option maxHeartbeats 4000000 in
set_option maxRecDepth 100000 in
theorem s_L_areApart_15 {K : tK} (C : tc_B p l s m args meth c D K A wz_L_areApart RL cL_areApart 5) (hr : meth.sig.returnType = (some .int)) (htab : c.exceptionTable.toList = tableOf [(0, 18, 21, 19)]) (hcC : kx_C s) (hll : l.stackTraces = false)  (post : Int32 → tG → Prop) : ∀ (u0 : Option Nat) (u1 : Int64) (G : tG) (H : Heap) (locs : List Loc) (ls : Array Slot), tg_W D A s H G → va_S A s.heap H locs → tl ls 5 [] → w_L_areApart_15 K post u0 u1 G → W p l e ({ frames := 8, cells := 2, slots := 12, locals := 127 } : Room) s m args below meth c H locs 2 12 (vx_MQ below (tc_Qc D A (retI post)) (tc_XC D A (fun _ _ => False)) args s 2 12 A) (F0 m 15 ls [.long u1, va_rf u0]) := by
  intro u0 u1 G H locs ls hW hS hl hw
  unfold w_L_areApart_15 at hw
  refine tr_pfN (C0 := RX2) (T := TX2) (N := 2) (ci := 4) (ref := "TwinrowLaw$Out") (host := "TwinrowLaw") (k := 0) (ty := .long) (v := .long u1) (r := u0) C (zh hw_X2) tyX2 tyX2_ok nmX2 rfl (by decide) hcC.1 rfl rfl (by decide +kernel) rfl rfl dL_areApart_15 hW hS hw (fun G_15 H locs hw hW hS => ?_)
  refine lv_goto (tgt := 25) C.1.1 C.1.2.1 dL_areApart_18 (by decide) ?_
  refine lv_iconst (v := (0 : Int32)) C.1.1 C.1.2.1 dL_areApart_25 (by decide) ?_
  exact vx_ret (tr_iret C hr dL_areApart_26 (Nat.le_of_ble_eq_true rfl) (Nat.le_of_ble_eq_true rfl) hW hS hw)
set_option maxHeartbeats 4000000 in
set_option maxRecDepth 100000 in
theorem s_L_areApart {K : tK} (C : tc_B p l s m args meth c D K A wz_L_areApart RL cL_areApart 5) (hr : meth.sig.returnType = (some .int)) (htab : c.exceptionTable.toList = tableOf [(0, 18, 21, 19)]) (hcC : kx_C s) (hll : l.stackTraces = false)  (post : Int32 → tG → Prop) (v0 : Option Nat) (v1 : Int32) (v2 : Int32) (v3 : Option Nat) : ∀ (G : tG) (H : Heap) (locs : List Loc) (ls : Array Slot), tg_W D A s H G → va_S A s.heap H locs → tl ls 5 [(0, .inr (.inr v0)), (1, .inl v1), (2, .inl v2), (3, .inr (.inr v3))] → w_L_areApart K post v0 v1 v2 v3 G → W p l e ({ frames := 8, cells := 2, slots := 12, locals := 127 } : Room) s m args below meth c H locs 0 0 (vx_MQ below (tc_Qc D A (retI post)) (tc_XC D A (fun _ _ => False)) args s 2 12 A) (F0 m 0 ls []) := by
  intro G H locs ls hW hS hl hw
  unfold w_L_areApart at hw
  refine tr_aload_n (k := 3) (x := v3) C hl 3 rfl dL_areApart_0 ?_
  refine tr_aload_n (k := 0) (x := v0) C hl 0 rfl dL_areApart_1 ?_
  refine tr_iload_n (k := 1) (x := v1) C hl 1 rfl dL_areApart_2 ?_
  refine tr_iload_n (k := 2) (x := v2) C hl 2 rfl dL_areApart_3 ?_
  refine tx_backCI (tx_runV (r := v0) (As := [.int v1, .int v2]) C hl.1 (c_X1_areApart l hll K _ _ v0 v1 v2) (cwV 2 C.1.2.2.2.2 (gi_V (zm kw_588) (zm kw_589) (zm kw_590) (zm kw_33) (zm kw_587)) rfl rfl rfl (by decide +kernel) ⟨(Nat.le_of_ble_eq_true rfl), (Nat.le_of_ble_eq_true rfl)⟩) rfl rfl dL_areApart_4 ⟨(Nat.le_of_ble_eq_true rfl), (Nat.le_of_ble_eq_true rfl)⟩ [.inr (.inr v3)] rfl (Nat.le_of_ble_eq_true rfl) rfl hW hS hw) hS (fun E ce q9 GX H locs hw hW hS hce hcv hcl => ?_) (fun x_4 G_4 H locs hw hW hS => ?_)
  · by_cases hq0 : E = "java/lang/IndexOutOfBoundsException"
    · replace hw := hw.1 hq0
      subst hq0
      refine vx_catch (name := "java/lang/IndexOutOfBoundsException") C.1.2.2.2.1 [] (⟨0, 18, 21, 19⟩ : ExceptionTableEntry) [] (by rw [htab]; rfl) (fun z hz => nomatch hz) (by decide) (by decide) (C.1.2.2.2.2 _ (zm kw_209)) hcC.2.2.1 hce hcv hcl ?_
      refine tr_astore (x := (some q9)) C hl [(4, .inr (.inr (some q9))), (0, .inr (.inr v0)), (1, .inl v1), (2, .inl v2), (3, .inr (.inr v3))] (by decide) rfl dL_areApart_21 (fun ls hl => ?_)
      refine lv_iconst (v := (1 : Int32)) C.1.1 C.1.2.1 dL_areApart_23 (by decide) ?_
      exact vx_ret (tr_iret C hr dL_areApart_24 (Nat.le_of_ble_eq_true rfl) (Nat.le_of_ble_eq_true rfl) hW hS hw)
    replace hw := hw.2 hq0
    exact hw.elim
  · refine lv_if_eq (tgt := 14) C.1.1 C.1.2.1 dL_areApart_7 (by decide) (fun hc => ?_) (fun hc => ?_)
    · have hw := hw.1 hc
      refine lv_lconst (v := (0 : Int64)) C.1.1 C.1.2.1 dL_areApart_14 (by decide) ?_
      exact s_L_areApart_15 C hr htab hcC hll post v3 ((0 : Int64)) _ _ _ _ hW hS (tl_sub hl [] rfl) hw
    · have hw := hw.2 hc
      refine lv_lconst (v := (1 : Int64)) C.1.1 C.1.2.1 dL_areApart_10 (by decide) ?_
      refine lv_goto (tgt := 15) C.1.1 C.1.2.1 dL_areApart_11 (by decide) ?_
      exact s_L_areApart_15 C hr htab hcC hll post v3 ((1 : Int64)) _ _ _ _ hW hS (tl_sub hl [] rfl) hw
end Z_L_areApart
set_option maxHeartbeats 4000000 in
set_option maxRecDepth 100000 in
theorem c_L_areApart (l : Launch) (hll : l.stackTraces = false) (K : tK) (post : Int32 → tG → Prop) (v0 : Option Nat) (v1 : Int32) (v2 : Int32) (v3 : Option Nat) : Cx l yL_areApart wz_L_areApart ({ frames := 8, cells := 2, slots := 12, locals := 127 } : Room) 2 12 [va_rf v0, .int v1, .int v2, va_rf v3] K (retI post) (fun _ _ => False) (fun G => w_L_areApart K post v0 v1 v2 v3 G) := by
  refine tx_ofH (cc := cL_areApart) (maxL := 5) (ret := (some .int)) (own := RL) (hh := [(0, 18, 21, 19)]) (by decide) rfl rfl hll [.inr (.inr v0), .inl v1, .inl v2, .inr (.inr v3)] rfl (Nat.le_of_ble_eq_true rfl) ?_
  intro p e s m args below meth c D A G ls C hr htab hcC hl hW hS hw
  exact s_L_areApart C hr htab hcC hll post v0 v1 v2 v3 _ _ _ _ hW hS hl hw

/-! X3_areApart -/
def wz_X3_areApart : List Cond := Cond.code yX3_areApart cX3_areApart 3 (some .boolean) :: w0
section Z_X3_areApart
variable {p : Program} {l : Launch} {e : Env} {s : State} {m : MethodId} {args : Array Value} {below : List Frame} {meth : Method} {c : Code} {D : va_G} {A : Nat → Prop}
set_option maxHeartbeats 4000000 in
set_option maxRecDepth 100000 in
theorem s_X3_areApart_28 {K : tK} (C : tc_B p l s m args meth c D K A wz_X3_areApart RX3 cX3_areApart 3) (hr : meth.sig.returnType = (some .boolean)) (hll : l.stackTraces = false)  (post : Int32 → tG → Prop) : ∀ (u0 : Int32) (G : tG) (H : Heap) (locs : List Loc) (ls : Array Slot), tg_W D A s H G → va_S A s.heap H locs → tl ls 3 [] → w_X3_areApart_28 K post u0 G → W p l e ({ frames := 3, cells := 13, slots := 156, locals := 73 } : Room) s m args below meth c H locs 13 156 (MQ below (tc_Qc D A (retI post)) args s 13 156 A) (F0 m 28 ls [.int u0]) := by
  intro u0 G H locs ls hW hS hl hw
  unfold w_X3_areApart_28 at hw
  exact tr_zret C hr dX3_areApart_28 (Nat.le_of_ble_eq_true rfl) (Nat.le_of_ble_eq_true rfl) hW hS hw
set_option maxHeartbeats 4000000 in
set_option maxRecDepth 100000 in
theorem s_X3_areApart_27 {K : tK} (C : tc_B p l s m args meth c D K A wz_X3_areApart RX3 cX3_areApart 3) (hr : meth.sig.returnType = (some .boolean)) (hll : l.stackTraces = false)  (post : Int32 → tG → Prop) : ∀ (G : tG) (H : Heap) (locs : List Loc) (ls : Array Slot), tg_W D A s H G → va_S A s.heap H locs → tl ls 3 [] → w_X3_areApart_27 K post G → W p l e ({ frames := 3, cells := 13, slots := 156, locals := 73 } : Room) s m args below meth c H locs 13 156 (MQ below (tc_Qc D A (retI post)) args s 13 156 A) (F0 m 27 ls []) := by
  intro G H locs ls hW hS hl hw
  unfold w_X3_areApart_27 at hw
  refine lv_iconst (v := (0 : Int32)) C.1.1 C.1.2.1 dX3_areApart_27 (by decide) ?_
  exact s_X3_areApart_28 C hr hll post ((0 : Int32)) _ _ _ _ hW hS (tl_sub hl [] rfl) hw
set_option maxHeartbeats 4000000 in
set_option maxRecDepth 100000 in
theorem s_X3_areApart {K : tK} (C : tc_B p l s m args meth c D K A wz_X3_areApart RX3 cX3_areApart 3) (hr : meth.sig.returnType = (some .boolean)) (hll : l.stackTraces = false)  (post : Int32 → tG → Prop) (v0 : Option Nat) (v1 : Int32) (v2 : Int32) : ∀ (G : tG) (H : Heap) (locs : List Loc) (ls : Array Slot), tg_W D A s H G → va_S A s.heap H locs → tl ls 3 [(0, .inr (.inr v0)), (1, .inl v1), (2, .inl v2)] → w_X3_areApart K post v0 v1 v2 G → W p l e ({ frames := 3, cells := 13, slots := 156, locals := 73 } : Room) s m args below meth c H locs 0 0 (MQ below (tc_Qc D A (retI post)) args s 13 156 A) (F0 m 0 ls []) := by
  intro G H locs ls hW hS hl hw
  unfold w_X3_areApart at hw
  refine tr_aload_n (k := 0) (x := v0) C hl 0 rfl dX3_areApart_0 ?_
  refine tr_aload_n (k := 0) (x := v0) C hl 0 rfl dX3_areApart_1 ?_
  refine tr_iload_n (k := 1) (x := v1) C hl 1 rfl dX3_areApart_2 ?_
  refine tr_iload_n (k := 2) (x := v2) C hl 2 rfl dX3_areApart_3 ?_
  refine tr_backI (tr_runV (r := v0) (As := [.int v1, .int v2]) C hl.1 (c_X3_isNoPair l hll K _ v0 v1 v2) (cwV 2 C.1.2.2.2.2 (gi_V (zm kw_257) (zm kw_258) (zm kw_259) (zm kw_155) (zm kw_256)) rfl rfl rfl (by decide +kernel) ⟨(Nat.le_of_ble_eq_true rfl), (Nat.le_of_ble_eq_true rfl)⟩) rfl rfl dX3_areApart_4 ⟨(Nat.le_of_ble_eq_true rfl), (Nat.le_of_ble_eq_true rfl)⟩ [.inr (.inr v0)] rfl (Nat.le_of_ble_eq_true rfl) rfl hW hS hw) hS (fun x_4 G_4 H locs hw hW hS => ?_)
  refine lv_iconst (v := (0 : Int32)) C.1.1 C.1.2.1 dX3_areApart_7 (by decide) ?_
  refine tr_backI (tr_runV (r := v0) (As := [.int x_4, .int ((0 : Int32))]) C hl.1 (c_X3_fails l hll K _ v0 x_4 ((0 : Int32))) (cwV 2 C.1.2.2.2.2 (gi_V (zm kw_190) (zm kw_191) (zm kw_192) (zm kw_155) (zm kw_189)) rfl rfl rfl (by decide +kernel) ⟨(Nat.le_of_ble_eq_true rfl), (Nat.le_of_ble_eq_true rfl)⟩) rfl rfl dX3_areApart_8 ⟨(Nat.le_of_ble_eq_true rfl), (Nat.le_of_ble_eq_true rfl)⟩ [] rfl (Nat.le_of_ble_eq_true rfl) rfl hW hS hw) hS (fun x_8 G_8 H locs hw hW hS => ?_)
  refine lv_if_ne (tgt := 27) C.1.1 C.1.2.1 dX3_areApart_11 (by decide) (fun hc => ?_) (fun hc => ?_)
  · have hw := hw.1 hc
    refine W.widen (k := 13) (n := 156) (Nat.le_of_ble_eq_true rfl) (Nat.le_of_ble_eq_true rfl) ?_
    exact s_X3_areApart_27 C hr hll post _ _ _ _ hW hS (tl_sub hl [] rfl) hw
  · have hw := hw.2 hc
    refine tr_aload_n (k := 0) (x := v0) C hl 0 rfl dX3_areApart_14 ?_
    refine tr_iload_n (k := 1) (x := v1) C hl 1 rfl dX3_areApart_15 ?_
    refine tr_iload_n (k := 2) (x := v2) C hl 2 rfl dX3_areApart_16 ?_
    refine tr_backI (tr_runV (r := v0) (As := [.int v1, .int v2]) C hl.1 (c_X3_shared l hll K _ v0 v1 v2) (cwV 2 C.1.2.2.2.2 (gi_V (zm kw_261) (zm kw_262) (zm kw_263) (zm kw_155) (zm kw_260)) rfl rfl rfl (by decide +kernel) ⟨(Nat.le_of_ble_eq_true rfl), (Nat.le_of_ble_eq_true rfl)⟩) rfl rfl dX3_areApart_17 ⟨(Nat.le_of_ble_eq_true rfl), (Nat.le_of_ble_eq_true rfl)⟩ [] rfl (Nat.le_of_ble_eq_true rfl) rfl hW hS hw) hS (fun x_17 G_17 H locs hw hW hS => ?_)
    refine lv_if_ne (tgt := 27) C.1.1 C.1.2.1 dX3_areApart_20 (by decide) (fun hc => ?_) (fun hc => ?_)
    · have hw := hw.1 hc
      exact s_X3_areApart_27 C hr hll post _ _ _ _ hW hS (tl_sub hl [] rfl) hw
    · have hw := hw.2 hc
      refine lv_iconst (v := (1 : Int32)) C.1.1 C.1.2.1 dX3_areApart_23 (by decide) ?_
      refine lv_goto (tgt := 28) C.1.1 C.1.2.1 dX3_areApart_24 (by decide) ?_
      exact s_X3_areApart_28 C hr hll post ((1 : Int32)) _ _ _ _ hW hS (tl_sub hl [] rfl) hw
end Z_X3_areApart
set_option maxHeartbeats 4000000 in
set_option maxRecDepth 100000 in
theorem c_X3_areApart (l : Launch) (hll : l.stackTraces = false) (K : tK) (post : Int32 → tG → Prop) (v0 : Option Nat) (v1 : Int32) (v2 : Int32) : Ct l yX3_areApart wz_X3_areApart ({ frames := 3, cells := 13, slots := 156, locals := 73 } : Room) 13 156 [va_rf v0, .int v1, .int v2] K (retI post) (fun G => w_X3_areApart K post v0 v1 v2 G) := by
  refine tc_of (cc := cX3_areApart) (maxL := 3) (ret := (some .boolean)) (own := RX3) (plainFor_of_name (by decide)) rfl rfl hll [.inr (.inr v0), .inl v1, .inl v2] rfl (Nat.le_of_ble_eq_true rfl) ?_
  intro p e s m args below meth c D A G ls C hr hn ht hl hW hS hw
  exact s_X3_areApart C hr hll post v0 v1 v2 _ _ _ _ hW hS hl hw

/-! X1_hasAll -/
def wz_X1_hasAll : List Cond := Cond.code yX1_hasAll cX1_hasAll 4 (some .boolean) :: w0
section Z_X1_hasAll
variable {p : Program} {l : Launch} {e : Env} {s : State} {m : MethodId} {args : Array Value} {below : List Frame} {meth : Method} {c : Code} {D : va_G} {A : Nat → Prop}
set_option maxHeartbeats 4000000 in
set_option maxRecDepth 100000 in
theorem s_X1_hasAll_24 {K : tK} (C : tc_B p l s m args meth c D K A wz_X1_hasAll RX1 cX1_hasAll 4) (hr : meth.sig.returnType = (some .boolean)) (ht : ∀ x ∈ c.exceptionTable.toList, False) (hll : l.stackTraces = false)  (post : Int32 → tG → Prop) (postX : String → tG → Prop) : ∀ (u0 : Int32) (G : tG) (H : Heap) (locs : List Loc) (ls : Array Slot), tg_W D A s H G → va_S A s.heap H locs → tl ls 4 [] → w_X1_hasAll_24 K post postX u0 G → W p l e ({ frames := 7, cells := 2, slots := 12, locals := 104 } : Room) s m args below meth c H locs 2 12 (vx_MQ below (tc_Qc D A (retI post)) (tc_XC D A postX) args s 2 12 A) (F0 m 24 ls [.int u0]) := by
  intro u0 G H locs ls hW hS hl hw
  unfold w_X1_hasAll_24 at hw
  exact vx_ret (tr_zret C hr dX1_hasAll_24 (Nat.le_of_ble_eq_true rfl) (Nat.le_of_ble_eq_true rfl) hW hS hw)
set_option maxHeartbeats 4000000 in
set_option maxRecDepth 100000 in
theorem s_X1_hasAll {K : tK} (C : tc_B p l s m args meth c D K A wz_X1_hasAll RX1 cX1_hasAll 4) (hr : meth.sig.returnType = (some .boolean)) (ht : ∀ x ∈ c.exceptionTable.toList, False) (hll : l.stackTraces = false)  (post : Int32 → tG → Prop) (postX : String → tG → Prop) (v0 : Option Nat) (v1 : Int32) (v2 : Int32) : ∀ (G : tG) (H : Heap) (locs : List Loc) (ls : Array Slot), tg_W D A s H G → va_S A s.heap H locs → tl ls 4 [(0, .inr (.inr v0)), (1, .inl v1), (2, .inl v2)] → w_X1_hasAll K post postX v0 v1 v2 G → W p l e ({ frames := 7, cells := 2, slots := 12, locals := 104 } : Room) s m args below meth c H locs 0 0 (vx_MQ below (tc_Qc D A (retI post)) (tc_XC D A postX) args s 2 12 A) (F0 m 0 ls []) := by
  intro G H locs ls hW hS hl hw
  unfold w_X1_hasAll at hw
  refine tr_aload_n (k := 0) (x := v0) C hl 0 rfl dX1_hasAll_0 ?_
  refine tr_iload_n (k := 1) (x := v1) C hl 1 rfl dX1_hasAll_1 ?_
  refine tx_backR (tx_runV (r := v0) (As := [.int v1]) C hl.1 (c_X1_listAt l hll K _ _ v0 v1) (cwV 1 C.1.2.2.2.2 (gi_V (zm kw_94) (zm kw_95) (zm kw_96) (zm kw_33) (zm kw_93)) rfl rfl rfl (by decide +kernel) ⟨(Nat.le_of_ble_eq_true rfl), (Nat.le_of_ble_eq_true rfl)⟩) rfl rfl dX1_hasAll_2 ⟨(Nat.le_of_ble_eq_true rfl), (Nat.le_of_ble_eq_true rfl)⟩ [] rfl (Nat.le_of_ble_eq_true rfl) rfl hW hS hw) hS C.2.1 ht (Nat.le_of_ble_eq_true rfl) (Nat.le_of_ble_eq_true rfl) (fun x_2 G_2 H locs hw hW hS => ?_)
  refine tr_astore_n (k := 3) (x := x_2) C hl [(3, .inr (.inr x_2)), (0, .inr (.inr v0)), (1, .inl v1), (2, .inl v2)] (by decide) rfl dX1_hasAll_5 (fun ls hl => ?_)
  refine tr_aload_n (k := 0) (x := v0) C hl 1 rfl dX1_hasAll_6 ?_
  refine tr_iload_n (k := 2) (x := v2) C hl 3 rfl dX1_hasAll_7 ?_
  refine tx_backR (tx_runV (r := v0) (As := [.int v2]) C hl.1 (c_X1_listAt l hll K _ _ v0 v2) (cwV 1 C.1.2.2.2.2 (gi_V (zm kw_94) (zm kw_95) (zm kw_96) (zm kw_33) (zm kw_93)) rfl rfl rfl (by decide +kernel) ⟨(Nat.le_of_ble_eq_true rfl), (Nat.le_of_ble_eq_true rfl)⟩) rfl rfl dX1_hasAll_8 ⟨(Nat.le_of_ble_eq_true rfl), (Nat.le_of_ble_eq_true rfl)⟩ [] rfl (Nat.le_of_ble_eq_true rfl) rfl hW hS hw) hS C.2.1 ht (Nat.le_of_ble_eq_true rfl) (Nat.le_of_ble_eq_true rfl) (fun x_8 G_8 H locs hw hW hS => ?_)
  refine tr_aload_n (k := 3) (x := x_2) C hl 0 rfl dX1_hasAll_11 ?_
  refine lv_iconst (v := (0 : Int32)) C.1.1 C.1.2.1 dX1_hasAll_12 (by decide) ?_
  refine tr_backI (tr_runS (As := [va_rf x_8, va_rf x_2, .int ((0 : Int32))]) C hl.1 (c_X1_hasOneThatStands l hll K _ x_8 x_2 ((0 : Int32))) (va_cwS 3 C.1.2.2.2.2 (gi_S (zm kw_247) (zm kw_248) (zm kw_33) (zm kw_246)) rfl rfl rfl (by decide +kernel) ⟨(Nat.le_of_ble_eq_true rfl), (Nat.le_of_ble_eq_true rfl)⟩) rfl dX1_hasAll_13 ⟨(Nat.le_of_ble_eq_true rfl), (Nat.le_of_ble_eq_true rfl)⟩ [] rfl (Nat.le_of_ble_eq_true rfl) rfl hW hS hw) hS (fun x_13 G_13 H locs hw hW hS => ?_)
  refine lv_if_ne (tgt := 23) C.1.1 C.1.2.1 dX1_hasAll_16 (by decide) (fun hc => ?_) (fun hc => ?_)
  · have hw := hw.1 hc
    refine lv_iconst (v := (0 : Int32)) C.1.1 C.1.2.1 dX1_hasAll_23 (by decide) ?_
    exact s_X1_hasAll_24 C hr ht hll post postX ((0 : Int32)) _ _ _ _ hW hS (tl_sub hl [] rfl) hw
  · have hw := hw.2 hc
    refine lv_iconst (v := (1 : Int32)) C.1.1 C.1.2.1 dX1_hasAll_19 (by decide) ?_
    refine lv_goto (tgt := 24) C.1.1 C.1.2.1 dX1_hasAll_20 (by decide) ?_
    exact s_X1_hasAll_24 C hr ht hll post postX ((1 : Int32)) _ _ _ _ hW hS (tl_sub hl [] rfl) hw
end Z_X1_hasAll
set_option maxHeartbeats 4000000 in
set_option maxRecDepth 100000 in
theorem c_X1_hasAll (l : Launch) (hll : l.stackTraces = false) (K : tK) (post : Int32 → tG → Prop) (postX : String → tG → Prop) (v0 : Option Nat) (v1 : Int32) (v2 : Int32) : Cx l yX1_hasAll wz_X1_hasAll ({ frames := 7, cells := 2, slots := 12, locals := 104 } : Room) 2 12 [va_rf v0, .int v1, .int v2] K (retI post) postX (fun G => w_X1_hasAll K post postX v0 v1 v2 G) := by
  refine tx_of (cc := cX1_hasAll) (maxL := 4) (ret := (some .boolean)) (own := RX1) (by decide) rfl rfl hll [.inr (.inr v0), .inl v1, .inl v2] rfl (Nat.le_of_ble_eq_true rfl) ?_
  intro p e s m args below meth c D A G ls C hr hn ht hl hW hS hw
  exact s_X1_hasAll C hr ht hll post postX v0 v1 v2 _ _ _ _ hW hS hl hw

/-! L_hasAll -/
def wz_L_hasAll : List Cond := Cond.codeWith yL_hasAll cL_hasAll 5 (some .int) [(0, 18, 21, 19)] :: w0
section Z_L_hasAll
variable {p : Program} {l : Launch} {e : Env} {s : State} {m : MethodId} {args : Array Value} {below : List Frame} {meth : Method} {c : Code} {D : va_G} {A : Nat → Prop}
set_option maxHeartbeats 4000000 in
set_option maxRecDepth 100000 in
theorem s_L_hasAll_15 {K : tK} (C : tc_B p l s m args meth c D K A wz_L_hasAll RL cL_hasAll 5) (hr : meth.sig.returnType = (some .int)) (htab : c.exceptionTable.toList = tableOf [(0, 18, 21, 19)]) (hcC : kx_C s) (hll : l.stackTraces = false)  (post : Int32 → tG → Prop) : ∀ (u0 : Option Nat) (u1 : Int64) (G : tG) (H : Heap) (locs : List Loc) (ls : Array Slot), tg_W D A s H G → va_S A s.heap H locs → tl ls 5 [] → w_L_hasAll_15 K post u0 u1 G → W p l e ({ frames := 8, cells := 2, slots := 12, locals := 127 } : Room) s m args below meth c H locs 2 12 (vx_MQ below (tc_Qc D A (retI post)) (tc_XC D A (fun _ _ => False)) args s 2 12 A) (F0 m 15 ls [.long u1, va_rf u0]) := by
  intro u0 u1 G H locs ls hW hS hl hw
  unfold w_L_hasAll_15 at hw
  refine tr_pfN (C0 := RX2) (T := TX2) (N := 2) (ci := 4) (ref := "TwinrowLaw$Out") (host := "TwinrowLaw") (k := 0) (ty := .long) (v := .long u1) (r := u0) C (zh hw_X2) tyX2 tyX2_ok nmX2 rfl (by decide) hcC.1 rfl rfl (by decide +kernel) rfl rfl dL_hasAll_15 hW hS hw (fun G_15 H locs hw hW hS => ?_)
  refine lv_goto (tgt := 25) C.1.1 C.1.2.1 dL_hasAll_18 (by decide) ?_
  refine lv_iconst (v := (0 : Int32)) C.1.1 C.1.2.1 dL_hasAll_25 (by decide) ?_
  exact vx_ret (tr_iret C hr dL_hasAll_26 (Nat.le_of_ble_eq_true rfl) (Nat.le_of_ble_eq_true rfl) hW hS hw)
set_option maxHeartbeats 4000000 in
set_option maxRecDepth 100000 in
theorem s_L_hasAll {K : tK} (C : tc_B p l s m args meth c D K A wz_L_hasAll RL cL_hasAll 5) (hr : meth.sig.returnType = (some .int)) (htab : c.exceptionTable.toList = tableOf [(0, 18, 21, 19)]) (hcC : kx_C s) (hll : l.stackTraces = false)  (post : Int32 → tG → Prop) (v0 : Option Nat) (v1 : Int32) (v2 : Int32) (v3 : Option Nat) : ∀ (G : tG) (H : Heap) (locs : List Loc) (ls : Array Slot), tg_W D A s H G → va_S A s.heap H locs → tl ls 5 [(0, .inr (.inr v0)), (1, .inl v1), (2, .inl v2), (3, .inr (.inr v3))] → w_L_hasAll K post v0 v1 v2 v3 G → W p l e ({ frames := 8, cells := 2, slots := 12, locals := 127 } : Room) s m args below meth c H locs 0 0 (vx_MQ below (tc_Qc D A (retI post)) (tc_XC D A (fun _ _ => False)) args s 2 12 A) (F0 m 0 ls []) := by
  intro G H locs ls hW hS hl hw
  unfold w_L_hasAll at hw
  refine tr_aload_n (k := 3) (x := v3) C hl 3 rfl dL_hasAll_0 ?_
  refine tr_aload_n (k := 0) (x := v0) C hl 0 rfl dL_hasAll_1 ?_
  refine tr_iload_n (k := 1) (x := v1) C hl 1 rfl dL_hasAll_2 ?_
  refine tr_iload_n (k := 2) (x := v2) C hl 2 rfl dL_hasAll_3 ?_
  refine tx_backCI (tx_runV (r := v0) (As := [.int v1, .int v2]) C hl.1 (c_X1_hasAll l hll K _ _ v0 v1 v2) (cwV 2 C.1.2.2.2.2 (gi_V (zm kw_592) (zm kw_593) (zm kw_594) (zm kw_33) (zm kw_591)) rfl rfl rfl (by decide +kernel) ⟨(Nat.le_of_ble_eq_true rfl), (Nat.le_of_ble_eq_true rfl)⟩) rfl rfl dL_hasAll_4 ⟨(Nat.le_of_ble_eq_true rfl), (Nat.le_of_ble_eq_true rfl)⟩ [.inr (.inr v3)] rfl (Nat.le_of_ble_eq_true rfl) rfl hW hS hw) hS (fun E ce q9 GX H locs hw hW hS hce hcv hcl => ?_) (fun x_4 G_4 H locs hw hW hS => ?_)
  · by_cases hq0 : E = "java/lang/IndexOutOfBoundsException"
    · replace hw := hw.1 hq0
      subst hq0
      refine vx_catch (name := "java/lang/IndexOutOfBoundsException") C.1.2.2.2.1 [] (⟨0, 18, 21, 19⟩ : ExceptionTableEntry) [] (by rw [htab]; rfl) (fun z hz => nomatch hz) (by decide) (by decide) (C.1.2.2.2.2 _ (zm kw_209)) hcC.2.2.1 hce hcv hcl ?_
      refine tr_astore (x := (some q9)) C hl [(4, .inr (.inr (some q9))), (0, .inr (.inr v0)), (1, .inl v1), (2, .inl v2), (3, .inr (.inr v3))] (by decide) rfl dL_hasAll_21 (fun ls hl => ?_)
      refine lv_iconst (v := (1 : Int32)) C.1.1 C.1.2.1 dL_hasAll_23 (by decide) ?_
      exact vx_ret (tr_iret C hr dL_hasAll_24 (Nat.le_of_ble_eq_true rfl) (Nat.le_of_ble_eq_true rfl) hW hS hw)
    replace hw := hw.2 hq0
    exact hw.elim
  · refine lv_if_eq (tgt := 14) C.1.1 C.1.2.1 dL_hasAll_7 (by decide) (fun hc => ?_) (fun hc => ?_)
    · have hw := hw.1 hc
      refine lv_lconst (v := (0 : Int64)) C.1.1 C.1.2.1 dL_hasAll_14 (by decide) ?_
      exact s_L_hasAll_15 C hr htab hcC hll post v3 ((0 : Int64)) _ _ _ _ hW hS (tl_sub hl [] rfl) hw
    · have hw := hw.2 hc
      refine lv_lconst (v := (1 : Int64)) C.1.1 C.1.2.1 dL_hasAll_10 (by decide) ?_
      refine lv_goto (tgt := 15) C.1.1 C.1.2.1 dL_hasAll_11 (by decide) ?_
      exact s_L_hasAll_15 C hr htab hcC hll post v3 ((1 : Int64)) _ _ _ _ hW hS (tl_sub hl [] rfl) hw
end Z_L_hasAll
set_option maxHeartbeats 4000000 in
set_option maxRecDepth 100000 in
theorem c_L_hasAll (l : Launch) (hll : l.stackTraces = false) (K : tK) (post : Int32 → tG → Prop) (v0 : Option Nat) (v1 : Int32) (v2 : Int32) (v3 : Option Nat) : Cx l yL_hasAll wz_L_hasAll ({ frames := 8, cells := 2, slots := 12, locals := 127 } : Room) 2 12 [va_rf v0, .int v1, .int v2, va_rf v3] K (retI post) (fun _ _ => False) (fun G => w_L_hasAll K post v0 v1 v2 v3 G) := by
  refine tx_ofH (cc := cL_hasAll) (maxL := 5) (ret := (some .int)) (own := RL) (hh := [(0, 18, 21, 19)]) (by decide) rfl rfl hll [.inr (.inr v0), .inl v1, .inl v2, .inr (.inr v3)] rfl (Nat.le_of_ble_eq_true rfl) ?_
  intro p e s m args below meth c D A G ls C hr htab hcC hl hW hS hw
  exact s_L_hasAll C hr htab hcC hll post v0 v1 v2 v3 _ _ _ _ hW hS hl hw

/-! X3_hasAll -/
def wz_X3_hasAll : List Cond := Cond.code yX3_hasAll cX3_hasAll 3 (some .boolean) :: w0
section Z_X3_hasAll
variable {p : Program} {l : Launch} {e : Env} {s : State} {m : MethodId} {args : Array Value} {below : List Frame} {meth : Method} {c : Code} {D : va_G} {A : Nat → Prop}
set_option maxHeartbeats 4000000 in
set_option maxRecDepth 100000 in
theorem s_X3_hasAll_34 {K : tK} (C : tc_B p l s m args meth c D K A wz_X3_hasAll RX3 cX3_hasAll 3) (hr : meth.sig.returnType = (some .boolean)) (hll : l.stackTraces = false)  (post : Int32 → tG → Prop) : ∀ (u0 : Int32) (G : tG) (H : Heap) (locs : List Loc) (ls : Array Slot), tg_W D A s H G → va_S A s.heap H locs → tl ls 3 [] → w_X3_hasAll_34 K post u0 G → W p l e ({ frames := 3, cells := 13, slots := 156, locals := 73 } : Room) s m args below meth c H locs 13 156 (MQ below (tc_Qc D A (retI post)) args s 13 156 A) (F0 m 34 ls [.int u0]) := by
  intro u0 G H locs ls hW hS hl hw
  unfold w_X3_hasAll_34 at hw
  exact tr_zret C hr dX3_hasAll_34 (Nat.le_of_ble_eq_true rfl) (Nat.le_of_ble_eq_true rfl) hW hS hw
set_option maxHeartbeats 4000000 in
set_option maxRecDepth 100000 in
theorem s_X3_hasAll_33 {K : tK} (C : tc_B p l s m args meth c D K A wz_X3_hasAll RX3 cX3_hasAll 3) (hr : meth.sig.returnType = (some .boolean)) (hll : l.stackTraces = false)  (post : Int32 → tG → Prop) : ∀ (G : tG) (H : Heap) (locs : List Loc) (ls : Array Slot), tg_W D A s H G → va_S A s.heap H locs → tl ls 3 [] → w_X3_hasAll_33 K post G → W p l e ({ frames := 3, cells := 13, slots := 156, locals := 73 } : Room) s m args below meth c H locs 13 156 (MQ below (tc_Qc D A (retI post)) args s 13 156 A) (F0 m 33 ls []) := by
  intro G H locs ls hW hS hl hw
  unfold w_X3_hasAll_33 at hw
  refine lv_iconst (v := (0 : Int32)) C.1.1 C.1.2.1 dX3_hasAll_33 (by decide) ?_
  exact s_X3_hasAll_34 C hr hll post ((0 : Int32)) _ _ _ _ hW hS (tl_sub hl [] rfl) hw
set_option maxHeartbeats 4000000 in
set_option maxRecDepth 100000 in
theorem s_X3_hasAll {K : tK} (C : tc_B p l s m args meth c D K A wz_X3_hasAll RX3 cX3_hasAll 3) (hr : meth.sig.returnType = (some .boolean)) (hll : l.stackTraces = false)  (post : Int32 → tG → Prop) (v0 : Option Nat) (v1 : Int32) (v2 : Int32) : ∀ (G : tG) (H : Heap) (locs : List Loc) (ls : Array Slot), tg_W D A s H G → va_S A s.heap H locs → tl ls 3 [(0, .inr (.inr v0)), (1, .inl v1), (2, .inl v2)] → w_X3_hasAll K post v0 v1 v2 G → W p l e ({ frames := 3, cells := 13, slots := 156, locals := 73 } : Room) s m args below meth c H locs 0 0 (MQ below (tc_Qc D A (retI post)) args s 13 156 A) (F0 m 0 ls []) := by
  intro G H locs ls hW hS hl hw
  unfold w_X3_hasAll at hw
  refine tr_aload_n (k := 0) (x := v0) C hl 0 rfl dX3_hasAll_0 ?_
  refine tr_aload_n (k := 0) (x := v0) C hl 0 rfl dX3_hasAll_1 ?_
  refine tr_iload_n (k := 1) (x := v1) C hl 1 rfl dX3_hasAll_2 ?_
  refine tr_iload_n (k := 2) (x := v2) C hl 2 rfl dX3_hasAll_3 ?_
  refine tr_backI (tr_runV (r := v0) (As := [.int v1, .int v2]) C hl.1 (c_X3_isNoPair l hll K _ v0 v1 v2) (cwV 2 C.1.2.2.2.2 (gi_V (zm kw_257) (zm kw_258) (zm kw_259) (zm kw_155) (zm kw_256)) rfl rfl rfl (by decide +kernel) ⟨(Nat.le_of_ble_eq_true rfl), (Nat.le_of_ble_eq_true rfl)⟩) rfl rfl dX3_hasAll_4 ⟨(Nat.le_of_ble_eq_true rfl), (Nat.le_of_ble_eq_true rfl)⟩ [.inr (.inr v0)] rfl (Nat.le_of_ble_eq_true rfl) rfl hW hS hw) hS (fun x_4 G_4 H locs hw hW hS => ?_)
  refine lv_iconst (v := (0 : Int32)) C.1.1 C.1.2.1 dX3_hasAll_7 (by decide) ?_
  refine tr_backI (tr_runV (r := v0) (As := [.int x_4, .int ((0 : Int32))]) C hl.1 (c_X3_fails l hll K _ v0 x_4 ((0 : Int32))) (cwV 2 C.1.2.2.2.2 (gi_V (zm kw_190) (zm kw_191) (zm kw_192) (zm kw_155) (zm kw_189)) rfl rfl rfl (by decide +kernel) ⟨(Nat.le_of_ble_eq_true rfl), (Nat.le_of_ble_eq_true rfl)⟩) rfl rfl dX3_hasAll_8 ⟨(Nat.le_of_ble_eq_true rfl), (Nat.le_of_ble_eq_true rfl)⟩ [] rfl (Nat.le_of_ble_eq_true rfl) rfl hW hS hw) hS (fun x_8 G_8 H locs hw hW hS => ?_)
  refine lv_if_ne (tgt := 33) C.1.1 C.1.2.1 dX3_hasAll_11 (by decide) (fun hc => ?_) (fun hc => ?_)
  · have hw := hw.1 hc
    refine W.widen (k := 13) (n := 156) (Nat.le_of_ble_eq_true rfl) (Nat.le_of_ble_eq_true rfl) ?_
    exact s_X3_hasAll_33 C hr hll post _ _ _ _ hW hS (tl_sub hl [] rfl) hw
  · have hw := hw.2 hc
    refine tr_aload_n (k := 0) (x := v0) C hl 0 rfl dX3_hasAll_14 ?_
    refine tr_iload_n (k := 2) (x := v2) C hl 2 rfl dX3_hasAll_15 ?_
    refine tr_iload_n (k := 1) (x := v1) C hl 1 rfl dX3_hasAll_16 ?_
    refine tr_backI (tr_runV (r := v0) (As := [.int v2, .int v1]) C hl.1 (c_X3_shared l hll K _ v0 v2 v1) (cwV 2 C.1.2.2.2.2 (gi_V (zm kw_261) (zm kw_262) (zm kw_263) (zm kw_155) (zm kw_260)) rfl rfl rfl (by decide +kernel) ⟨(Nat.le_of_ble_eq_true rfl), (Nat.le_of_ble_eq_true rfl)⟩) rfl rfl dX3_hasAll_17 ⟨(Nat.le_of_ble_eq_true rfl), (Nat.le_of_ble_eq_true rfl)⟩ [] rfl (Nat.le_of_ble_eq_true rfl) rfl hW hS hw) hS (fun x_17 G_17 H locs hw hW hS => ?_)
    refine tr_aload_n (k := 0) (x := v0) C hl 0 rfl dX3_hasAll_20 ?_
    refine tr_gfR (C0 := RX3) (T := TX3) (N := 8) (ci := 5) (ref := "TwinrowModel") (k := 3) (r := v0) C (zh hw_X3) rfl (by decide) (zm kw_24) rfl dX3_hasAll_21 hW hw (fun x_21 hw => ?_)
    refine tr_iload_n (k := 2) (x := v2) C hl 2 rfl dX3_hasAll_24 ?_
    refine tr_alI (r := x_21) C dX3_hasAll_25 hW hw (fun x_25 hw => ?_)
    refine lv_icmp_ne (tgt := 33) C.1.1 C.1.2.1 dX3_hasAll_26 (by decide) (fun hc => ?_) (fun hc => ?_)
    · have hw := hw.1 hc
      exact s_X3_hasAll_33 C hr hll post _ _ _ _ hW hS (tl_sub hl [] rfl) hw
    · have hw := hw.2 hc
      refine lv_iconst (v := (1 : Int32)) C.1.1 C.1.2.1 dX3_hasAll_29 (by decide) ?_
      refine lv_goto (tgt := 34) C.1.1 C.1.2.1 dX3_hasAll_30 (by decide) ?_
      exact s_X3_hasAll_34 C hr hll post ((1 : Int32)) _ _ _ _ hW hS (tl_sub hl [] rfl) hw
end Z_X3_hasAll
set_option maxHeartbeats 4000000 in
set_option maxRecDepth 100000 in
theorem c_X3_hasAll (l : Launch) (hll : l.stackTraces = false) (K : tK) (post : Int32 → tG → Prop) (v0 : Option Nat) (v1 : Int32) (v2 : Int32) : Ct l yX3_hasAll wz_X3_hasAll ({ frames := 3, cells := 13, slots := 156, locals := 73 } : Room) 13 156 [va_rf v0, .int v1, .int v2] K (retI post) (fun G => w_X3_hasAll K post v0 v1 v2 G) := by
  refine tc_of (cc := cX3_hasAll) (maxL := 3) (ret := (some .boolean)) (own := RX3) (plainFor_of_name (by decide)) rfl rfl hll [.inr (.inr v0), .inl v1, .inl v2] rfl (Nat.le_of_ble_eq_true rfl) ?_
  intro p e s m args below meth c D A G ls C hr hn ht hl hW hS hw
  exact s_X3_hasAll C hr hll post v0 v1 v2 _ _ _ _ hW hS hl hw

/-! X1_often -/
def wz_X1_often : List Cond := Cond.code yX1_often cX1_often 6 (some .int) :: w0
section Z_X1_often
variable {p : Program} {l : Launch} {e : Env} {s : State} {m : MethodId} {args : Array Value} {below : List Frame} {meth : Method} {c : Code} {D : va_G} {A : Nat → Prop}
set_option maxHeartbeats 4000000 in
set_option maxRecDepth 100000 in
theorem s_X1_often_42 {K : tK} (C : tc_B p l s m args meth c D K A wz_X1_often RX1 cX1_often 6) (hr : meth.sig.returnType = (some .int)) (ht : ∀ x ∈ c.exceptionTable.toList, False) (hll : l.stackTraces = false)  (post : Int32 → tG → Prop) (postX : String → tG → Prop) (k16 : Int32 → Option Nat → Int32 → Int32 → tG → Prop) (hk16 : ∀ (v2 : Int32) (v3 : Option Nat) (v4 : Int32) (v5 : Int32) (G : tG) (H : Heap) (locs : List Loc) (ls : Array Slot), tg_W D A s H G → va_S A s.heap H locs → tl ls 6 [(2, .inl v2), (3, .inr (.inr v3)), (4, .inl v4), (5, .inl v5)] → k16 v2 v3 v4 v5 G → W p l e ({ frames := 8, cells := 2, slots := 12, locals := 124 } : Room) s m args below meth c H locs 2 12 (vx_MQ below (tc_Qc D A (retI post)) (tc_XC D A postX) args s 2 12 A) (F0 m 16 ls [])) : ∀ (v2 : Int32) (v3 : Option Nat) (v5 : Int32) (u0 : Int32) (u1 : Int32) (G : tG) (H : Heap) (locs : List Loc) (ls : Array Slot), tg_W D A s H G → va_S A s.heap H locs → tl ls 6 [(2, .inl v2), (3, .inr (.inr v3)), (5, .inl v5)] → w_X1_often_42 K post postX k16 v2 v3 v5 u0 u1 G → W p l e ({ frames := 8, cells := 2, slots := 12, locals := 124 } : Room) s m args below meth c H locs 2 12 (vx_MQ below (tc_Qc D A (retI post)) (tc_XC D A postX) args s 2 12 A) (F0 m 42 ls [.int u1, .int u0]) := by
  intro v2 v3 v5 u0 u1 G H locs ls hW hS hl hw
  unfold w_X1_often_42 at hw
  refine lv_iadd C.1.1 C.1.2.1 dX1_often_42 ?_
  refine tr_istore (x := (u0 + u1)) C hl [(4, .inl (u0 + u1)), (2, .inl v2), (3, .inr (.inr v3)), (5, .inl v5)] (by decide) rfl dX1_often_43 (fun ls hl => ?_)
  refine tr_iinc C hl 3 (v5 + (1 : Int32)) [(5, .inl (v5 + (1 : Int32))), (4, .inl (u0 + u1)), (2, .inl v2), (3, .inr (.inr v3))] rfl rfl (by decide) rfl dX1_often_45 (fun ls hl => ?_)
  refine lv_goto (tgt := 16) C.1.1 C.1.2.1 dX1_often_48 (by decide) ?_
  exact hk16 v2 v3 ((u0 + u1)) ((v5 + (1 : Int32))) _ _ _ _ hW hS (tl_sub hl [2, 3, 1, 0] rfl) hw
set_option maxHeartbeats 4000000 in
set_option maxRecDepth 100000 in
theorem s_X1_often_16_b {K : tK} (C : tc_B p l s m args meth c D K A wz_X1_often RX1 cX1_often 6) (hr : meth.sig.returnType = (some .int)) (ht : ∀ x ∈ c.exceptionTable.toList, False) (hll : l.stackTraces = false)  (post : Int32 → tG → Prop) (postX : String → tG → Prop) (k16 : Int32 → Option Nat → Int32 → Int32 → tG → Prop) (hk16 : ∀ (v2 : Int32) (v3 : Option Nat) (v4 : Int32) (v5 : Int32) (G : tG) (H : Heap) (locs : List Loc) (ls : Array Slot), tg_W D A s H G → va_S A s.heap H locs → tl ls 6 [(2, .inl v2), (3, .inr (.inr v3)), (4, .inl v4), (5, .inl v5)] → k16 v2 v3 v4 v5 G → W p l e ({ frames := 8, cells := 2, slots := 12, locals := 124 } : Room) s m args below meth c H locs 2 12 (vx_MQ below (tc_Qc D A (retI post)) (tc_XC D A postX) args s 2 12 A) (F0 m 16 ls [])) : ∀ (v2 : Int32) (v3 : Option Nat) (v4 : Int32) (v5 : Int32) (G : tG) (H : Heap) (locs : List Loc) (ls : Array Slot), tg_W D A s H G → va_S A s.heap H locs → tl ls 6 [(2, .inl v2), (3, .inr (.inr v3)), (4, .inl v4), (5, .inl v5)] → w_X1_often_16_b K post postX k16 v2 v3 v4 v5 G → W p l e ({ frames := 8, cells := 2, slots := 12, locals := 124 } : Room) s m args below meth c H locs 2 12 (vx_MQ below (tc_Qc D A (retI post)) (tc_XC D A postX) args s 2 12 A) (F0 m 16 ls []) := by
  intro v2 v3 v4 v5 G H locs ls hW hS hl hw
  unfold w_X1_often_16_b at hw
  refine tr_iload (x := v5) C hl 3 rfl dX1_often_16 ?_
  refine tr_aload_n (k := 3) (x := v3) C hl 1 rfl dX1_often_18 ?_
  refine tr_gfI (C0 := RX0) (T := TX0) (N := 4) (ci := 2) (ref := "Twinrow$RowList") (k := 3) (r := v3) C (zh hw_X0) rfl (by decide) (zm kw_34) rfl dX1_often_19 hW hw (fun x_19 hw => ?_)
  refine lv_icmp_ge (tgt := 51) C.1.1 C.1.2.1 dX1_often_22 (by decide) (fun hc => ?_) (fun hc => ?_)
  · have hw := hw.1 hc
    refine tr_iload (x := v4) C hl 2 rfl dX1_often_51 ?_
    exact vx_ret (tr_iret C hr dX1_often_53 (Nat.le_of_ble_eq_true rfl) (Nat.le_of_ble_eq_true rfl) hW hS hw)
  · have hw := hw.2 hc
    refine tr_iload (x := v4) C hl 2 rfl dX1_often_25 ?_
    refine tr_aload_n (k := 3) (x := v3) C hl 1 rfl dX1_often_27 ?_
    refine tr_iload (x := v5) C hl 3 rfl dX1_often_28 ?_
    refine tr_backI (tr_runV (r := v3) (As := [.int v5]) C hl.1 (c_X0_read l hll K _ v3 v5) (cwV 1 C.1.2.2.2.2 (gi_V (zm kw_27) (zm kw_28) (zm kw_29) (zm kw_10) (zm kw_26)) rfl rfl rfl (by decide +kernel) ⟨(Nat.le_of_ble_eq_true rfl), (Nat.le_of_ble_eq_true rfl)⟩) rfl rfl dX1_often_30 ⟨(Nat.le_of_ble_eq_true rfl), (Nat.le_of_ble_eq_true rfl)⟩ [.inl v4] rfl (Nat.le_of_ble_eq_true rfl) rfl hW hS hw) hS (fun x_30 G_30 H locs hw hW hS => ?_)
    refine tr_iload_n (k := 2) (x := v2) C hl 0 rfl dX1_often_33 ?_
    refine lv_icmp_ne (tgt := 41) C.1.1 C.1.2.1 dX1_often_34 (by decide) (fun hc => ?_) (fun hc => ?_)
    · have hw := hw.1 hc
      refine lv_iconst (v := (0 : Int32)) C.1.1 C.1.2.1 dX1_often_41 (by decide) ?_
      exact s_X1_often_42 C hr ht hll post postX k16 hk16 v2 v3 v5 v4 ((0 : Int32)) _ _ _ _ hW hS (tl_sub hl [0, 1, 3] rfl) hw
    · have hw := hw.2 hc
      refine lv_iconst (v := (1 : Int32)) C.1.1 C.1.2.1 dX1_often_37 (by decide) ?_
      refine lv_goto (tgt := 42) C.1.1 C.1.2.1 dX1_often_38 (by decide) ?_
      exact s_X1_often_42 C hr ht hll post postX k16 hk16 v2 v3 v5 v4 ((1 : Int32)) _ _ _ _ hW hS (tl_sub hl [0, 1, 3] rfl) hw
set_option maxHeartbeats 4000000 in
set_option maxRecDepth 100000 in
theorem s_X1_often_16 {K : tK} (C : tc_B p l s m args meth c D K A wz_X1_often RX1 cX1_often 6) (hr : meth.sig.returnType = (some .int)) (ht : ∀ x ∈ c.exceptionTable.toList, False) (hll : l.stackTraces = false)  (post : Int32 → tG → Prop) (postX : String → tG → Prop) : ∀ (n : Nat) (v2 : Int32) (v3 : Option Nat) (v4 : Int32) (v5 : Int32) (G : tG) (H : Heap) (locs : List Loc) (ls : Array Slot), tg_W D A s H G → va_S A s.heap H locs → tl ls 6 [(2, .inl v2), (3, .inr (.inr v3)), (4, .inl v4), (5, .inl v5)] → w_X1_often_16 K post postX n v2 v3 v4 v5 G → W p l e ({ frames := 8, cells := 2, slots := 12, locals := 124 } : Room) s m args below meth c H locs 2 12 (vx_MQ below (tc_Qc D A (retI post)) (tc_XC D A postX) args s 2 12 A) (F0 m 16 ls []) := by
  intro n
  induction n with
  | zero =>
    intro v2 v3 v4 v5 G H locs ls hW hS hl hw
    exact hw.elim
  | succ n ih => exact s_X1_often_16_b C hr ht hll post postX _ ih
set_option maxHeartbeats 4000000 in
set_option maxRecDepth 100000 in
theorem s_X1_often {K : tK} (C : tc_B p l s m args meth c D K A wz_X1_often RX1 cX1_often 6) (hr : meth.sig.returnType = (some .int)) (ht : ∀ x ∈ c.exceptionTable.toList, False) (hll : l.stackTraces = false)  (post : Int32 → tG → Prop) (postX : String → tG → Prop) (v0 : Option Nat) (v1 : Int32) (v2 : Int32) : ∀ (G : tG) (H : Heap) (locs : List Loc) (ls : Array Slot), tg_W D A s H G → va_S A s.heap H locs → tl ls 6 [(0, .inr (.inr v0)), (1, .inl v1), (2, .inl v2)] → w_X1_often K post postX v0 v1 v2 G → W p l e ({ frames := 8, cells := 2, slots := 12, locals := 124 } : Room) s m args below meth c H locs 0 0 (vx_MQ below (tc_Qc D A (retI post)) (tc_XC D A postX) args s 2 12 A) (F0 m 0 ls []) := by
  intro G H locs ls hW hS hl hw
  unfold w_X1_often at hw
  refine tr_aload_n (k := 0) (x := v0) C hl 0 rfl dX1_often_0 ?_
  refine tr_iload_n (k := 1) (x := v1) C hl 1 rfl dX1_often_1 ?_
  refine tx_backR (tx_runV (r := v0) (As := [.int v1]) C hl.1 (c_X1_listAt l hll K _ _ v0 v1) (cwV 1 C.1.2.2.2.2 (gi_V (zm kw_94) (zm kw_95) (zm kw_96) (zm kw_33) (zm kw_93)) rfl rfl rfl (by decide +kernel) ⟨(Nat.le_of_ble_eq_true rfl), (Nat.le_of_ble_eq_true rfl)⟩) rfl rfl dX1_often_2 ⟨(Nat.le_of_ble_eq_true rfl), (Nat.le_of_ble_eq_true rfl)⟩ [] rfl (Nat.le_of_ble_eq_true rfl) rfl hW hS hw) hS C.2.1 ht (Nat.le_of_ble_eq_true rfl) (Nat.le_of_ble_eq_true rfl) (fun x_2 G_2 H locs hw hW hS => ?_)
  refine tr_astore_n (k := 3) (x := x_2) C hl [(3, .inr (.inr x_2)), (0, .inr (.inr v0)), (1, .inl v1), (2, .inl v2)] (by decide) rfl dX1_often_5 (fun ls hl => ?_)
  refine tr_iload_n (k := 2) (x := v2) C hl 3 rfl dX1_often_6 ?_
  refine tx_backV (tx_runS (As := [.int v2]) C hl.1 (c_X1_checkValue l hll K _ _ v2) (va_cwS 1 C.1.2.2.2.2 (gi_S (zm kw_269) (zm kw_270) (zm kw_33) (zm kw_268)) rfl rfl rfl (by decide +kernel) ⟨(Nat.le_of_ble_eq_true rfl), (Nat.le_of_ble_eq_true rfl)⟩) rfl dX1_often_7 ⟨(Nat.le_of_ble_eq_true rfl), (Nat.le_of_ble_eq_true rfl)⟩ [] rfl (Nat.le_of_ble_eq_true rfl) rfl hW hS hw) hS C.2.1 ht (Nat.le_of_ble_eq_true rfl) (Nat.le_of_ble_eq_true rfl) (fun G_7 H locs hw hW hS => ?_)
  refine lv_iconst (v := (0 : Int32)) C.1.1 C.1.2.1 dX1_often_10 (by decide) ?_
  refine tr_istore (x := (0 : Int32)) C hl [(4, .inl (0 : Int32)), (3, .inr (.inr x_2)), (0, .inr (.inr v0)), (1, .inl v1), (2, .inl v2)] (by decide) rfl dX1_often_11 (fun ls hl => ?_)
  refine lv_iconst (v := (0 : Int32)) C.1.1 C.1.2.1 dX1_often_13 (by decide) ?_
  refine tr_istore (x := (0 : Int32)) C hl [(5, .inl (0 : Int32)), (4, .inl (0 : Int32)), (3, .inr (.inr x_2)), (0, .inr (.inr v0)), (1, .inl v1), (2, .inl v2)] (by decide) rfl dX1_often_14 (fun ls hl => ?_)
  obtain ⟨n16, hw⟩ := hw
  exact s_X1_often_16 C hr ht hll post postX n16 v2 x_2 ((0 : Int32)) ((0 : Int32)) _ _ _ _ hW hS (tl_sub hl [5, 2, 1, 0] rfl) hw
end Z_X1_often
set_option maxHeartbeats 4000000 in
set_option maxRecDepth 100000 in
theorem c_X1_often (l : Launch) (hll : l.stackTraces = false) (K : tK) (post : Int32 → tG → Prop) (postX : String → tG → Prop) (v0 : Option Nat) (v1 : Int32) (v2 : Int32) : Cx l yX1_often wz_X1_often ({ frames := 8, cells := 2, slots := 12, locals := 124 } : Room) 2 12 [va_rf v0, .int v1, .int v2] K (retI post) postX (fun G => w_X1_often K post postX v0 v1 v2 G) := by
  refine tx_of (cc := cX1_often) (maxL := 6) (ret := (some .int)) (own := RX1) (by decide) rfl rfl hll [.inr (.inr v0), .inl v1, .inl v2] rfl (Nat.le_of_ble_eq_true rfl) ?_
  intro p e s m args below meth c D A G ls C hr hn ht hl hW hS hw
  exact s_X1_often C hr ht hll post postX v0 v1 v2 _ _ _ _ hW hS hl hw
