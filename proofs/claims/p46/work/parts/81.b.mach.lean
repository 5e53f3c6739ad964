/-! X3_add_ -/
def wz_X3_add_ : List Cond := Cond.code yX3_add_ cX3_add_ 3 none :: w0
section Z_X3_add_
variable {p : Program} {l : Launch} {e : Env} {s : State} {m : MethodId} {args : Array Value} {below : List Frame} {meth : Method} {c : Code} {D : va_G} {A : Nat → Prop}
set_option maxHeartbeats 4000000 in
set_option maxRecDepth 100000 in
theorem s_X3_add_ {K : tK} (C : tc_B p l s m args meth c D K A wz_X3_add_ RX3 cX3_add_ 3) (hr : meth.sig.returnType = none) (hll : l.stackTraces = false)  (post : tG → Prop) (v0 : Option Nat) (v1 : Int64) : ∀ (G : tG) (H : Heap) (locs : List Loc) (ls : Array Slot), tg_W D A s H G → va_S A s.heap H locs → tl ls 3 [(0, .inr (.inr v0)), (1, .inr (.inl v1))] → w_X3_add_ K post v0 v1 G → W p l e ({ frames := 0, cells := 0, slots := 0, locals := 0 } : Room) s m args below meth c H locs 0 0 (MQ below (tc_Qc D A (retV post)) args s 0 0 A) (F0 m 0 ls []) := by
  intro G H locs ls hW hS hl hw
  unfold w_X3_add_ at hw
  refine tr_aload_n (k := 0) (x := v0) C hl 0 rfl dX3_add__0 ?_
  refine tr_aload_n (k := 0) (x := v0) C hl 0 rfl dX3_add__1 ?_
  refine tr_gfL (C0 := RX3) (T := TX3) (N := 8) (ci := 5) (ref := "TwinrowModel") (k := 7) (r := v0) C (zh hw_X3) rfl (by decide) (zm kw_149) rfl dX3_add__2 hW hw (fun x_2 hw => ?_)
  refine lv_ldc2 (v := (31 : Int64)) C.1.1 C.1.2.1 C.1.2.2.2.1 (C.1.2.2.2.2 _ (zm kw_150)) dX3_add__5 ?_
  refine lv_lmul C.1.1 C.1.2.1 dX3_add__8 ?_
  refine tr_lload_n (k := 1) (x := v1) C hl 1 rfl dX3_add__9 ?_
  refine lv_ladd C.1.1 C.1.2.1 dX3_add__10 ?_
  refine tr_pf (C0 := RX3) (T := TX3) (N := 8) (ci := 5) (ref := "TwinrowModel") (k := 7) (ty := .long) (v := .long (((x_2 * (31 : Int64)) + v1))) (r := v0) C (zh hw_X3) tyX3 tyX3_ok nmX3 rfl (by decide) (zm kw_149) rfl rfl (by decide +kernel) rfl rfl dX3_add__11 hW hS hw (fun G_11 H locs hw hW hS => ?_)
  exact tr_vret C hr dX3_add__14 (Nat.le_of_ble_eq_true rfl) (Nat.le_of_ble_eq_true rfl) hW hS hw
end Z_X3_add_
set_option maxHeartbeats 4000000 in
set_option maxRecDepth 100000 in
theorem c_X3_add_ (l : Launch) (hll : l.stackTraces = false) (K : tK) (post : tG → Prop) (v0 : Option Nat) (v1 : Int64) : Ct l yX3_add_ wz_X3_add_ ({ frames := 0, cells := 0, slots := 0, locals := 0 } : Room) 0 0 [va_rf v0, .long v1] K (retV post) (fun G => w_X3_add_ K post v0 v1 G) := by
  refine tc_of (cc := cX3_add_) (maxL := 3) (ret := none) (own := RX3) (plainFor_of_name (by decide)) rfl rfl hll [.inr (.inr v0), .inr (.inl v1)] rfl (Nat.le_of_ble_eq_true rfl) ?_
  intro p e s m args below meth c D A G ls C hr hn ht hl hW hS hw
  exact s_X3_add_ C hr hll post v0 v1 _ _ _ _ hW hS hl hw

/-! X3_beginNow -/
def wz_X3_beginNow : List Cond := Cond.code yX3_beginNow cX3_beginNow 2 (some .int) :: w0
section Z_X3_beginNow
variable {p : Program} {l : Launch} {e : Env} {s : State} {m : MethodId} {args : Array Value} {below : List Frame} {meth : Method} {c : Code} {D : va_G} {A : Nat → Prop}
set_option maxHeartbeats 4000000 in
set_option maxRecDepth 100000 in
theorem s_X3_beginNow_20 {K : tK} (C : tc_B p l s m args meth c D K A wz_X3_beginNow RX3 cX3_beginNow 2) (hr : meth.sig.returnType = (some .int)) (hll : l.stackTraces = false)  (post : Int32 → tG → Prop) : ∀ (u0 : Int32) (G : tG) (H : Heap) (locs : List Loc) (ls : Array Slot), tg_W D A s H G → va_S A s.heap H locs → tl ls 2 [] → w_X3_beginNow_20 K post u0 G → W p l e ({ frames := 0, cells := 0, slots := 0, locals := 0 } : Room) s m args below meth c H locs 0 0 (MQ below (tc_Qc D A (retI post)) args s 0 0 A) (F0 m 20 ls [.int u0]) := by
  intro u0 G H locs ls hW hS hl hw
  unfold w_X3_beginNow_20 at hw
  exact tr_iret C hr dX3_beginNow_20 (Nat.le_of_ble_eq_true rfl) (Nat.le_of_ble_eq_true rfl) hW hS hw
set_option maxHeartbeats 4000000 in
set_option maxRecDepth 100000 in
theorem s_X3_beginNow {K : tK} (C : tc_B p l s m args meth c D K A wz_X3_beginNow RX3 cX3_beginNow 2) (hr : meth.sig.returnType = (some .int)) (hll : l.stackTraces = false)  (post : Int32 → tG → Prop) (v0 : Option Nat) (v1 : Int32) : ∀ (G : tG) (H : Heap) (locs : List Loc) (ls : Array Slot), tg_W D A s H G → va_S A s.heap H locs → tl ls 2 [(0, .inr (.inr v0)), (1, .inl v1)] → w_X3_beginNow K post v0 v1 G → W p l e ({ frames := 0, cells := 0, slots := 0, locals := 0 } : Room) s m args below meth c H locs 0 0 (MQ below (tc_Qc D A (retI post)) args s 0 0 A) (F0 m 0 ls []) := by
  intro G H locs ls hW hS hl hw
  unfold w_X3_beginNow at hw
  refine tr_aload_n (k := 0) (x := v0) C hl 0 rfl dX3_beginNow_0 ?_
  refine tr_gfR (C0 := RX3) (T := TX3) (N := 8) (ci := 5) (ref := "TwinrowModel") (k := 1) (r := v0) C (zh hw_X3) rfl (by decide) (zm kw_22) rfl dX3_beginNow_1 hW hw (fun x_1 hw => ?_)
  refine tr_iload_n (k := 1) (x := v1) C hl 1 rfl dX3_beginNow_4 ?_
  refine tr_alI (r := x_1) C dX3_beginNow_5 hW hw (fun x_5 hw => ?_)
  refine lv_iconst (v := (-1 : Int32)) C.1.1 C.1.2.1 dX3_beginNow_6 (by decide) ?_
  refine lv_icmp_ne (tgt := 14) C.1.1 C.1.2.1 dX3_beginNow_7 (by decide) (fun hc => ?_) (fun hc => ?_)
  · have hw := hw.1 hc
    refine tr_aload_n (k := 0) (x := v0) C hl 0 rfl dX3_beginNow_14 ?_
    refine tr_gfR (C0 := RX3) (T := TX3) (N := 8) (ci := 5) (ref := "TwinrowModel") (k := 2) (r := v0) C (zh hw_X3) rfl (by decide) (zm kw_23) rfl dX3_beginNow_15 hW hw (fun x_15 hw => ?_)
    refine tr_iload_n (k := 1) (x := v1) C hl 1 rfl dX3_beginNow_18 ?_
    refine tr_alI (r := x_15) C dX3_beginNow_19 hW hw (fun x_19 hw => ?_)
    exact s_X3_beginNow_20 C hr hll post x_19 _ _ _ _ hW hS (tl_sub hl [] rfl) hw
  · have hw := hw.2 hc
    refine lv_iconst (v := (-1 : Int32)) C.1.1 C.1.2.1 dX3_beginNow_10 (by decide) ?_
    refine lv_goto (tgt := 20) C.1.1 C.1.2.1 dX3_beginNow_11 (by decide) ?_
    exact s_X3_beginNow_20 C hr hll post ((-1 : Int32)) _ _ _ _ hW hS (tl_sub hl [] rfl) hw
end Z_X3_beginNow
set_option maxHeartbeats 4000000 in
set_option maxRecDepth 100000 in
theorem c_X3_beginNow (l : Launch) (hll : l.stackTraces = false) (K : tK) (post : Int32 → tG → Prop) (v0 : Option Nat) (v1 : Int32) : Ct l yX3_beginNow wz_X3_beginNow ({ frames := 0, cells := 0, slots := 0, locals := 0 } : Room) 0 0 [va_rf v0, .int v1] K (retI post) (fun G => w_X3_beginNow K post v0 v1 G) := by
  refine tc_of (cc := cX3_beginNow) (maxL := 2) (ret := (some .int)) (own := RX3) (plainFor_of_name (by decide)) rfl rfl hll [.inr (.inr v0), .inl v1] rfl (Nat.le_of_ble_eq_true rfl) ?_
  intro p e s m args below meth c D A G ls C hr hn ht hl hW hS hw
  exact s_X3_beginNow C hr hll post v0 v1 _ _ _ _ hW hS hl hw

/-! X3_value -/
def wz_X3_value : List Cond := Cond.code yX3_value cX3_value 3 (some .int) :: w0
section Z_X3_value
variable {p : Program} {l : Launch} {e : Env} {s : State} {m : MethodId} {args : Array Value} {below : List Frame} {meth : Method} {c : Code} {D : va_G} {A : Nat → Prop}
set_option maxHeartbeats 4000000 in
set_option maxRecDepth 100000 in
theorem s_X3_value {K : tK} (C : tc_B p l s m args meth c D K A wz_X3_value RX3 cX3_value 3) (hr : meth.sig.returnType = (some .int)) (hll : l.stackTraces = false)  (post : Int32 → tG → Prop) (v0 : Option Nat) (v1 : Int32) (v2 : Int32) : ∀ (G : tG) (H : Heap) (locs : List Loc) (ls : Array Slot), tg_W D A s H G → va_S A s.heap H locs → tl ls 3 [(0, .inr (.inr v0)), (1, .inl v1), (2, .inl v2)] → w_X3_value K post v0 v1 v2 G → W p l e ({ frames := 0, cells := 0, slots := 0, locals := 0 } : Room) s m args below meth c H locs 0 0 (MQ below (tc_Qc D A (retI post)) args s 0 0 A) (F0 m 0 ls []) := by
  intro G H locs ls hW hS hl hw
  unfold w_X3_value at hw
  refine tr_aload_n (k := 0) (x := v0) C hl 0 rfl dX3_value_0 ?_
  refine tr_gfR (C0 := RX3) (T := TX3) (N := 8) (ci := 5) (ref := "TwinrowModel") (k := 0) (r := v0) C (zh hw_X3) rfl (by decide) (zm kw_21) rfl dX3_value_1 hW hw (fun x_1 hw => ?_)
  refine tr_aload_n (k := 0) (x := v0) C hl 0 rfl dX3_value_4 ?_
  refine tr_gfR (C0 := RX3) (T := TX3) (N := 8) (ci := 5) (ref := "TwinrowModel") (k := 1) (r := v0) C (zh hw_X3) rfl (by decide) (zm kw_22) rfl dX3_value_5 hW hw (fun x_5 hw => ?_)
  refine tr_iload_n (k := 1) (x := v1) C hl 1 rfl dX3_value_8 ?_
  refine tr_alI (r := x_5) C dX3_value_9 hW hw (fun x_9 hw => ?_)
  refine tr_alR (ty := .array .int) C dX3_value_10 hW rfl hw (fun x_10 hw => ?_)
  refine tr_aload_n (k := 0) (x := v0) C hl 0 rfl dX3_value_11 ?_
  refine tr_gfR (C0 := RX3) (T := TX3) (N := 8) (ci := 5) (ref := "TwinrowModel") (k := 2) (r := v0) C (zh hw_X3) rfl (by decide) (zm kw_23) rfl dX3_value_12 hW hw (fun x_12 hw => ?_)
  refine tr_iload_n (k := 1) (x := v1) C hl 1 rfl dX3_value_15 ?_
  refine tr_alI (r := x_12) C dX3_value_16 hW hw (fun x_16 hw => ?_)
  refine tr_iload_n (k := 2) (x := v2) C hl 2 rfl dX3_value_17 ?_
  refine lv_iadd C.1.1 C.1.2.1 dX3_value_18 ?_
  refine tr_alI (r := x_10) C dX3_value_19 hW hw (fun x_19 hw => ?_)
  exact tr_iret C hr dX3_value_20 (Nat.le_of_ble_eq_true rfl) (Nat.le_of_ble_eq_true rfl) hW hS hw
end Z_X3_value
set_option maxHeartbeats 4000000 in
set_option maxRecDepth 100000 in
theorem c_X3_value (l : Launch) (hll : l.stackTraces = false) (K : tK) (post : Int32 → tG → Prop) (v0 : Option Nat) (v1 : Int32) (v2 : Int32) : Ct l yX3_value wz_X3_value ({ frames := 0, cells := 0, slots := 0, locals := 0 } : Room) 0 0 [va_rf v0, .int v1, .int v2] K (retI post) (fun G => w_X3_value K post v0 v1 v2 G) := by
  refine tc_of (cc := cX3_value) (maxL := 3) (ret := (some .int)) (own := RX3) (plainFor_of_name (by decide)) rfl rfl hll [.inr (.inr v0), .inl v1, .inl v2] rfl (Nat.le_of_ble_eq_true rfl) ?_
  intro p e s m args below meth c D A G ls C hr hn ht hl hW hS hw
  exact s_X3_value C hr hll post v0 v1 v2 _ _ _ _ hW hS hl hw

/-! X3_all -/
def wz_X3_all : List Cond := Cond.code yX3_all cX3_all 4 (some (.array .int)) :: w0
section Z_X3_all
variable {p : Program} {l : Launch} {e : Env} {s : State} {m : MethodId} {args : Array Value} {below : List Frame} {meth : Method} {c : Code} {D : va_G} {A : Nat → Prop}
set_option maxHeartbeats 4000000 in
set_option maxRecDepth 100000 in
theorem s_X3_all_11_b {K : tK} (C : tc_B p l s m args meth c D K A wz_X3_all RX3 cX3_all 4) (hr : meth.sig.returnType = (some (.array .int))) (hll : l.stackTraces = false)  (post : Option Nat → tG → Prop) (k11 : Option Nat → Int32 → Option Nat → Int32 → tG → Prop) (hk11 : ∀ (v0 : Option Nat) (v1 : Int32) (v2 : Option Nat) (v3 : Int32) (G : tG) (H : Heap) (locs : List Loc) (ls : Array Slot), tg_W D A s H G → va_S A s.heap H locs → tl ls 4 [(0, .inr (.inr v0)), (1, .inl v1), (2, .inr (.inr v2)), (3, .inl v3)] → k11 v0 v1 v2 v3 G → W p l e ({ frames := 1, cells := 1, slots := 12, locals := 22 } : Room) s m args below meth c H locs 1 12 (MQ below (tc_Qc D A (retR post)) args s 1 12 A) (F0 m 11 ls [])) : ∀ (v0 : Option Nat) (v1 : Int32) (v2 : Option Nat) (v3 : Int32) (G : tG) (H : Heap) (locs : List Loc) (ls : Array Slot), tg_W D A s H G → va_S A s.heap H locs → tl ls 4 [(0, .inr (.inr v0)), (1, .inl v1), (2, .inr (.inr v2)), (3, .inl v3)] → w_X3_all_11_b K post k11 v0 v1 v2 v3 G → W p l e ({ frames := 1, cells := 1, slots := 12, locals := 22 } : Room) s m args below meth c H locs 1 12 (MQ below (tc_Qc D A (retR post)) args s 1 12 A) (F0 m 11 ls []) := by
  intro v0 v1 v2 v3 G H locs ls hW hS hl hw
  unfold w_X3_all_11_b at hw
  refine tr_iload_n (k := 3) (x := v3) C hl 3 rfl dX3_all_11 ?_
  refine tr_aload_n (k := 2) (x := v2) C hl 2 rfl dX3_all_12 ?_
  refine tr_len (r := v2) C dX3_all_13 hW hw (fun x_13 hw => ?_)
  refine lv_icmp_ge (tgt := 32) C.1.1 C.1.2.1 dX3_all_14 (by decide) (fun hc => ?_) (fun hc => ?_)
  · have hw := hw.1 hc
    refine tr_aload_n (k := 2) (x := v2) C hl 2 rfl dX3_all_32 ?_
    exact tr_aret (x := v2) C hr (Or.inr ⟨_, rfl⟩) dX3_all_33 (Nat.le_of_ble_eq_true rfl) (Nat.le_of_ble_eq_true rfl) hW hS hw
  · have hw := hw.2 hc
    refine tr_aload_n (k := 2) (x := v2) C hl 2 rfl dX3_all_17 ?_
    refine tr_iload_n (k := 3) (x := v3) C hl 3 rfl dX3_all_18 ?_
    refine tr_aload_n (k := 0) (x := v0) C hl 0 rfl dX3_all_19 ?_
    refine tr_iload_n (k := 1) (x := v1) C hl 1 rfl dX3_all_20 ?_
    refine tr_iload_n (k := 3) (x := v3) C hl 3 rfl dX3_all_21 ?_
    refine tr_backI (tr_runV (r := v0) (As := [.int v1, .int v3]) C hl.1 (c_X3_value l hll K _ v0 v1 v3) (cwV 2 C.1.2.2.2.2 (gi_V (zm kw_152) (zm kw_153) (zm kw_154) (zm kw_155) (zm kw_151)) rfl rfl rfl (by decide +kernel) ⟨(Nat.le_of_ble_eq_true rfl), (Nat.le_of_ble_eq_true rfl)⟩) rfl rfl dX3_all_22 ⟨(Nat.le_of_ble_eq_true rfl), (Nat.le_of_ble_eq_true rfl)⟩ [.inl v3, .inr (.inr v2)] rfl (Nat.le_of_ble_eq_true rfl) rfl hW hS hw) hS (fun x_22 G_22 H locs hw hW hS => ?_)
    refine tr_asI (r := v2) C dX3_all_25 hW hS hw (fun G_25 H locs hw hW hS => ?_)
    refine tr_iinc C hl 3 (v3 + (1 : Int32)) [(3, .inl (v3 + (1 : Int32))), (0, .inr (.inr v0)), (1, .inl v1), (2, .inr (.inr v2))] rfl rfl (by decide) rfl dX3_all_26 (fun ls hl => ?_)
    refine lv_goto (tgt := 11) C.1.1 C.1.2.1 dX3_all_29 (by decide) ?_
    exact hk11 v0 v1 v2 ((v3 + (1 : Int32))) _ _ _ _ hW hS (tl_sub hl [1, 2, 3, 0] rfl) hw
set_option maxHeartbeats 4000000 in
set_option maxRecDepth 100000 in
theorem s_X3_all_11 {K : tK} (C : tc_B p l s m args meth c D K A wz_X3_all RX3 cX3_all 4) (hr : meth.sig.returnType = (some (.array .int))) (hll : l.stackTraces = false)  (post : Option Nat → tG → Prop) : ∀ (n : Nat) (v0 : Option Nat) (v1 : Int32) (v2 : Option Nat) (v3 : Int32) (G : tG) (H : Heap) (locs : List Loc) (ls : Array Slot), tg_W D A s H G → va_S A s.heap H locs → tl ls 4 [(0, .inr (.inr v0)), (1, .inl v1), (2, .inr (.inr v2)), (3, .inl v3)] → w_X3_all_11 K post n v0 v1 v2 v3 G → W p l e ({ frames := 1, cells := 1, slots := 12, locals := 22 } : Room) s m args below meth c H locs 1 12 (MQ below (tc_Qc D A (retR post)) args s 1 12 A) (F0 m 11 ls []) := by
  intro n
  induction n with
  | zero =>
    intro v0 v1 v2 v3 G H locs ls hW hS hl hw
    exact hw.elim
  | succ n ih => exact s_X3_all_11_b C hr hll post _ ih
set_option maxHeartbeats 4000000 in
set_option maxRecDepth 100000 in
theorem s_X3_all {K : tK} (C : tc_B p l s m args meth c D K A wz_X3_all RX3 cX3_all 4) (hr : meth.sig.returnType = (some (.array .int))) (hll : l.stackTraces = false)  (post : Option Nat → tG → Prop) (v0 : Option Nat) (v1 : Int32) : ∀ (G : tG) (H : Heap) (locs : List Loc) (ls : Array Slot), tg_W D A s H G → va_S A s.heap H locs → tl ls 4 [(0, .inr (.inr v0)), (1, .inl v1)] → w_X3_all K post v0 v1 G → W p l e ({ frames := 1, cells := 1, slots := 12, locals := 22 } : Room) s m args below meth c H locs 0 0 (MQ below (tc_Qc D A (retR post)) args s 1 12 A) (F0 m 0 ls []) := by
  intro G H locs ls hW hS hl hw
  unfold w_X3_all at hw
  refine tr_aload_n (k := 0) (x := v0) C hl 0 rfl dX3_all_0 ?_
  refine tr_gfR (C0 := RX3) (T := TX3) (N := 8) (ci := 5) (ref := "TwinrowModel") (k := 3) (r := v0) C (zh hw_X3) rfl (by decide) (zm kw_24) rfl dX3_all_1 hW hw (fun x_1 hw => ?_)
  refine tr_iload_n (k := 1) (x := v1) C hl 1 rfl dX3_all_4 ?_
  refine tr_alI (r := x_1) C dX3_all_5 hW hw (fun x_5 hw => ?_)
  refine tr_newarr (atype := .int) (ty := .int) (lim := 12) (z := (.inl (fun _ => 0))) C (zm kw_11) rfl (fun _ h => h) (fun _ _ => rfl) (Nat.le_of_ble_eq_true rfl) (Nat.le_of_ble_eq_true rfl) (Nat.le_of_ble_eq_true rfl) dX3_all_6 hW hS hw (fun r_6 G_6 H hw hW hS => ?_)
  refine tr_astore_n (k := 2) (x := r_6) C hl [(2, .inr (.inr r_6)), (0, .inr (.inr v0)), (1, .inl v1)] (by decide) rfl dX3_all_8 (fun ls hl => ?_)
  refine lv_iconst (v := (0 : Int32)) C.1.1 C.1.2.1 dX3_all_9 (by decide) ?_
  refine tr_istore_n (k := 3) (x := (0 : Int32)) C hl [(3, .inl (0 : Int32)), (2, .inr (.inr r_6)), (0, .inr (.inr v0)), (1, .inl v1)] (by decide) rfl dX3_all_10 (fun ls hl => ?_)
  obtain ⟨n11, hw⟩ := hw
  exact s_X3_all_11 C hr hll post n11 v0 v1 r_6 ((0 : Int32)) _ _ _ _ hW hS (tl_sub hl [2, 3, 1, 0] rfl) hw
end Z_X3_all
set_option maxHeartbeats 4000000 in
set_option maxRecDepth 100000 in
theorem c_X3_all (l : Launch) (hll : l.stackTraces = false) (K : tK) (post : Option Nat → tG → Prop) (v0 : Option Nat) (v1 : Int32) : Ct l yX3_all wz_X3_all ({ frames := 1, cells := 1, slots := 12, locals := 22 } : Room) 1 12 [va_rf v0, .int v1] K (retR post) (fun G => w_X3_all K post v0 v1 G) := by
  refine tc_of (cc := cX3_all) (maxL := 4) (ret := (some (.array .int))) (own := RX3) (plainFor_of_name (by decide)) rfl rfl hll [.inr (.inr v0), .inl v1] rfl (Nat.le_of_ble_eq_true rfl) ?_
  intro p e s m args below meth c D A G ls C hr hn ht hl hW hS hw
  exact s_X3_all C hr hll post v0 v1 _ _ _ _ hW hS hl hw

/-! X3_codeNow -/
def wz_X3_codeNow : List Cond := Cond.code yX3_codeNow cX3_codeNow 7 (some .int) :: w0
section Z_X3_codeNow
variable {p : Program} {l : Launch} {e : Env} {s : State} {m : MethodId} {args : Array Value} {below : List Frame} {meth : Method} {c : Code} {D : va_G} {A : Nat → Prop}
set_option maxHeartbeats 4000000 in
set_option maxRecDepth 100000 in
theorem s_X3_codeNow_46 {K : tK} (C : tc_B p l s m args meth c D K A wz_X3_codeNow RX3 cX3_codeNow 7) (hr : meth.sig.returnType = (some .int)) (hll : l.stackTraces = false)  (post : Int32 → tG → Prop) (k15 : Int32 → Option Nat → Int32 → Int32 → tG → Prop) (hk15 : ∀ (v2 : Int32) (v3 : Option Nat) (v4 : Int32) (v5 : Int32) (G : tG) (H : Heap) (locs : List Loc) (ls : Array Slot), tg_W D A s H G → va_S A s.heap H locs → tl ls 7 [(2, .inl v2), (3, .inr (.inr v3)), (4, .inl v4), (5, .inl v5)] → k15 v2 v3 v4 v5 G → W p l e ({ frames := 2, cells := 1, slots := 12, locals := 45 } : Room) s m args below meth c H locs 1 12 (MQ below (tc_Qc D A (retI post)) args s 1 12 A) (F0 m 15 ls [])) : ∀ (v3 : Option Nat) (v4 : Int32) (v5 : Int32) (u0 : Int32) (u1 : Int32) (G : tG) (H : Heap) (locs : List Loc) (ls : Array Slot), tg_W D A s H G → va_S A s.heap H locs → tl ls 7 [(3, .inr (.inr v3)), (4, .inl v4), (5, .inl v5)] → w_X3_codeNow_46 K post k15 v3 v4 v5 u0 u1 G → W p l e ({ frames := 2, cells := 1, slots := 12, locals := 45 } : Room) s m args below meth c H locs 1 12 (MQ below (tc_Qc D A (retI post)) args s 1 12 A) (F0 m 46 ls [.int u1, .int u0]) := by
  intro v3 v4 v5 u0 u1 G H locs ls hW hS hl hw
  unfold w_X3_codeNow_46 at hw
  refine lv_iadd C.1.1 C.1.2.1 dX3_codeNow_46 ?_
  refine tr_istore_n (k := 2) (x := (u0 + u1)) C hl [(2, .inl (u0 + u1)), (3, .inr (.inr v3)), (4, .inl v4), (5, .inl v5)] (by decide) rfl dX3_codeNow_47 (fun ls hl => ?_)
  refine tr_iinc C hl 3 (v5 + (1 : Int32)) [(5, .inl (v5 + (1 : Int32))), (2, .inl (u0 + u1)), (3, .inr (.inr v3)), (4, .inl v4)] rfl rfl (by decide) rfl dX3_codeNow_48 (fun ls hl => ?_)
  refine lv_goto (tgt := 15) C.1.1 C.1.2.1 dX3_codeNow_51 (by decide) ?_
  exact hk15 ((u0 + u1)) v3 v4 ((v5 + (1 : Int32))) _ _ _ _ hW hS (tl_sub hl [1, 2, 3, 0] rfl) hw
set_option maxHeartbeats 4000000 in
set_option maxRecDepth 100000 in
theorem s_X3_codeNow_15_b {K : tK} (C : tc_B p l s m args meth c D K A wz_X3_codeNow RX3 cX3_codeNow 7) (hr : meth.sig.returnType = (some .int)) (hll : l.stackTraces = false)  (post : Int32 → tG → Prop) (k15 : Int32 → Option Nat → Int32 → Int32 → tG → Prop) (hk15 : ∀ (v2 : Int32) (v3 : Option Nat) (v4 : Int32) (v5 : Int32) (G : tG) (H : Heap) (locs : List Loc) (ls : Array Slot), tg_W D A s H G → va_S A s.heap H locs → tl ls 7 [(2, .inl v2), (3, .inr (.inr v3)), (4, .inl v4), (5, .inl v5)] → k15 v2 v3 v4 v5 G → W p l e ({ frames := 2, cells := 1, slots := 12, locals := 45 } : Room) s m args below meth c H locs 1 12 (MQ below (tc_Qc D A (retI post)) args s 1 12 A) (F0 m 15 ls [])) : ∀ (v2 : Int32) (v3 : Option Nat) (v4 : Int32) (v5 : Int32) (G : tG) (H : Heap) (locs : List Loc) (ls : Array Slot), tg_W D A s H G → va_S A s.heap H locs → tl ls 7 [(2, .inl v2), (3, .inr (.inr v3)), (4, .inl v4), (5, .inl v5)] → w_X3_codeNow_15_b K post k15 v2 v3 v4 v5 G → W p l e ({ frames := 2, cells := 1, slots := 12, locals := 45 } : Room) s m args below meth c H locs 1 12 (MQ below (tc_Qc D A (retI post)) args s 1 12 A) (F0 m 15 ls []) := by
  intro v2 v3 v4 v5 G H locs ls hW hS hl hw
  unfold w_X3_codeNow_15_b at hw
  refine tr_iload (x := v5) C hl 3 rfl dX3_codeNow_15 ?_
  refine tr_iload (x := v4) C hl 2 rfl dX3_codeNow_17 ?_
  refine lv_icmp_ge (tgt := 54) C.1.1 C.1.2.1 dX3_codeNow_19 (by decide) (fun hc => ?_) (fun hc => ?_)
  · have hw := hw.1 hc
    refine tr_iload_n (k := 2) (x := v2) C hl 0 rfl dX3_codeNow_54 ?_
    exact tr_iret C hr dX3_codeNow_55 (Nat.le_of_ble_eq_true rfl) (Nat.le_of_ble_eq_true rfl) hW hS hw
  · have hw := hw.2 hc
    refine tr_aload_n (k := 3) (x := v3) C hl 1 rfl dX3_codeNow_22 ?_
    refine tr_iload (x := v5) C hl 3 rfl dX3_codeNow_23 ?_
    refine tr_alI (r := v3) C dX3_codeNow_25 hW hw (fun x_25 hw => ?_)
    refine tr_istore (x := x_25) C hl [(6, .inl x_25), (2, .inl v2), (3, .inr (.inr v3)), (4, .inl v4), (5, .inl v5)] (by decide) rfl dX3_codeNow_26 (fun ls hl => ?_)
    refine lv_bipush (v := (31 : Int32)) C.1.1 C.1.2.1 dX3_codeNow_28 (by decide) ?_
    refine tr_iload_n (k := 2) (x := v2) C hl 1 rfl dX3_codeNow_30 ?_
    refine lv_imul C.1.1 C.1.2.1 dX3_codeNow_31 ?_
    refine tr_iload (x := x_25) C hl 0 rfl dX3_codeNow_32 ?_
    refine lv_sipush (v := (-1000 : Int32)) C.1.1 C.1.2.1 dX3_codeNow_34 (by decide) ?_
    refine lv_icmp_ne (tgt := 44) C.1.1 C.1.2.1 dX3_codeNow_37 (by decide) (fun hc => ?_) (fun hc => ?_)
    · have hw := hw.1 hc
      refine tr_iload (x := x_25) C hl 0 rfl dX3_codeNow_44 ?_
      exact s_X3_codeNow_46 C hr hll post k15 hk15 v3 v4 v5 (((31 : Int32) * v2)) x_25 _ _ _ _ hW hS (tl_sub hl [2, 3, 4] rfl) hw
    · have hw := hw.2 hc
      refine lv_iconst (v := (0 : Int32)) C.1.1 C.1.2.1 dX3_codeNow_40 (by decide) ?_
      refine lv_goto (tgt := 46) C.1.1 C.1.2.1 dX3_codeNow_41 (by decide) ?_
      exact s_X3_codeNow_46 C hr hll post k15 hk15 v3 v4 v5 (((31 : Int32) * v2)) ((0 : Int32)) _ _ _ _ hW hS (tl_sub hl [2, 3, 4] rfl) hw
set_option maxHeartbeats 4000000 in
set_option maxRecDepth 100000 in
theorem s_X3_codeNow_15 {K : tK} (C : tc_B p l s m args meth c D K A wz_X3_codeNow RX3 cX3_codeNow 7) (hr : meth.sig.returnType = (some .int)) (hll : l.stackTraces = false)  (post : Int32 → tG → Prop) : ∀ (n : Nat) (v2 : Int32) (v3 : Option Nat) (v4 : Int32) (v5 : Int32) (G : tG) (H : Heap) (locs : List Loc) (ls : Array Slot), tg_W D A s H G → va_S A s.heap H locs → tl ls 7 [(2, .inl v2), (3, .inr (.inr v3)), (4, .inl v4), (5, .inl v5)] → w_X3_codeNow_15 K post n v2 v3 v4 v5 G → W p l e ({ frames := 2, cells := 1, slots := 12, locals := 45 } : Room) s m args below meth c H locs 1 12 (MQ below (tc_Qc D A (retI post)) args s 1 12 A) (F0 m 15 ls []) := by
  intro n
  induction n with
  | zero =>
    intro v2 v3 v4 v5 G H locs ls hW hS hl hw
    exact hw.elim
  | succ n ih => exact s_X3_codeNow_15_b C hr hll post _ ih
set_option maxHeartbeats 4000000 in
set_option maxRecDepth 100000 in
theorem s_X3_codeNow {K : tK} (C : tc_B p l s m args meth c D K A wz_X3_codeNow RX3 cX3_codeNow 7) (hr : meth.sig.returnType = (some .int)) (hll : l.stackTraces = false)  (post : Int32 → tG → Prop) (v0 : Option Nat) (v1 : Int32) : ∀ (G : tG) (H : Heap) (locs : List Loc) (ls : Array Slot), tg_W D A s H G → va_S A s.heap H locs → tl ls 7 [(0, .inr (.inr v0)), (1, .inl v1)] → w_X3_codeNow K post v0 v1 G → W p l e ({ frames := 2, cells := 1, slots := 12, locals := 45 } : Room) s m args below meth c H locs 0 0 (MQ below (tc_Qc D A (retI post)) args s 1 12 A) (F0 m 0 ls []) := by
  intro G H locs ls hW hS hl hw
  unfold w_X3_codeNow at hw
  refine lv_iconst (v := (1 : Int32)) C.1.1 C.1.2.1 dX3_codeNow_0 (by decide) ?_
  refine tr_istore_n (k := 2) (x := (1 : Int32)) C hl [(2, .inl (1 : Int32)), (0, .inr (.inr v0)), (1, .inl v1)] (by decide) rfl dX3_codeNow_1 (fun ls hl => ?_)
  refine tr_aload_n (k := 0) (x := v0) C hl 1 rfl dX3_codeNow_2 ?_
  refine tr_iload_n (k := 1) (x := v1) C hl 2 rfl dX3_codeNow_3 ?_
  refine tr_backR (tr_runV (r := v0) (As := [.int v1]) C hl.1 (c_X3_all l hll K _ v0 v1) (cwV 1 C.1.2.2.2.2 (gi_V (zm kw_157) (zm kw_158) (zm kw_159) (zm kw_155) (zm kw_156)) rfl rfl rfl (by decide +kernel) ⟨(Nat.le_of_ble_eq_true rfl), (Nat.le_of_ble_eq_true rfl)⟩) rfl rfl dX3_codeNow_4 ⟨(Nat.le_of_ble_eq_true rfl), (Nat.le_of_ble_eq_true rfl)⟩ [] rfl (Nat.le_of_ble_eq_true rfl) rfl hW hS hw) hS (fun x_4 G_4 H locs hw hW hS => ?_)
  refine tr_astore_n (k := 3) (x := x_4) C hl [(3, .inr (.inr x_4)), (2, .inl (1 : Int32)), (0, .inr (.inr v0)), (1, .inl v1)] (by decide) rfl dX3_codeNow_7 (fun ls hl => ?_)
  refine tr_aload_n (k := 3) (x := x_4) C hl 0 rfl dX3_codeNow_8 ?_
  refine tr_len (r := x_4) C dX3_codeNow_9 hW hw (fun x_9 hw => ?_)
  refine tr_istore (x := x_9) C hl [(4, .inl x_9), (3, .inr (.inr x_4)), (2, .inl (1 : Int32)), (0, .inr (.inr v0)), (1, .inl v1)] (by decide) rfl dX3_codeNow_10 (fun ls hl => ?_)
  refine lv_iconst (v := (0 : Int32)) C.1.1 C.1.2.1 dX3_codeNow_12 (by decide) ?_
  refine tr_istore (x := (0 : Int32)) C hl [(5, .inl (0 : Int32)), (4, .inl x_9), (3, .inr (.inr x_4)), (2, .inl (1 : Int32)), (0, .inr (.inr v0)), (1, .inl v1)] (by decide) rfl dX3_codeNow_13 (fun ls hl => ?_)
  obtain ⟨n15, hw⟩ := hw
  exact s_X3_codeNow_15 C hr hll post n15 ((1 : Int32)) x_4 x_9 ((0 : Int32)) _ _ _ _ hW hS (tl_sub hl [3, 2, 1, 0] rfl) hw
end Z_X3_codeNow
set_option maxHeartbeats 4000000 in
set_option maxRecDepth 100000 in
theorem c_X3_codeNow (l : Launch) (hll : l.stackTraces = false) (K : tK) (post : Int32 → tG → Prop) (v0 : Option Nat) (v1 : Int32) : Ct l yX3_codeNow wz_X3_codeNow ({ frames := 2, cells := 1, slots := 12, locals := 45 } : Room) 1 12 [va_rf v0, .int v1] K (retI post) (fun G => w_X3_codeNow K post v0 v1 G) := by
  refine tc_of (cc := cX3_codeNow) (maxL := 7) (ret := (some .int)) (own := RX3) (plainFor_of_name (by decide)) rfl rfl hll [.inr (.inr v0), .inl v1] rfl (Nat.le_of_ble_eq_true rfl) ?_
  intro p e s m args below meth c D A G ls C hr hn ht hl hW hS hw
  exact s_X3_codeNow C hr hll post v0 v1 _ _ _ _ hW hS hl hw

/-! X3_sumNow -/
def wz_X3_sumNow : List Cond := Cond.code yX3_sumNow cX3_sumNow 7 (some .int) :: w0
section Z_X3_sumNow
variable {p : Program} {l : Launch} {e : Env} {s : State} {m : MethodId} {args : Array Value} {below : List Frame} {meth : Method} {c : Code} {D : va_G} {A : Nat → Prop}
set_option maxHeartbeats 4000000 in
set_option maxRecDepth 100000 in
theorem s_X3_sumNow_43 {K : tK} (C : tc_B p l s m args meth c D K A wz_X3_sumNow RX3 cX3_sumNow 7) (hr : meth.sig.returnType = (some .int)) (hll : l.stackTraces = false)  (post : Int32 → tG → Prop) (k15 : Int32 → Option Nat → Int32 → Int32 → tG → Prop) (hk15 : ∀ (v2 : Int32) (v3 : Option Nat) (v4 : Int32) (v5 : Int32) (G : tG) (H : Heap) (locs : List Loc) (ls : Array Slot), tg_W D A s H G → va_S A s.heap H locs → tl ls 7 [(2, .inl v2), (3, .inr (.inr v3)), (4, .inl v4), (5, .inl v5)] → k15 v2 v3 v4 v5 G → W p l e ({ frames := 2, cells := 1, slots := 12, locals := 45 } : Room) s m args below meth c H locs 1 12 (MQ below (tc_Qc D A (retI post)) args s 1 12 A) (F0 m 15 ls [])) : ∀ (v3 : Option Nat) (v4 : Int32) (v5 : Int32) (u0 : Int32) (u1 : Int32) (G : tG) (H : Heap) (locs : List Loc) (ls : Array Slot), tg_W D A s H G → va_S A s.heap H locs → tl ls 7 [(3, .inr (.inr v3)), (4, .inl v4), (5, .inl v5)] → w_X3_sumNow_43 K post k15 v3 v4 v5 u0 u1 G → W p l e ({ frames := 2, cells := 1, slots := 12, locals := 45 } : Room) s m args below meth c H locs 1 12 (MQ below (tc_Qc D A (retI post)) args s 1 12 A) (F0 m 43 ls [.int u1, .int u0]) := by
  intro v3 v4 v5 u0 u1 G H locs ls hW hS hl hw
  unfold w_X3_sumNow_43 at hw
  refine lv_iadd C.1.1 C.1.2.1 dX3_sumNow_43 ?_
  refine tr_istore_n (k := 2) (x := (u0 + u1)) C hl [(2, .inl (u0 + u1)), (3, .inr (.inr v3)), (4, .inl v4), (5, .inl v5)] (by decide) rfl dX3_sumNow_44 (fun ls hl => ?_)
  refine tr_iinc C hl 3 (v5 + (1 : Int32)) [(5, .inl (v5 + (1 : Int32))), (2, .inl (u0 + u1)), (3, .inr (.inr v3)), (4, .inl v4)] rfl rfl (by decide) rfl dX3_sumNow_45 (fun ls hl => ?_)
  refine lv_goto (tgt := 15) C.1.1 C.1.2.1 dX3_sumNow_48 (by decide) ?_
  exact hk15 ((u0 + u1)) v3 v4 ((v5 + (1 : Int32))) _ _ _ _ hW hS (tl_sub hl [1, 2, 3, 0] rfl) hw
set_option maxHeartbeats 4000000 in
set_option maxRecDepth 100000 in
theorem s_X3_sumNow_15_b {K : tK} (C : tc_B p l s m args meth c D K A wz_X3_sumNow RX3 cX3_sumNow 7) (hr : meth.sig.returnType = (some .int)) (hll : l.stackTraces = false)  (post : Int32 → tG → Prop) (k15 : Int32 → Option Nat → Int32 → Int32 → tG → Prop) (hk15 : ∀ (v2 : Int32) (v3 : Option Nat) (v4 : Int32) (v5 : Int32) (G : tG) (H : Heap) (locs : List Loc) (ls : Array Slot), tg_W D A s H G → va_S A s.heap H locs → tl ls 7 [(2, .inl v2), (3, .inr (.inr v3)), (4, .inl v4), (5, .inl v5)] → k15 v2 v3 v4 v5 G → W p l e ({ frames := 2, cells := 1, slots := 12, locals := 45 } : Room) s m args below meth c H locs 1 12 (MQ below (tc_Qc D A (retI post)) args s 1 12 A) (F0 m 15 ls [])) : ∀ (v2 : Int32) (v3 : Option Nat) (v4 : Int32) (v5 : Int32) (G : tG) (H : Heap) (locs : List Loc) (ls : Array Slot), tg_W D A s H G → va_S A s.heap H locs → tl ls 7 [(2, .inl v2), (3, .inr (.inr v3)), (4, .inl v4), (5, .inl v5)] → w_X3_sumNow_15_b K post k15 v2 v3 v4 v5 G → W p l e ({ frames := 2, cells := 1, slots := 12, locals := 45 } : Room) s m args below meth c H locs 1 12 (MQ below (tc_Qc D A (retI post)) args s 1 12 A) (F0 m 15 ls []) := by
  intro v2 v3 v4 v5 G H locs ls hW hS hl hw
  unfold w_X3_sumNow_15_b at hw
  refine tr_iload (x := v5) C hl 3 rfl dX3_sumNow_15 ?_
  refine tr_iload (x := v4) C hl 2 rfl dX3_sumNow_17 ?_
  refine lv_icmp_ge (tgt := 51) C.1.1 C.1.2.1 dX3_sumNow_19 (by decide) (fun hc => ?_) (fun hc => ?_)
  · have hw := hw.1 hc
    refine tr_iload_n (k := 2) (x := v2) C hl 0 rfl dX3_sumNow_51 ?_
    exact tr_iret C hr dX3_sumNow_52 (Nat.le_of_ble_eq_true rfl) (Nat.le_of_ble_eq_true rfl) hW hS hw
  · have hw := hw.2 hc
    refine tr_aload_n (k := 3) (x := v3) C hl 1 rfl dX3_sumNow_22 ?_
    refine tr_iload (x := v5) C hl 3 rfl dX3_sumNow_23 ?_
    refine tr_alI (r := v3) C dX3_sumNow_25 hW hw (fun x_25 hw => ?_)
    refine tr_istore (x := x_25) C hl [(6, .inl x_25), (2, .inl v2), (3, .inr (.inr v3)), (4, .inl v4), (5, .inl v5)] (by decide) rfl dX3_sumNow_26 (fun ls hl => ?_)
    refine tr_iload_n (k := 2) (x := v2) C hl 1 rfl dX3_sumNow_28 ?_
    refine tr_iload (x := x_25) C hl 0 rfl dX3_sumNow_29 ?_
    refine lv_sipush (v := (-1000 : Int32)) C.1.1 C.1.2.1 dX3_sumNow_31 (by decide) ?_
    refine lv_icmp_ne (tgt := 41) C.1.1 C.1.2.1 dX3_sumNow_34 (by decide) (fun hc => ?_) (fun hc => ?_)
    · have hw := hw.1 hc
      refine tr_iload (x := x_25) C hl 0 rfl dX3_sumNow_41 ?_
      exact s_X3_sumNow_43 C hr hll post k15 hk15 v3 v4 v5 v2 x_25 _ _ _ _ hW hS (tl_sub hl [2, 3, 4] rfl) hw
    · have hw := hw.2 hc
      refine lv_iconst (v := (0 : Int32)) C.1.1 C.1.2.1 dX3_sumNow_37 (by decide) ?_
      refine lv_goto (tgt := 43) C.1.1 C.1.2.1 dX3_sumNow_38 (by decide) ?_
      exact s_X3_sumNow_43 C hr hll post k15 hk15 v3 v4 v5 v2 ((0 : Int32)) _ _ _ _ hW hS (tl_sub hl [2, 3, 4] rfl) hw
set_option maxHeartbeats 4000000 in
set_option maxRecDepth 100000 in
theorem s_X3_sumNow_15 {K : tK} (C : tc_B p l s m args meth c D K A wz_X3_sumNow RX3 cX3_sumNow 7) (hr : meth.sig.returnType = (some .int)) (hll : l.stackTraces = false)  (post : Int32 → tG → Prop) : ∀ (n : Nat) (v2 : Int32) (v3 : Option Nat) (v4 : Int32) (v5 : Int32) (G : tG) (H : Heap) (locs : List Loc) (ls : Array Slot), tg_W D A s H G → va_S A s.heap H locs → tl ls 7 [(2, .inl v2), (3, .inr (.inr v3)), (4, .inl v4), (5, .inl v5)] → w_X3_sumNow_15 K post n v2 v3 v4 v5 G → W p l e ({ frames := 2, cells := 1, slots := 12, locals := 45 } : Room) s m args below meth c H locs 1 12 (MQ below (tc_Qc D A (retI post)) args s 1 12 A) (F0 m 15 ls []) := by
  intro n
  induction n with
  | zero =>
    intro v2 v3 v4 v5 G H locs ls hW hS hl hw
    exact hw.elim
  | succ n ih => exact s_X3_sumNow_15_b C hr hll post _ ih
set_option maxHeartbeats 4000000 in
set_option maxRecDepth 100000 in
theorem s_X3_sumNow {K : tK} (C : tc_B p l s m args meth c D K A wz_X3_sumNow RX3 cX3_sumNow 7) (hr : meth.sig.returnType = (some .int)) (hll : l.stackTraces = false)  (post : Int32 → tG → Prop) (v0 : Option Nat) (v1 : Int32) : ∀ (G : tG) (H : Heap) (locs : List Loc) (ls : Array Slot), tg_W D A s H G → va_S A s.heap H locs → tl ls 7 [(0, .inr (.inr v0)), (1, .inl v1)] → w_X3_sumNow K post v0 v1 G → W p l e ({ frames := 2, cells := 1, slots := 12, locals := 45 } : Room) s m args below meth c H locs 0 0 (MQ below (tc_Qc D A (retI post)) args s 1 12 A) (F0 m 0 ls []) := by
  intro G H locs ls hW hS hl hw
  unfold w_X3_sumNow at hw
  refine lv_iconst (v := (0 : Int32)) C.1.1 C.1.2.1 dX3_sumNow_0 (by decide) ?_
  refine tr_istore_n (k := 2) (x := (0 : Int32)) C hl [(2, .inl (0 : Int32)), (0, .inr (.inr v0)), (1, .inl v1)] (by decide) rfl dX3_sumNow_1 (fun ls hl => ?_)
  refine tr_aload_n (k := 0) (x := v0) C hl 1 rfl dX3_sumNow_2 ?_
  refine tr_iload_n (k := 1) (x := v1) C hl 2 rfl dX3_sumNow_3 ?_
  refine tr_backR (tr_runV (r := v0) (As := [.int v1]) C hl.1 (c_X3_all l hll K _ v0 v1) (cwV 1 C.1.2.2.2.2 (gi_V (zm kw_157) (zm kw_158) (zm kw_159) (zm kw_155) (zm kw_156)) rfl rfl rfl (by decide +kernel) ⟨(Nat.le_of_ble_eq_true rfl), (Nat.le_of_ble_eq_true rfl)⟩) rfl rfl dX3_sumNow_4 ⟨(Nat.le_of_ble_eq_true rfl), (Nat.le_of_ble_eq_true rfl)⟩ [] rfl (Nat.le_of_ble_eq_true rfl) rfl hW hS hw) hS (fun x_4 G_4 H locs hw hW hS => ?_)
  refine tr_astore_n (k := 3) (x := x_4) C hl [(3, .inr (.inr x_4)), (2, .inl (0 : Int32)), (0, .inr (.inr v0)), (1, .inl v1)] (by decide) rfl dX3_sumNow_7 (fun ls hl => ?_)
  refine tr_aload_n (k := 3) (x := x_4) C hl 0 rfl dX3_sumNow_8 ?_
  refine tr_len (r := x_4) C dX3_sumNow_9 hW hw (fun x_9 hw => ?_)
  refine tr_istore (x := x_9) C hl [(4, .inl x_9), (3, .inr (.inr x_4)), (2, .inl (0 : Int32)), (0, .inr (.inr v0)), (1, .inl v1)] (by decide) rfl dX3_sumNow_10 (fun ls hl => ?_)
  refine lv_iconst (v := (0 : Int32)) C.1.1 C.1.2.1 dX3_sumNow_12 (by decide) ?_
  refine tr_istore (x := (0 : Int32)) C hl [(5, .inl (0 : Int32)), (4, .inl x_9), (3, .inr (.inr x_4)), (2, .inl (0 : Int32)), (0, .inr (.inr v0)), (1, .inl v1)] (by decide) rfl dX3_sumNow_13 (fun ls hl => ?_)
  obtain ⟨n15, hw⟩ := hw
  exact s_X3_sumNow_15 C hr hll post n15 ((0 : Int32)) x_4 x_9 ((0 : Int32)) _ _ _ _ hW hS (tl_sub hl [3, 2, 1, 0] rfl) hw
end Z_X3_sumNow
set_option maxHeartbeats 4000000 in
set_option maxRecDepth 100000 in
theorem c_X3_sumNow (l : Launch) (hll : l.stackTraces = false) (K : tK) (post : Int32 → tG → Prop) (v0 : Option Nat) (v1 : Int32) : Ct l yX3_sumNow wz_X3_sumNow ({ frames := 2, cells := 1, slots := 12, locals := 45 } : Room) 1 12 [va_rf v0, .int v1] K (retI post) (fun G => w_X3_sumNow K post v0 v1 G) := by
  refine tc_of (cc := cX3_sumNow) (maxL := 7) (ret := (some .int)) (own := RX3) (plainFor_of_name (by decide)) rfl rfl hll [.inr (.inr v0), .inl v1] rfl (Nat.le_of_ble_eq_true rfl) ?_
  intro p e s m args below meth c D A G ls C hr hn ht hl hW hS hw
  exact s_X3_sumNow C hr hll post v0 v1 _ _ _ _ hW hS hl hw

/-! X3_one -/
def wz_X3_one : List Cond := Cond.code yX3_one cX3_one 1 (some .int) :: w0
section Z_X3_one
variable {p : Program} {l : Launch} {e : Env} {s : State} {m : MethodId} {args : Array Value} {below : List Frame} {meth : Method} {c : Code} {D : va_G} {A : Nat → Prop}
set_option maxHeartbeats 4000000 in
set_option maxRecDepth 100000 in
theorem s_X3_one_9 {K : tK} (C : tc_B p l s m args meth c D K A wz_X3_one RX3 cX3_one 1) (hr : meth.sig.returnType = (some .int)) (hll : l.stackTraces = false)  (post : Int32 → tG → Prop) : ∀ (u0 : Int32) (G : tG) (H : Heap) (locs : List Loc) (ls : Array Slot), tg_W D A s H G → va_S A s.heap H locs → tl ls 1 [] → w_X3_one_9 K post u0 G → W p l e ({ frames := 0, cells := 0, slots := 0, locals := 0 } : Room) s m args below meth c H locs 0 0 (MQ below (tc_Qc D A (retI post)) args s 0 0 A) (F0 m 9 ls [.int u0]) := by
  intro u0 G H locs ls hW hS hl hw
  unfold w_X3_one_9 at hw
  exact tr_iret C hr dX3_one_9 (Nat.le_of_ble_eq_true rfl) (Nat.le_of_ble_eq_true rfl) hW hS hw
set_option maxHeartbeats 4000000 in
set_option maxRecDepth 100000 in
theorem s_X3_one {K : tK} (C : tc_B p l s m args meth c D K A wz_X3_one RX3 cX3_one 1) (hr : meth.sig.returnType = (some .int)) (hll : l.stackTraces = false)  (post : Int32 → tG → Prop) (v0 : Int32) : ∀ (G : tG) (H : Heap) (locs : List Loc) (ls : Array Slot), tg_W D A s H G → va_S A s.heap H locs → tl ls 1 [(0, .inl v0)] → w_X3_one K post v0 G → W p l e ({ frames := 0, cells := 0, slots := 0, locals := 0 } : Room) s m args below meth c H locs 0 0 (MQ below (tc_Qc D A (retI post)) args s 0 0 A) (F0 m 0 ls []) := by
  intro G H locs ls hW hS hl hw
  unfold w_X3_one at hw
  refine tr_iload_n (k := 0) (x := v0) C hl 0 rfl dX3_one_0 ?_
  refine lv_if_eq (tgt := 8) C.1.1 C.1.2.1 dX3_one_1 (by decide) (fun hc => ?_) (fun hc => ?_)
  · have hw := hw.1 hc
    refine lv_iconst (v := (0 : Int32)) C.1.1 C.1.2.1 dX3_one_8 (by decide) ?_
    exact s_X3_one_9 C hr hll post ((0 : Int32)) _ _ _ _ hW hS (tl_sub hl [] rfl) hw
  · have hw := hw.2 hc
    refine lv_iconst (v := (1 : Int32)) C.1.1 C.1.2.1 dX3_one_4 (by decide) ?_
    refine lv_goto (tgt := 9) C.1.1 C.1.2.1 dX3_one_5 (by decide) ?_
    exact s_X3_one_9 C hr hll post ((1 : Int32)) _ _ _ _ hW hS (tl_sub hl [] rfl) hw
end Z_X3_one
set_option maxHeartbeats 4000000 in
set_option maxRecDepth 100000 in
theorem c_X3_one (l : Launch) (hll : l.stackTraces = false) (K : tK) (post : Int32 → tG → Prop) (v0 : Int32) : Ct l yX3_one wz_X3_one ({ frames := 0, cells := 0, slots := 0, locals := 0 } : Room) 0 0 [.int v0] K (retI post) (fun G => w_X3_one K post v0 G) := by
  refine tc_of (cc := cX3_one) (maxL := 1) (ret := (some .int)) (own := RX3) (plainFor_of_name (by decide)) rfl rfl hll [.inl v0] rfl (Nat.le_of_ble_eq_true rfl) ?_
  intro p e s m args below meth c D A G ls C hr hn ht hl hW hS hw
  exact s_X3_one C hr hll post v0 _ _ _ _ hW hS hl hw

/-! X3_houseNow -/
def wz_X3_houseNow : List Cond := Cond.code yX3_houseNow cX3_houseNow 4 (some .int) :: w0
section Z_X3_houseNow
variable {p : Program} {l : Launch} {e : Env} {s : State} {m : MethodId} {args : Array Value} {below : List Frame} {meth : Method} {c : Code} {D : va_G} {A : Nat → Prop}
set_option maxHeartbeats 4000000 in
set_option maxRecDepth 100000 in
theorem s_X3_houseNow_26 {K : tK} (C : tc_B p l s m args meth c D K A wz_X3_houseNow RX3 cX3_houseNow 4) (hr : meth.sig.returnType = (some .int)) (hll : l.stackTraces = false)  (post : Int32 → tG → Prop) (k4 : Option Nat → Int32 → Int32 → Int32 → tG → Prop) (hk4 : ∀ (v0 : Option Nat) (v1 : Int32) (v2 : Int32) (v3 : Int32) (G : tG) (H : Heap) (locs : List Loc) (ls : Array Slot), tg_W D A s H G → va_S A s.heap H locs → tl ls 4 [(0, .inr (.inr v0)), (1, .inl v1), (2, .inl v2), (3, .inl v3)] → k4 v0 v1 v2 v3 G → W p l e ({ frames := 1, cells := 1, slots := 4, locals := 20 } : Room) s m args below meth c H locs 0 0 (MQ below (tc_Qc D A (retI post)) args s 1 4 A) (F0 m 4 ls [])) : ∀ (v0 : Option Nat) (v1 : Int32) (v3 : Int32) (u0 : Int32) (u1 : Int32) (G : tG) (H : Heap) (locs : List Loc) (ls : Array Slot), tg_W D A s H G → va_S A s.heap H locs → tl ls 4 [(0, .inr (.inr v0)), (1, .inl v1), (3, .inl v3)] → w_X3_houseNow_26 K post k4 v0 v1 v3 u0 u1 G → W p l e ({ frames := 1, cells := 1, slots := 4, locals := 20 } : Room) s m args below meth c H locs 0 0 (MQ below (tc_Qc D A (retI post)) args s 1 4 A) (F0 m 26 ls [.int u1, .int u0]) := by
  intro v0 v1 v3 u0 u1 G H locs ls hW hS hl hw
  unfold w_X3_houseNow_26 at hw
  refine tr_backI (tr_runS (As := [.int u1]) C hl.1 (c_X3_one l hll K _ u1) (va_cwS 1 C.1.2.2.2.2 (gi_S (zm kw_161) (zm kw_162) (zm kw_155) (zm kw_160)) rfl rfl rfl (by decide +kernel) ⟨(Nat.le_of_ble_eq_true rfl), (Nat.le_of_ble_eq_true rfl)⟩) rfl dX3_houseNow_26 ⟨(Nat.le_of_ble_eq_true rfl), (Nat.le_of_ble_eq_true rfl)⟩ [.inl u0] rfl (Nat.le_of_ble_eq_true rfl) rfl hW hS hw) hS (fun x_26 G_26 H locs hw hW hS => ?_)
  refine lv_iadd C.1.1 C.1.2.1 dX3_houseNow_29 ?_
  refine tr_istore_n (k := 2) (x := (u0 + x_26)) C hl [(2, .inl (u0 + x_26)), (0, .inr (.inr v0)), (1, .inl v1), (3, .inl v3)] (by decide) rfl dX3_houseNow_30 (fun ls hl => ?_)
  refine tr_iinc C hl 3 (v3 + (1 : Int32)) [(3, .inl (v3 + (1 : Int32))), (2, .inl (u0 + x_26)), (0, .inr (.inr v0)), (1, .inl v1)] rfl rfl (by decide) rfl dX3_houseNow_31 (fun ls hl => ?_)
  refine lv_goto (tgt := 4) C.1.1 C.1.2.1 dX3_houseNow_34 (by decide) ?_
  exact hk4 v0 v1 ((u0 + x_26)) ((v3 + (1 : Int32))) _ _ _ _ hW hS (tl_sub hl [2, 3, 1, 0] rfl) hw
set_option maxHeartbeats 4000000 in
set_option maxRecDepth 100000 in
theorem s_X3_houseNow_4_b {K : tK} (C : tc_B p l s m args meth c D K A wz_X3_houseNow RX3 cX3_houseNow 4) (hr : meth.sig.returnType = (some .int)) (hll : l.stackTraces = false)  (post : Int32 → tG → Prop) (k4 : Option Nat → Int32 → Int32 → Int32 → tG → Prop) (hk4 : ∀ (v0 : Option Nat) (v1 : Int32) (v2 : Int32) (v3 : Int32) (G : tG) (H : Heap) (locs : List Loc) (ls : Array Slot), tg_W D A s H G → va_S A s.heap H locs → tl ls 4 [(0, .inr (.inr v0)), (1, .inl v1), (2, .inl v2), (3, .inl v3)] → k4 v0 v1 v2 v3 G → W p l e ({ frames := 1, cells := 1, slots := 4, locals := 20 } : Room) s m args below meth c H locs 0 0 (MQ below (tc_Qc D A (retI post)) args s 1 4 A) (F0 m 4 ls [])) : ∀ (v0 : Option Nat) (v1 : Int32) (v2 : Int32) (v3 : Int32) (G : tG) (H : Heap) (locs : List Loc) (ls : Array Slot), tg_W D A s H G → va_S A s.heap H locs → tl ls 4 [(0, .inr (.inr v0)), (1, .inl v1), (2, .inl v2), (3, .inl v3)] → w_X3_houseNow_4_b K post k4 v0 v1 v2 v3 G → W p l e ({ frames := 1, cells := 1, slots := 4, locals := 20 } : Room) s m args below meth c H locs 0 0 (MQ below (tc_Qc D A (retI post)) args s 1 4 A) (F0 m 4 ls []) := by
  intro v0 v1 v2 v3 G H locs ls hW hS hl hw
  unfold w_X3_houseNow_4_b at hw
  refine tr_iload_n (k := 3) (x := v3) C hl 3 rfl dX3_houseNow_4 ?_
  refine lv_bipush (v := (7 : Int32)) C.1.1 C.1.2.1 dX3_houseNow_5 (by decide) ?_
  refine lv_icmp_ge (tgt := 37) C.1.1 C.1.2.1 dX3_houseNow_7 (by decide) (fun hc => ?_) (fun hc => ?_)
  · have hw := hw.1 hc
    refine lv_iconst (v := (4 : Int32)) C.1.1 C.1.2.1 dX3_houseNow_37 (by decide) ?_
    refine tr_newarr (atype := .int) (ty := .int) (lim := 4) (z := (.inl (fun _ => 0))) C (zm kw_11) rfl (fun _ h => h) (fun _ _ => rfl) (Nat.le_of_ble_eq_true rfl) (Nat.le_of_ble_eq_true rfl) (Nat.le_of_ble_eq_true rfl) dX3_houseNow_38 hW hS hw (fun r_38 G_38 H hw hW hS => ?_)
    refine lv_dup C.1.1 C.1.2.1 dX3_houseNow_40 (va_rf_cat _) ?_
    refine lv_iconst (v := (0 : Int32)) C.1.1 C.1.2.1 dX3_houseNow_41 (by decide) ?_
    refine tr_aload_n (k := 0) (x := v0) C hl 0 rfl dX3_houseNow_42 ?_
    refine tr_gfI (C0 := RX3) (T := TX3) (N := 8) (ci := 5) (ref := "TwinrowModel") (k := 4) (r := v0) C (zh hw_X3) rfl (by decide) (zm kw_163) rfl dX3_houseNow_43 hW hw (fun x_43 hw => ?_)
    refine tr_asI (r := r_38) C dX3_houseNow_46 hW hS hw (fun G_46 H locs hw hW hS => ?_)
    refine lv_dup C.1.1 C.1.2.1 dX3_houseNow_47 (va_rf_cat _) ?_
    refine lv_iconst (v := (1 : Int32)) C.1.1 C.1.2.1 dX3_houseNow_48 (by decide) ?_
    refine tr_aload_n (k := 0) (x := v0) C hl 0 rfl dX3_houseNow_49 ?_
    refine tr_gfI (C0 := RX3) (T := TX3) (N := 8) (ci := 5) (ref := "TwinrowModel") (k := 5) (r := v0) C (zh hw_X3) rfl (by decide) (zm kw_164) rfl dX3_houseNow_50 hW hw (fun x_50 hw => ?_)
    refine tr_asI (r := r_38) C dX3_houseNow_53 hW hS hw (fun G_53 H locs hw hW hS => ?_)
    refine lv_dup C.1.1 C.1.2.1 dX3_houseNow_54 (va_rf_cat _) ?_
    refine lv_iconst (v := (2 : Int32)) C.1.1 C.1.2.1 dX3_houseNow_55 (by decide) ?_
    refine tr_iload_n (k := 2) (x := v2) C hl 2 rfl dX3_houseNow_56 ?_
    refine tr_asI (r := r_38) C dX3_houseNow_57 hW hS hw (fun G_57 H locs hw hW hS => ?_)
    refine lv_dup C.1.1 C.1.2.1 dX3_houseNow_58 (va_rf_cat _) ?_
    refine lv_iconst (v := (3 : Int32)) C.1.1 C.1.2.1 dX3_houseNow_59 (by decide) ?_
    refine tr_aload_n (k := 0) (x := v0) C hl 0 rfl dX3_houseNow_60 ?_
    refine tr_gfR (C0 := RX3) (T := TX3) (N := 8) (ci := 5) (ref := "TwinrowModel") (k := 0) (r := v0) C (zh hw_X3) rfl (by decide) (zm kw_21) rfl dX3_houseNow_61 hW hw (fun x_61 hw => ?_)
    refine lv_iconst (v := (0 : Int32)) C.1.1 C.1.2.1 dX3_houseNow_64 (by decide) ?_
    refine tr_alR (ty := .array .int) C dX3_houseNow_65 hW rfl hw (fun x_65 hw => ?_)
    refine tr_len (r := x_65) C dX3_houseNow_66 hW hw (fun x_66 hw => ?_)
    refine tr_aload_n (k := 0) (x := v0) C hl 0 rfl dX3_houseNow_67 ?_
    refine tr_gfR (C0 := RX3) (T := TX3) (N := 8) (ci := 5) (ref := "TwinrowModel") (k := 0) (r := v0) C (zh hw_X3) rfl (by decide) (zm kw_21) rfl dX3_houseNow_68 hW hw (fun x_68 hw => ?_)
    refine lv_iconst (v := (1 : Int32)) C.1.1 C.1.2.1 dX3_houseNow_71 (by decide) ?_
    refine tr_alR (ty := .array .int) C dX3_houseNow_72 hW rfl hw (fun x_72 hw => ?_)
    refine tr_len (r := x_72) C dX3_houseNow_73 hW hw (fun x_73 hw => ?_)
    refine lv_iadd C.1.1 C.1.2.1 dX3_houseNow_74 ?_
    refine tr_aload_n (k := 0) (x := v0) C hl 0 rfl dX3_houseNow_75 ?_
    refine tr_gfR (C0 := RX3) (T := TX3) (N := 8) (ci := 5) (ref := "TwinrowModel") (k := 0) (r := v0) C (zh hw_X3) rfl (by decide) (zm kw_21) rfl dX3_houseNow_76 hW hw (fun x_76 hw => ?_)
    refine lv_iconst (v := (2 : Int32)) C.1.1 C.1.2.1 dX3_houseNow_79 (by decide) ?_
    refine tr_alR (ty := .array .int) C dX3_houseNow_80 hW rfl hw (fun x_80 hw => ?_)
    refine tr_len (r := x_80) C dX3_houseNow_81 hW hw (fun x_81 hw => ?_)
    refine lv_iadd C.1.1 C.1.2.1 dX3_houseNow_82 ?_
    refine tr_asI (r := r_38) C dX3_houseNow_83 hW hS hw (fun G_83 H locs hw hW hS => ?_)
    refine tr_astore_n (k := 3) (x := r_38) C hl [(3, .inr (.inr r_38)), (0, .inr (.inr v0)), (1, .inl v1), (2, .inl v2)] (by decide) rfl dX3_houseNow_84 (fun ls hl => ?_)
    refine tr_aload_n (k := 3) (x := r_38) C hl 0 rfl dX3_houseNow_85 ?_
    refine tr_iload_n (k := 1) (x := v1) C hl 2 rfl dX3_houseNow_86 ?_
    refine tr_alI (r := r_38) C dX3_houseNow_87 hW hw (fun x_87 hw => ?_)
    exact tr_iret C hr dX3_houseNow_88 (Nat.le_of_ble_eq_true rfl) (Nat.le_of_ble_eq_true rfl) hW hS hw
  · have hw := hw.2 hc
    refine tr_iload_n (k := 2) (x := v2) C hl 2 rfl dX3_houseNow_10 ?_
    refine tr_aload_n (k := 0) (x := v0) C hl 0 rfl dX3_houseNow_11 ?_
    refine tr_gfR (C0 := RX3) (T := TX3) (N := 8) (ci := 5) (ref := "TwinrowModel") (k := 1) (r := v0) C (zh hw_X3) rfl (by decide) (zm kw_22) rfl dX3_houseNow_12 hW hw (fun x_12 hw => ?_)
    refine tr_iload_n (k := 3) (x := v3) C hl 3 rfl dX3_houseNow_15 ?_
    refine tr_alI (r := x_12) C dX3_houseNow_16 hW hw (fun x_16 hw => ?_)
    refine lv_iconst (v := (-1 : Int32)) C.1.1 C.1.2.1 dX3_houseNow_17 (by decide) ?_
    refine lv_icmp_eq (tgt := 25) C.1.1 C.1.2.1 dX3_houseNow_18 (by decide) (fun hc => ?_) (fun hc => ?_)
    · have hw := hw.1 hc
      refine lv_iconst (v := (0 : Int32)) C.1.1 C.1.2.1 dX3_houseNow_25 (by decide) ?_
      exact s_X3_houseNow_26 C hr hll post k4 hk4 v0 v1 v3 v2 ((0 : Int32)) _ _ _ _ hW hS (tl_sub hl [0, 1, 3] rfl) hw
    · have hw := hw.2 hc
      refine lv_iconst (v := (1 : Int32)) C.1.1 C.1.2.1 dX3_houseNow_21 (by decide) ?_
      refine lv_goto (tgt := 26) C.1.1 C.1.2.1 dX3_houseNow_22 (by decide) ?_
      exact s_X3_houseNow_26 C hr hll post k4 hk4 v0 v1 v3 v2 ((1 : Int32)) _ _ _ _ hW hS (tl_sub hl [0, 1, 3] rfl) hw
set_option maxHeartbeats 4000000 in
set_option maxRecDepth 100000 in
theorem s_X3_houseNow_4 {K : tK} (C : tc_B p l s m args meth c D K A wz_X3_houseNow RX3 cX3_houseNow 4) (hr : meth.sig.returnType = (some .int)) (hll : l.stackTraces = false)  (post : Int32 → tG → Prop) : ∀ (n : Nat) (v0 : Option Nat) (v1 : Int32) (v2 : Int32) (v3 : Int32) (G : tG) (H : Heap) (locs : List Loc) (ls : Array Slot), tg_W D A s H G → va_S A s.heap H locs → tl ls 4 [(0, .inr (.inr v0)), (1, .inl v1), (2, .inl v2), (3, .inl v3)] → w_X3_houseNow_4 K post n v0 v1 v2 v3 G → W p l e ({ frames := 1, cells := 1, slots := 4, locals := 20 } : Room) s m args below meth c H locs 0 0 (MQ below (tc_Qc D A (retI post)) args s 1 4 A) (F0 m 4 ls []) := by
  intro n
  induction n with
  | zero =>
    intro v0 v1 v2 v3 G H locs ls hW hS hl hw
    exact hw.elim
  | succ n ih => exact s_X3_houseNow_4_b C hr hll post _ ih
set_option maxHeartbeats 4000000 in
set_option maxRecDepth 100000 in
theorem s_X3_houseNow {K : tK} (C : tc_B p l s m args meth c D K A wz_X3_houseNow RX3 cX3_houseNow 4) (hr : meth.sig.returnType = (some .int)) (hll : l.stackTraces = false)  (post : Int32 → tG → Prop) (v0 : Option Nat) (v1 : Int32) : ∀ (G : tG) (H : Heap) (locs : List Loc) (ls : Array Slot), tg_W D A s H G → va_S A s.heap H locs → tl ls 4 [(0, .inr (.inr v0)), (1, .inl v1)] → w_X3_houseNow K post v0 v1 G → W p l e ({ frames := 1, cells := 1, slots := 4, locals := 20 } : Room) s m args below meth c H locs 0 0 (MQ below (tc_Qc D A (retI post)) args s 1 4 A) (F0 m 0 ls []) := by
  intro G H locs ls hW hS hl hw
  unfold w_X3_houseNow at hw
  refine lv_iconst (v := (0 : Int32)) C.1.1 C.1.2.1 dX3_houseNow_0 (by decide) ?_
  refine tr_istore_n (k := 2) (x := (0 : Int32)) C hl [(2, .inl (0 : Int32)), (0, .inr (.inr v0)), (1, .inl v1)] (by decide) rfl dX3_houseNow_1 (fun ls hl => ?_)
  refine lv_iconst (v := (3 : Int32)) C.1.1 C.1.2.1 dX3_houseNow_2 (by decide) ?_
  refine tr_istore_n (k := 3) (x := (3 : Int32)) C hl [(3, .inl (3 : Int32)), (2, .inl (0 : Int32)), (0, .inr (.inr v0)), (1, .inl v1)] (by decide) rfl dX3_houseNow_3 (fun ls hl => ?_)
  obtain ⟨n4, hw⟩ := hw
  exact s_X3_houseNow_4 C hr hll post n4 v0 v1 ((0 : Int32)) ((3 : Int32)) _ _ _ _ hW hS (tl_sub hl [2, 3, 1, 0] rfl) hw
end Z_X3_houseNow
set_option maxHeartbeats 4000000 in
set_option maxRecDepth 100000 in
theorem c_X3_houseNow (l : Launch) (hll : l.stackTraces = false) (K : tK) (post : Int32 → tG → Prop) (v0 : Option Nat) (v1 : Int32) : Ct l yX3_houseNow wz_X3_houseNow ({ frames := 1, cells := 1, slots := 4, locals := 20 } : Room) 1 4 [va_rf v0, .int v1] K (retI post) (fun G => w_X3_houseNow K post v0 v1 G) := by
  refine tc_of (cc := cX3_houseNow) (maxL := 4) (ret := (some .int)) (own := RX3) (plainFor_of_name (by decide)) rfl rfl hll [.inr (.inr v0), .inl v1] rfl (Nat.le_of_ble_eq_true rfl) ?_
  intro p e s m args below meth c D A G ls C hr hn ht hl hW hS hw
  exact s_X3_houseNow C hr hll post v0 v1 _ _ _ _ hW hS hl hw

/-! X3_digest -/
def wz_X3_digest : List Cond := Cond.code yX3_digest cX3_digest 9 (some .long) :: w0
section Z_X3_digest
variable {p : Program} {l : Launch} {e : Env} {s : State} {m : MethodId} {args : Array Value} {below : List Frame} {meth : Method} {c : Code} {D : va_G} {A : Nat → Prop}
set_option maxHeartbeats 4000000 in
set_option maxRecDepth 100000 in
theorem s_X3_digest_75_b {K : tK} (C : tc_B p l s m args meth c D K A wz_X3_digest RX3 cX3_digest 9) (hr : meth.sig.returnType = (some .long)) (hll : l.stackTraces = false)  (post : Int64 → tG → Prop) (k45 : Nat → Nat → Option Nat → Option Nat → Int32 → Int32 → tG → Prop) (hk45 : ∀ (nc ns : Nat) (v0 : Option Nat) (v1 : Option Nat) (v2 : Int32) (v3 : Int32) (G : tG) (H : Heap) (locs : List Loc) (ls : Array Slot), nc ≤ 20 ∧ ns ≤ 200 → tg_W D A s H G → va_S A s.heap H locs → tl ls 9 [(0, .inr (.inr v0)), (1, .inr (.inr v1)), (2, .inl v2), (3, .inl v3)] → k45 nc ns v0 v1 v2 v3 G → W p l e ({ frames := 3, cells := 20, slots := 200, locals := 71 } : Room) s m args below meth c H locs nc ns (MQ below (tc_Qc D A (retL post)) args s 20 200 A) (F0 m 45 ls [])) (k75 : Nat → Nat → Option Nat → Option Nat → Int32 → Int32 → Option Nat → Int32 → Int32 → tG → Prop) (hk75 : ∀ (nc ns : Nat) (v0 : Option Nat) (v1 : Option Nat) (v2 : Int32) (v3 : Int32) (v5 : Option Nat) (v6 : Int32) (v7 : Int32) (G : tG) (H : Heap) (locs : List Loc) (ls : Array Slot), nc ≤ 20 ∧ ns ≤ 200 → tg_W D A s H G → va_S A s.heap H locs → tl ls 9 [(0, .inr (.inr v0)), (1, .inr (.inr v1)), (2, .inl v2), (3, .inl v3), (5, .inr (.inr v5)), (6, .inl v6), (7, .inl v7)] → k75 nc ns v0 v1 v2 v3 v5 v6 v7 G → W p l e ({ frames := 3, cells := 20, slots := 200, locals := 71 } : Room) s m args below meth c H locs nc ns (MQ below (tc_Qc D A (retL post)) args s 20 200 A) (F0 m 75 ls [])) : ∀ (nc ns : Nat) (v0 : Option Nat) (v1 : Option Nat) (v2 : Int32) (v3 : Int32) (v5 : Option Nat) (v6 : Int32) (v7 : Int32) (G : tG) (H : Heap) (locs : List Loc) (ls : Array Slot), nc ≤ 20 ∧ ns ≤ 200 → tg_W D A s H G → va_S A s.heap H locs → tl ls 9 [(0, .inr (.inr v0)), (1, .inr (.inr v1)), (2, .inl v2), (3, .inl v3), (5, .inr (.inr v5)), (6, .inl v6), (7, .inl v7)] → w_X3_digest_75_b K post k45 k75 nc ns v0 v1 v2 v3 v5 v6 v7 G → W p l e ({ frames := 3, cells := 20, slots := 200, locals := 71 } : Room) s m args below meth c H locs nc ns (MQ below (tc_Qc D A (retL post)) args s 20 200 A) (F0 m 75 ls []) := by
  intro nc ns v0 v1 v2 v3 v5 v6 v7 G H locs ls hcn hW hS hl hw
  unfold w_X3_digest_75_b at hw
  refine tr_iload (x := v7) C hl 6 rfl dX3_digest_75 ?_
  refine tr_iload (x := v6) C hl 5 rfl dX3_digest_77 ?_
  refine lv_icmp_ge (tgt := 102) C.1.1 C.1.2.1 dX3_digest_79 (by decide) (fun hc => ?_) (fun hc => ?_)
  · have hw := hw.1 hc
    refine tr_iinc C hl 3 (v3 + (1 : Int32)) [(3, .inl (v3 + (1 : Int32))), (0, .inr (.inr v0)), (1, .inr (.inr v1)), (2, .inl v2), (5, .inr (.inr v5)), (6, .inl v6), (7, .inl v7)] rfl rfl (by decide) rfl dX3_digest_102 (fun ls hl => ?_)
    refine lv_goto (tgt := 45) C.1.1 C.1.2.1 dX3_digest_105 (by decide) ?_
    exact hk45 nc ns v0 v1 v2 ((v3 + (1 : Int32))) _ _ _ _ (show nc ≤ 20 ∧ ns ≤ 200 by omega) hW hS (tl_sub hl [1, 2, 3, 0] rfl) hw
  · have hw := hw.2 hc
    refine tr_aload (x := v5) C hl 4 rfl dX3_digest_82 ?_
    refine tr_iload (x := v7) C hl 6 rfl dX3_digest_84 ?_
    refine tr_alI (r := v5) C dX3_digest_86 hW hw (fun x_86 hw => ?_)
    refine tr_istore (x := x_86) C hl [(8, .inl x_86), (0, .inr (.inr v0)), (1, .inr (.inr v1)), (2, .inl v2), (3, .inl v3), (5, .inr (.inr v5)), (6, .inl v6), (7, .inl v7)] (by decide) rfl dX3_digest_87 (fun ls hl => ?_)
    refine tr_aload_n (k := 0) (x := v0) C hl 1 rfl dX3_digest_89 ?_
    refine tr_iload (x := x_86) C hl 0 rfl dX3_digest_90 ?_
    refine lv_i2l (v := ((x_86).toInt64)) C.1.1 C.1.2.1 dX3_digest_92 rfl ?_
    refine tr_backV (tr_runV (r := v0) (As := [.long (((x_86).toInt64))]) C hl.1 (c_X3_add_ l hll K _ v0 (((x_86).toInt64))) (cwV 1 C.1.2.2.2.2 (gi_V (zm kw_166) (zm kw_167) (zm kw_168) (zm kw_155) (zm kw_165)) rfl rfl rfl (by decide +kernel) ⟨(Nat.le_of_ble_eq_true rfl), (Nat.le_of_ble_eq_true rfl)⟩) rfl rfl dX3_digest_93 ⟨(show nc + 0 ≤ 20 by omega), (show ns + 0 ≤ 200 by omega)⟩ [] rfl (Nat.le_of_ble_eq_true rfl) rfl hW hS hw) hS (fun G_93 H locs hw hW hS => ?_)
    refine tr_iinc C hl 7 (v7 + (1 : Int32)) [(7, .inl (v7 + (1 : Int32))), (8, .inl x_86), (0, .inr (.inr v0)), (1, .inr (.inr v1)), (2, .inl v2), (3, .inl v3), (5, .inr (.inr v5)), (6, .inl v6)] rfl rfl (by decide) rfl dX3_digest_96 (fun ls hl => ?_)
    refine lv_goto (tgt := 75) C.1.1 C.1.2.1 dX3_digest_99 (by decide) ?_
    exact hk75 nc ns v0 v1 v2 v3 v5 v6 ((v7 + (1 : Int32))) _ _ _ _ (show nc ≤ 20 ∧ ns ≤ 200 by omega) hW hS (tl_sub hl [2, 3, 4, 5, 6, 7, 0] rfl) hw
set_option maxHeartbeats 4000000 in
set_option maxRecDepth 100000 in
theorem s_X3_digest_75 {K : tK} (C : tc_B p l s m args meth c D K A wz_X3_digest RX3 cX3_digest 9) (hr : meth.sig.returnType = (some .long)) (hll : l.stackTraces = false)  (post : Int64 → tG → Prop) (k45 : Nat → Nat → Option Nat → Option Nat → Int32 → Int32 → tG → Prop) (hk45 : ∀ (nc ns : Nat) (v0 : Option Nat) (v1 : Option Nat) (v2 : Int32) (v3 : Int32) (G : tG) (H : Heap) (locs : List Loc) (ls : Array Slot), nc ≤ 20 ∧ ns ≤ 200 → tg_W D A s H G → va_S A s.heap H locs → tl ls 9 [(0, .inr (.inr v0)), (1, .inr (.inr v1)), (2, .inl v2), (3, .inl v3)] → k45 nc ns v0 v1 v2 v3 G → W p l e ({ frames := 3, cells := 20, slots := 200, locals := 71 } : Room) s m args below meth c H locs nc ns (MQ below (tc_Qc D A (retL post)) args s 20 200 A) (F0 m 45 ls [])) : ∀ (n : Nat) (nc ns : Nat) (v0 : Option Nat) (v1 : Option Nat) (v2 : Int32) (v3 : Int32) (v5 : Option Nat) (v6 : Int32) (v7 : Int32) (G : tG) (H : Heap) (locs : List Loc) (ls : Array Slot), nc ≤ 20 ∧ ns ≤ 200 → tg_W D A s H G → va_S A s.heap H locs → tl ls 9 [(0, .inr (.inr v0)), (1, .inr (.inr v1)), (2, .inl v2), (3, .inl v3), (5, .inr (.inr v5)), (6, .inl v6), (7, .inl v7)] → w_X3_digest_75 K post k45 n nc ns v0 v1 v2 v3 v5 v6 v7 G → W p l e ({ frames := 3, cells := 20, slots := 200, locals := 71 } : Room) s m args below meth c H locs nc ns (MQ below (tc_Qc D A (retL post)) args s 20 200 A) (F0 m 75 ls []) := by
  intro n
  induction n with
  | zero =>
    intro nc ns v0 v1 v2 v3 v5 v6 v7 G H locs ls hcn hW hS hl hw
    exact hw.elim
  | succ n ih => exact s_X3_digest_75_b C hr hll post k45 hk45 _ ih
set_option maxHeartbeats 4000000 in
set_option maxRecDepth 100000 in
theorem s_X3_digest_181 {K : tK} (C : tc_B p l s m args meth c D K A wz_X3_digest RX3 cX3_digest 9) (hr : meth.sig.returnType = (some .long)) (hll : l.stackTraces = false)  (post : Int64 → tG → Prop) (k110 : Nat → Nat → Option Nat → Int32 → tG → Prop) (hk110 : ∀ (nc ns : Nat) (v0 : Option Nat) (v1 : Int32) (G : tG) (H : Heap) (locs : List Loc) (ls : Array Slot), nc ≤ 20 ∧ ns ≤ 200 → tg_W D A s H G → va_S A s.heap H locs → tl ls 9 [(0, .inr (.inr v0)), (1, .inl v1)] → k110 nc ns v0 v1 G → W p l e ({ frames := 3, cells := 20, slots := 200, locals := 71 } : Room) s m args below meth c H locs nc ns (MQ below (tc_Qc D A (retL post)) args s 20 200 A) (F0 m 110 ls [])) : ∀ (nc ns : Nat) (v0 : Option Nat) (v1 : Int32) (G : tG) (H : Heap) (locs : List Loc) (ls : Array Slot), nc ≤ 20 ∧ ns ≤ 200 → tg_W D A s H G → va_S A s.heap H locs → tl ls 9 [(0, .inr (.inr v0)), (1, .inl v1)] → w_X3_digest_181 K post k110 nc ns v0 v1 G → W p l e ({ frames := 3, cells := 20, slots := 200, locals := 71 } : Room) s m args below meth c H locs nc ns (MQ below (tc_Qc D A (retL post)) args s 20 200 A) (F0 m 181 ls []) := by
  intro nc ns v0 v1 G H locs ls hcn hW hS hl hw
  unfold w_X3_digest_181 at hw
  refine tr_iinc C hl 1 (v1 + (1 : Int32)) [(1, .inl (v1 + (1 : Int32))), (0, .inr (.inr v0))] rfl rfl (by decide) rfl dX3_digest_181 (fun ls hl => ?_)
  refine lv_goto (tgt := 110) C.1.1 C.1.2.1 dX3_digest_184 (by decide) ?_
  exact hk110 nc ns v0 ((v1 + (1 : Int32))) _ _ _ _ (show nc ≤ 20 ∧ ns ≤ 200 by omega) hW hS (tl_sub hl [1, 0] rfl) hw
set_option maxHeartbeats 4000000 in
set_option maxRecDepth 100000 in
theorem s_X3_digest_110_b {K : tK} (C : tc_B p l s m args meth c D K A wz_X3_digest RX3 cX3_digest 9) (hr : meth.sig.returnType = (some .long)) (hll : l.stackTraces = false)  (post : Int64 → tG → Prop) (k110 : Nat → Nat → Option Nat → Int32 → tG → Prop) (hk110 : ∀ (nc ns : Nat) (v0 : Option Nat) (v1 : Int32) (G : tG) (H : Heap) (locs : List Loc) (ls : Array Slot), nc ≤ 20 ∧ ns ≤ 200 → tg_W D A s H G → va_S A s.heap H locs → tl ls 9 [(0, .inr (.inr v0)), (1, .inl v1)] → k110 nc ns v0 v1 G → W p l e ({ frames := 3, cells := 20, slots := 200, locals := 71 } : Room) s m args below meth c H locs nc ns (MQ below (tc_Qc D A (retL post)) args s 20 200 A) (F0 m 110 ls [])) : ∀ (nc ns : Nat) (v0 : Option Nat) (v1 : Int32) (G : tG) (H : Heap) (locs : List Loc) (ls : Array Slot), nc ≤ 20 ∧ ns ≤ 200 → tg_W D A s H G → va_S A s.heap H locs → tl ls 9 [(0, .inr (.inr v0)), (1, .inl v1)] → w_X3_digest_110_b K post k110 nc ns v0 v1 G → W p l e ({ frames := 3, cells := 20, slots := 200, locals := 71 } : Room) s m args below meth c H locs nc ns (MQ below (tc_Qc D A (retL post)) args s 20 200 A) (F0 m 110 ls []) := by
  intro nc ns v0 v1 G H locs ls hcn hW hS hl hw
  unfold w_X3_digest_110_b at hw
  refine tr_iload_n (k := 1) (x := v1) C hl 1 rfl dX3_digest_110 ?_
  refine lv_bipush (v := (7 : Int32)) C.1.1 C.1.2.1 dX3_digest_111 (by decide) ?_
  refine lv_icmp_ge (tgt := 187) C.1.1 C.1.2.1 dX3_digest_113 (by decide) (fun hc => ?_) (fun hc => ?_)
  · have hw := hw.1 hc
    refine tr_aload_n (k := 0) (x := v0) C hl 0 rfl dX3_digest_187 ?_
    refine lv_lconst (v := (1 : Int64)) C.1.1 C.1.2.1 dX3_digest_188 (by decide) ?_
    refine tr_backV (tr_runV (r := v0) (As := [.long ((1 : Int64))]) C hl.1 (c_X3_add_ l hll K _ v0 ((1 : Int64))) (cwV 1 C.1.2.2.2.2 (gi_V (zm kw_166) (zm kw_167) (zm kw_168) (zm kw_155) (zm kw_165)) rfl rfl rfl (by decide +kernel) ⟨(Nat.le_of_ble_eq_true rfl), (Nat.le_of_ble_eq_true rfl)⟩) rfl rfl dX3_digest_189 ⟨(show nc + 0 ≤ 20 by omega), (show ns + 0 ≤ 200 by omega)⟩ [] rfl (Nat.le_of_ble_eq_true rfl) rfl hW hS hw) hS (fun G_189 H locs hw hW hS => ?_)
    refine tr_aload_n (k := 0) (x := v0) C hl 0 rfl dX3_digest_192 ?_
    refine tr_gfL (C0 := RX3) (T := TX3) (N := 8) (ci := 5) (ref := "TwinrowModel") (k := 7) (r := v0) C (zh hw_X3) rfl (by decide) (zm kw_149) rfl dX3_digest_193 hW hw (fun x_193 hw => ?_)
    exact tr_lret C hr dX3_digest_196 (show nc ≤ 20 by omega) (show ns ≤ 200 by omega) hW hS hw
  · have hw := hw.2 hc
    refine tr_aload_n (k := 0) (x := v0) C hl 0 rfl dX3_digest_116 ?_
    refine tr_aload_n (k := 0) (x := v0) C hl 0 rfl dX3_digest_117 ?_
    refine tr_gfR (C0 := RX3) (T := TX3) (N := 8) (ci := 5) (ref := "TwinrowModel") (k := 1) (r := v0) C (zh hw_X3) rfl (by decide) (zm kw_22) rfl dX3_digest_118 hW hw (fun x_118 hw => ?_)
    refine tr_iload_n (k := 1) (x := v1) C hl 1 rfl dX3_digest_121 ?_
    refine tr_alI (r := x_118) C dX3_digest_122 hW hw (fun x_122 hw => ?_)
    refine lv_i2l (v := ((x_122).toInt64)) C.1.1 C.1.2.1 dX3_digest_123 rfl ?_
    refine tr_backV (tr_runV (r := v0) (As := [.long (((x_122).toInt64))]) C hl.1 (c_X3_add_ l hll K _ v0 (((x_122).toInt64))) (cwV 1 C.1.2.2.2.2 (gi_V (zm kw_166) (zm kw_167) (zm kw_168) (zm kw_155) (zm kw_165)) rfl rfl rfl (by decide +kernel) ⟨(Nat.le_of_ble_eq_true rfl), (Nat.le_of_ble_eq_true rfl)⟩) rfl rfl dX3_digest_124 ⟨(show nc + 0 ≤ 20 by omega), (show ns + 0 ≤ 200 by omega)⟩ [] rfl (Nat.le_of_ble_eq_true rfl) rfl hW hS hw) hS (fun G_124 H locs hw hW hS => ?_)
    refine tr_aload_n (k := 0) (x := v0) C hl 0 rfl dX3_digest_127 ?_
    refine tr_aload_n (k := 0) (x := v0) C hl 0 rfl dX3_digest_128 ?_
    refine tr_iload_n (k := 1) (x := v1) C hl 1 rfl dX3_digest_129 ?_
    refine tr_backI (tr_runV (r := v0) (As := [.int v1]) C hl.1 (c_X3_beginNow l hll K _ v0 v1) (cwV 1 C.1.2.2.2.2 (gi_V (zm kw_170) (zm kw_171) (zm kw_172) (zm kw_155) (zm kw_169)) rfl rfl rfl (by decide +kernel) ⟨(Nat.le_of_ble_eq_true rfl), (Nat.le_of_ble_eq_true rfl)⟩) rfl rfl dX3_digest_130 ⟨(show nc + 0 ≤ 20 by omega), (show ns + 0 ≤ 200 by omega)⟩ [.inr (.inr v0)] rfl (Nat.le_of_ble_eq_true rfl) rfl hW hS hw) hS (fun x_130 G_130 H locs hw hW hS => ?_)
    refine lv_i2l (v := ((x_130).toInt64)) C.1.1 C.1.2.1 dX3_digest_133 rfl ?_
    refine tr_backV (tr_runV (r := v0) (As := [.long (((x_130).toInt64))]) C hl.1 (c_X3_add_ l hll K _ v0 (((x_130).toInt64))) (cwV 1 C.1.2.2.2.2 (gi_V (zm kw_166) (zm kw_167) (zm kw_168) (zm kw_155) (zm kw_165)) rfl rfl rfl (by decide +kernel) ⟨(Nat.le_of_ble_eq_true rfl), (Nat.le_of_ble_eq_true rfl)⟩) rfl rfl dX3_digest_134 ⟨(show nc + 0 ≤ 20 by omega), (show ns + 0 ≤ 200 by omega)⟩ [] rfl (Nat.le_of_ble_eq_true rfl) rfl hW hS hw) hS (fun G_134 H locs hw hW hS => ?_)
    refine tr_aload_n (k := 0) (x := v0) C hl 0 rfl dX3_digest_137 ?_
    refine tr_gfR (C0 := RX3) (T := TX3) (N := 8) (ci := 5) (ref := "TwinrowModel") (k := 1) (r := v0) C (zh hw_X3) rfl (by decide) (zm kw_22) rfl dX3_digest_138 hW hw (fun x_138 hw => ?_)
    refine tr_iload_n (k := 1) (x := v1) C hl 1 rfl dX3_digest_141 ?_
    refine tr_alI (r := x_138) C dX3_digest_142 hW hw (fun x_142 hw => ?_)
    refine lv_iconst (v := (-1 : Int32)) C.1.1 C.1.2.1 dX3_digest_143 (by decide) ?_
    refine lv_icmp_ne (tgt := 150) C.1.1 C.1.2.1 dX3_digest_144 (by decide) (fun hc => ?_) (fun hc => ?_)
    · have hw := hw.1 hc
      refine tr_aload_n (k := 0) (x := v0) C hl 0 rfl dX3_digest_150 ?_
      refine tr_aload_n (k := 0) (x := v0) C hl 0 rfl dX3_digest_151 ?_
      refine tr_gfR (C0 := RX3) (T := TX3) (N := 8) (ci := 5) (ref := "TwinrowModel") (k := 3) (r := v0) C (zh hw_X3) rfl (by decide) (zm kw_24) rfl dX3_digest_152 hW hw (fun x_152 hw => ?_)
      refine tr_iload_n (k := 1) (x := v1) C hl 1 rfl dX3_digest_155 ?_
      refine tr_alI (r := x_152) C dX3_digest_156 hW hw (fun x_156 hw => ?_)
      refine lv_i2l (v := ((x_156).toInt64)) C.1.1 C.1.2.1 dX3_digest_157 rfl ?_
      refine tr_backV (tr_runV (r := v0) (As := [.long (((x_156).toInt64))]) C hl.1 (c_X3_add_ l hll K _ v0 (((x_156).toInt64))) (cwV 1 C.1.2.2.2.2 (gi_V (zm kw_166) (zm kw_167) (zm kw_168) (zm kw_155) (zm kw_165)) rfl rfl rfl (by decide +kernel) ⟨(Nat.le_of_ble_eq_true rfl), (Nat.le_of_ble_eq_true rfl)⟩) rfl rfl dX3_digest_158 ⟨(show nc + 0 ≤ 20 by omega), (show ns + 0 ≤ 200 by omega)⟩ [] rfl (Nat.le_of_ble_eq_true rfl) rfl hW hS hw) hS (fun G_158 H locs hw hW hS => ?_)
      refine tr_aload_n (k := 0) (x := v0) C hl 0 rfl dX3_digest_161 ?_
      refine tr_aload_n (k := 0) (x := v0) C hl 0 rfl dX3_digest_162 ?_
      refine tr_iload_n (k := 1) (x := v1) C hl 1 rfl dX3_digest_163 ?_
      have hq1 := hw.1
      have hw := hw.2
      refine tr_backI (tr_runV (r := v0) (As := [.int v1]) C hl.1 (c_X3_codeNow l hll K _ v0 v1) (cwV 1 C.1.2.2.2.2 (gi_V (zm kw_174) (zm kw_175) (zm kw_176) (zm kw_155) (zm kw_173)) rfl rfl rfl (by decide +kernel) ⟨(Nat.le_of_ble_eq_true rfl), (Nat.le_of_ble_eq_true rfl)⟩) rfl rfl dX3_digest_164 ⟨hq1.1, hq1.2⟩ [.inr (.inr v0)] rfl (Nat.le_of_ble_eq_true rfl) rfl hW hS hw) hS (fun x_164 G_164 H locs hw hW hS => ?_)
      refine lv_i2l (v := ((x_164).toInt64)) C.1.1 C.1.2.1 dX3_digest_167 rfl ?_
      refine tr_backV (tr_runV (r := v0) (As := [.long (((x_164).toInt64))]) C hl.1 (c_X3_add_ l hll K _ v0 (((x_164).toInt64))) (cwV 1 C.1.2.2.2.2 (gi_V (zm kw_166) (zm kw_167) (zm kw_168) (zm kw_155) (zm kw_165)) rfl rfl rfl (by decide +kernel) ⟨(Nat.le_of_ble_eq_true rfl), (Nat.le_of_ble_eq_true rfl)⟩) rfl rfl dX3_digest_168 ⟨(show (nc + 1) + 0 ≤ 20 by omega), (show (ns + 12) + 0 ≤ 200 by omega)⟩ [] rfl (Nat.le_of_ble_eq_true rfl) rfl hW hS hw) hS (fun G_168 H locs hw hW hS => ?_)
      refine tr_aload_n (k := 0) (x := v0) C hl 0 rfl dX3_digest_171 ?_
      refine tr_aload_n (k := 0) (x := v0) C hl 0 rfl dX3_digest_172 ?_
      refine tr_iload_n (k := 1) (x := v1) C hl 1 rfl dX3_digest_173 ?_
      have hq2 := hw.1
      have hw := hw.2
      refine tr_backI (tr_runV (r := v0) (As := [.int v1]) C hl.1 (c_X3_sumNow l hll K _ v0 v1) (cwV 1 C.1.2.2.2.2 (gi_V (zm kw_178) (zm kw_179) (zm kw_180) (zm kw_155) (zm kw_177)) rfl rfl rfl (by decide +kernel) ⟨(Nat.le_of_ble_eq_true rfl), (Nat.le_of_ble_eq_true rfl)⟩) rfl rfl dX3_digest_174 ⟨hq2.1, hq2.2⟩ [.inr (.inr v0)] rfl (Nat.le_of_ble_eq_true rfl) rfl hW hS hw) hS (fun x_174 G_174 H locs hw hW hS => ?_)
      refine lv_i2l (v := ((x_174).toInt64)) C.1.1 C.1.2.1 dX3_digest_177 rfl ?_
      refine tr_backV (tr_runV (r := v0) (As := [.long (((x_174).toInt64))]) C hl.1 (c_X3_add_ l hll K _ v0 (((x_174).toInt64))) (cwV 1 C.1.2.2.2.2 (gi_V (zm kw_166) (zm kw_167) (zm kw_168) (zm kw_155) (zm kw_165)) rfl rfl rfl (by decide +kernel) ⟨(Nat.le_of_ble_eq_true rfl), (Nat.le_of_ble_eq_true rfl)⟩) rfl rfl dX3_digest_178 ⟨(show ((nc + 1) + 1) + 0 ≤ 20 by omega), (show ((ns + 12) + 12) + 0 ≤ 200 by omega)⟩ [] rfl (Nat.le_of_ble_eq_true rfl) rfl hW hS hw) hS (fun G_178 H locs hw hW hS => ?_)
      exact s_X3_digest_181 C hr hll post k110 hk110 (((nc + 1) + 1)) (((ns + 12) + 12)) v0 v1 _ _ _ _ (show ((nc + 1) + 1) ≤ 20 ∧ ((ns + 12) + 12) ≤ 200 by omega) hW hS (tl_sub hl [0, 1] rfl) hw
    · have hw := hw.2 hc
      refine lv_goto (tgt := 181) C.1.1 C.1.2.1 dX3_digest_147 (by decide) ?_
      exact s_X3_digest_181 C hr hll post k110 hk110 nc ns v0 v1 _ _ _ _ (show nc ≤ 20 ∧ ns ≤ 200 by omega) hW hS (tl_sub hl [0, 1] rfl) hw
set_option maxHeartbeats 4000000 in
set_option maxRecDepth 100000 in
theorem s_X3_digest_110 {K : tK} (C : tc_B p l s m args meth c D K A wz_X3_digest RX3 cX3_digest 9) (hr : meth.sig.returnType = (some .long)) (hll : l.stackTraces = false)  (post : Int64 → tG → Prop) : ∀ (n : Nat) (nc ns : Nat) (v0 : Option Nat) (v1 : Int32) (G : tG) (H : Heap) (locs : List Loc) (ls : Array Slot), nc ≤ 20 ∧ ns ≤ 200 → tg_W D A s H G → va_S A s.heap H locs → tl ls 9 [(0, .inr (.inr v0)), (1, .inl v1)] → w_X3_digest_110 K post n nc ns v0 v1 G → W p l e ({ frames := 3, cells := 20, slots := 200, locals := 71 } : Room) s m args below meth c H locs nc ns (MQ below (tc_Qc D A (retL post)) args s 20 200 A) (F0 m 110 ls []) := by
  intro n
  induction n with
  | zero =>
    intro nc ns v0 v1 G H locs ls hcn hW hS hl hw
    exact hw.elim
  | succ n ih => exact s_X3_digest_110_b C hr hll post _ ih
set_option maxHeartbeats 4000000 in
set_option maxRecDepth 100000 in
theorem s_X3_digest_45_b {K : tK} (C : tc_B p l s m args meth c D K A wz_X3_digest RX3 cX3_digest 9) (hr : meth.sig.returnType = (some .long)) (hll : l.stackTraces = false)  (post : Int64 → tG → Prop) (k45 : Nat → Nat → Option Nat → Option Nat → Int32 → Int32 → tG → Prop) (hk45 : ∀ (nc ns : Nat) (v0 : Option Nat) (v1 : Option Nat) (v2 : Int32) (v3 : Int32) (G : tG) (H : Heap) (locs : List Loc) (ls : Array Slot), nc ≤ 20 ∧ ns ≤ 200 → tg_W D A s H G → va_S A s.heap H locs → tl ls 9 [(0, .inr (.inr v0)), (1, .inr (.inr v1)), (2, .inl v2), (3, .inl v3)] → k45 nc ns v0 v1 v2 v3 G → W p l e ({ frames := 3, cells := 20, slots := 200, locals := 71 } : Room) s m args below meth c H locs nc ns (MQ below (tc_Qc D A (retL post)) args s 20 200 A) (F0 m 45 ls [])) : ∀ (nc ns : Nat) (v0 : Option Nat) (v1 : Option Nat) (v2 : Int32) (v3 : Int32) (G : tG) (H : Heap) (locs : List Loc) (ls : Array Slot), nc ≤ 20 ∧ ns ≤ 200 → tg_W D A s H G → va_S A s.heap H locs → tl ls 9 [(0, .inr (.inr v0)), (1, .inr (.inr v1)), (2, .inl v2), (3, .inl v3)] → w_X3_digest_45_b K post k45 nc ns v0 v1 v2 v3 G → W p l e ({ frames := 3, cells := 20, slots := 200, locals := 71 } : Room) s m args below meth c H locs nc ns (MQ below (tc_Qc D A (retL post)) args s 20 200 A) (F0 m 45 ls []) := by
  intro nc ns v0 v1 v2 v3 G H locs ls hcn hW hS hl hw
  unfold w_X3_digest_45_b at hw
  refine tr_iload_n (k := 3) (x := v3) C hl 3 rfl dX3_digest_45 ?_
  refine tr_iload_n (k := 2) (x := v2) C hl 2 rfl dX3_digest_46 ?_
  refine lv_icmp_ge (tgt := 108) C.1.1 C.1.2.1 dX3_digest_47 (by decide) (fun hc => ?_) (fun hc => ?_)
  · have hw := hw.1 hc
    refine lv_iconst (v := (0 : Int32)) C.1.1 C.1.2.1 dX3_digest_108 (by decide) ?_
    refine tr_istore_n (k := 1) (x := (0 : Int32)) C hl [(1, .inl (0 : Int32)), (0, .inr (.inr v0)), (2, .inl v2), (3, .inl v3)] (by decide) rfl dX3_digest_109 (fun ls hl => ?_)
    obtain ⟨n110, hw⟩ := hw
    exact s_X3_digest_110 C hr hll post n110 nc ns v0 ((0 : Int32)) _ _ _ _ (show nc ≤ 20 ∧ ns ≤ 200 by omega) hW hS (tl_sub hl [1, 0] rfl) hw
  · have hw := hw.2 hc
    refine tr_aload_n (k := 1) (x := v1) C hl 1 rfl dX3_digest_50 ?_
    refine tr_iload_n (k := 3) (x := v3) C hl 3 rfl dX3_digest_51 ?_
    refine tr_alR (ty := .array .int) C dX3_digest_52 hW rfl hw (fun x_52 hw => ?_)
    refine tr_astore (x := x_52) C hl [(4, .inr (.inr x_52)), (0, .inr (.inr v0)), (1, .inr (.inr v1)), (2, .inl v2), (3, .inl v3)] (by decide) rfl dX3_digest_53 (fun ls hl => ?_)
    refine tr_aload_n (k := 0) (x := v0) C hl 1 rfl dX3_digest_55 ?_
    refine tr_aload (x := x_52) C hl 0 rfl dX3_digest_56 ?_
    refine tr_len (r := x_52) C dX3_digest_58 hW hw (fun x_58 hw => ?_)
    refine lv_i2l (v := ((x_58).toInt64)) C.1.1 C.1.2.1 dX3_digest_59 rfl ?_
    refine tr_backV (tr_runV (r := v0) (As := [.long (((x_58).toInt64))]) C hl.1 (c_X3_add_ l hll K _ v0 (((x_58).toInt64))) (cwV 1 C.1.2.2.2.2 (gi_V (zm kw_166) (zm kw_167) (zm kw_168) (zm kw_155) (zm kw_165)) rfl rfl rfl (by decide +kernel) ⟨(Nat.le_of_ble_eq_true rfl), (Nat.le_of_ble_eq_true rfl)⟩) rfl rfl dX3_digest_60 ⟨(show nc + 0 ≤ 20 by omega), (show ns + 0 ≤ 200 by omega)⟩ [] rfl (Nat.le_of_ble_eq_true rfl) rfl hW hS hw) hS (fun G_60 H locs hw hW hS => ?_)
    refine tr_aload (x := x_52) C hl 0 rfl dX3_digest_63 ?_
    refine tr_astore (x := x_52) C hl [(5, .inr (.inr x_52)), (4, .inr (.inr x_52)), (0, .inr (.inr v0)), (1, .inr (.inr v1)), (2, .inl v2), (3, .inl v3)] (by decide) rfl dX3_digest_65 (fun ls hl => ?_)
    refine tr_aload (x := x_52) C hl 0 rfl dX3_digest_67 ?_
    refine tr_len (r := x_52) C dX3_digest_69 hW hw (fun x_69 hw => ?_)
    refine tr_istore (x := x_69) C hl [(6, .inl x_69), (5, .inr (.inr x_52)), (4, .inr (.inr x_52)), (0, .inr (.inr v0)), (1, .inr (.inr v1)), (2, .inl v2), (3, .inl v3)] (by decide) rfl dX3_digest_70 (fun ls hl => ?_)
    refine lv_iconst (v := (0 : Int32)) C.1.1 C.1.2.1 dX3_digest_72 (by decide) ?_
    refine tr_istore (x := (0 : Int32)) C hl [(7, .inl (0 : Int32)), (6, .inl x_69), (5, .inr (.inr x_52)), (4, .inr (.inr x_52)), (0, .inr (.inr v0)), (1, .inr (.inr v1)), (2, .inl v2), (3, .inl v3)] (by decide) rfl dX3_digest_73 (fun ls hl => ?_)
    obtain ⟨n75, hw⟩ := hw
    exact s_X3_digest_75 C hr hll post k45 hk45 n75 nc ns v0 v1 v2 v3 x_52 x_69 ((0 : Int32)) _ _ _ _ (show nc ≤ 20 ∧ ns ≤ 200 by omega) hW hS (tl_sub hl [4, 5, 6, 7, 2, 1, 0] rfl) hw
set_option maxHeartbeats 4000000 in
set_option maxRecDepth 100000 in
theorem s_X3_digest_45 {K : tK} (C : tc_B p l s m args meth c D K A wz_X3_digest RX3 cX3_digest 9) (hr : meth.sig.returnType = (some .long)) (hll : l.stackTraces = false)  (post : Int64 → tG → Prop) : ∀ (n : Nat) (nc ns : Nat) (v0 : Option Nat) (v1 : Option Nat) (v2 : Int32) (v3 : Int32) (G : tG) (H : Heap) (locs : List Loc) (ls : Array Slot), nc ≤ 20 ∧ ns ≤ 200 → tg_W D A s H G → va_S A s.heap H locs → tl ls 9 [(0, .inr (.inr v0)), (1, .inr (.inr v1)), (2, .inl v2), (3, .inl v3)] → w_X3_digest_45 K post n nc ns v0 v1 v2 v3 G → W p l e ({ frames := 3, cells := 20, slots := 200, locals := 71 } : Room) s m args below meth c H locs nc ns (MQ below (tc_Qc D A (retL post)) args s 20 200 A) (F0 m 45 ls []) := by
  intro n
  induction n with
  | zero =>
    intro nc ns v0 v1 v2 v3 G H locs ls hcn hW hS hl hw
    exact hw.elim
  | succ n ih => exact s_X3_digest_45_b C hr hll post _ ih
set_option maxHeartbeats 4000000 in
set_option maxRecDepth 100000 in
theorem s_X3_digest_14_b {K : tK} (C : tc_B p l s m args meth c D K A wz_X3_digest RX3 cX3_digest 9) (hr : meth.sig.returnType = (some .long)) (hll : l.stackTraces = false)  (post : Int64 → tG → Prop) (k14 : Nat → Nat → Option Nat → Int32 → tG → Prop) (hk14 : ∀ (nc ns : Nat) (v0 : Option Nat) (v1 : Int32) (G : tG) (H : Heap) (locs : List Loc) (ls : Array Slot), nc ≤ 20 ∧ ns ≤ 200 → tg_W D A s H G → va_S A s.heap H locs → tl ls 9 [(0, .inr (.inr v0)), (1, .inl v1)] → k14 nc ns v0 v1 G → W p l e ({ frames := 3, cells := 20, slots := 200, locals := 71 } : Room) s m args below meth c H locs nc ns (MQ below (tc_Qc D A (retL post)) args s 20 200 A) (F0 m 14 ls [])) : ∀ (nc ns : Nat) (v0 : Option Nat) (v1 : Int32) (G : tG) (H : Heap) (locs : List Loc) (ls : Array Slot), nc ≤ 20 ∧ ns ≤ 200 → tg_W D A s H G → va_S A s.heap H locs → tl ls 9 [(0, .inr (.inr v0)), (1, .inl v1)] → w_X3_digest_14_b K post k14 nc ns v0 v1 G → W p l e ({ frames := 3, cells := 20, slots := 200, locals := 71 } : Room) s m args below meth c H locs nc ns (MQ below (tc_Qc D A (retL post)) args s 20 200 A) (F0 m 14 ls []) := by
  intro nc ns v0 v1 G H locs ls hcn hW hS hl hw
  unfold w_X3_digest_14_b at hw
  refine tr_iload_n (k := 1) (x := v1) C hl 1 rfl dX3_digest_14 ?_
  refine lv_iconst (v := (4 : Int32)) C.1.1 C.1.2.1 dX3_digest_15 (by decide) ?_
  refine lv_icmp_ge (tgt := 35) C.1.1 C.1.2.1 dX3_digest_16 (by decide) (fun hc => ?_) (fun hc => ?_)
  · have hw := hw.1 hc
    refine tr_aload_n (k := 0) (x := v0) C hl 0 rfl dX3_digest_35 ?_
    refine tr_gfR (C0 := RX3) (T := TX3) (N := 8) (ci := 5) (ref := "TwinrowModel") (k := 0) (r := v0) C (zh hw_X3) rfl (by decide) (zm kw_21) rfl dX3_digest_36 hW hw (fun x_36 hw => ?_)
    refine tr_astore_n (k := 1) (x := x_36) C hl [(1, .inr (.inr x_36)), (0, .inr (.inr v0))] (by decide) rfl dX3_digest_39 (fun ls hl => ?_)
    refine tr_aload_n (k := 1) (x := x_36) C hl 0 rfl dX3_digest_40 ?_
    refine tr_len (r := x_36) C dX3_digest_41 hW hw (fun x_41 hw => ?_)
    refine tr_istore_n (k := 2) (x := x_41) C hl [(2, .inl x_41), (1, .inr (.inr x_36)), (0, .inr (.inr v0))] (by decide) rfl dX3_digest_42 (fun ls hl => ?_)
    refine lv_iconst (v := (0 : Int32)) C.1.1 C.1.2.1 dX3_digest_43 (by decide) ?_
    refine tr_istore_n (k := 3) (x := (0 : Int32)) C hl [(3, .inl (0 : Int32)), (2, .inl x_41), (1, .inr (.inr x_36)), (0, .inr (.inr v0))] (by decide) rfl dX3_digest_44 (fun ls hl => ?_)
    obtain ⟨n45, hw⟩ := hw
    exact s_X3_digest_45 C hr hll post n45 nc ns v0 x_36 x_41 ((0 : Int32)) _ _ _ _ (show nc ≤ 20 ∧ ns ≤ 200 by omega) hW hS (tl_sub hl [3, 2, 1, 0] rfl) hw
  · have hw := hw.2 hc
    refine tr_aload_n (k := 0) (x := v0) C hl 0 rfl dX3_digest_19 ?_
    refine tr_aload_n (k := 0) (x := v0) C hl 0 rfl dX3_digest_20 ?_
    refine tr_iload_n (k := 1) (x := v1) C hl 1 rfl dX3_digest_21 ?_
    have hq3 := hw.1
    have hw := hw.2
    refine tr_backI (tr_runV (r := v0) (As := [.int v1]) C hl.1 (c_X3_houseNow l hll K _ v0 v1) (cwV 1 C.1.2.2.2.2 (gi_V (zm kw_182) (zm kw_183) (zm kw_184) (zm kw_155) (zm kw_181)) rfl rfl rfl (by decide +kernel) ⟨(Nat.le_of_ble_eq_true rfl), (Nat.le_of_ble_eq_true rfl)⟩) rfl rfl dX3_digest_22 ⟨hq3.1, hq3.2⟩ [.inr (.inr v0)] rfl (Nat.le_of_ble_eq_true rfl) rfl hW hS hw) hS (fun x_22 G_22 H locs hw hW hS => ?_)
    refine lv_i2l (v := ((x_22).toInt64)) C.1.1 C.1.2.1 dX3_digest_25 rfl ?_
    refine tr_backV (tr_runV (r := v0) (As := [.long (((x_22).toInt64))]) C hl.1 (c_X3_add_ l hll K _ v0 (((x_22).toInt64))) (cwV 1 C.1.2.2.2.2 (gi_V (zm kw_166) (zm kw_167) (zm kw_168) (zm kw_155) (zm kw_165)) rfl rfl rfl (by decide +kernel) ⟨(Nat.le_of_ble_eq_true rfl), (Nat.le_of_ble_eq_true rfl)⟩) rfl rfl dX3_digest_26 ⟨(show (nc + 1) + 0 ≤ 20 by omega), (show (ns + 4) + 0 ≤ 200 by omega)⟩ [] rfl (Nat.le_of_ble_eq_true rfl) rfl hW hS hw) hS (fun G_26 H locs hw hW hS => ?_)
    refine tr_iinc C hl 1 (v1 + (1 : Int32)) [(1, .inl (v1 + (1 : Int32))), (0, .inr (.inr v0))] rfl rfl (by decide) rfl dX3_digest_29 (fun ls hl => ?_)
    refine lv_goto (tgt := 14) C.1.1 C.1.2.1 dX3_digest_32 (by decide) ?_
    exact hk14 ((nc + 1)) ((ns + 4)) v0 ((v1 + (1 : Int32))) _ _ _ _ (show (nc + 1) ≤ 20 ∧ (ns + 4) ≤ 200 by omega) hW hS (tl_sub hl [1, 0] rfl) hw
set_option maxHeartbeats 4000000 in
set_option maxRecDepth 100000 in
theorem s_X3_digest_14 {K : tK} (C : tc_B p l s m args meth c D K A wz_X3_digest RX3 cX3_digest 9) (hr : meth.sig.returnType = (some .long)) (hll : l.stackTraces = false)  (post : Int64 → tG → Prop) : ∀ (n : Nat) (nc ns : Nat) (v0 : Option Nat) (v1 : Int32) (G : tG) (H : Heap) (locs : List Loc) (ls : Array Slot), nc ≤ 20 ∧ ns ≤ 200 → tg_W D A s H G → va_S A s.heap H locs → tl ls 9 [(0, .inr (.inr v0)), (1, .inl v1)] → w_X3_digest_14 K post n nc ns v0 v1 G → W p l e ({ frames := 3, cells := 20, slots := 200, locals := 71 } : Room) s m args below meth c H locs nc ns (MQ below (tc_Qc D A (retL post)) args s 20 200 A) (F0 m 14 ls []) := by
  intro n
  induction n with
  | zero =>
    intro nc ns v0 v1 G H locs ls hcn hW hS hl hw
    exact hw.elim
  | succ n ih => exact s_X3_digest_14_b C hr hll post _ ih
set_option maxHeartbeats 4000000 in
set_option maxRecDepth 100000 in
theorem s_X3_digest {K : tK} (C : tc_B p l s m args meth c D K A wz_X3_digest RX3 cX3_digest 9) (hr : meth.sig.returnType = (some .long)) (hll : l.stackTraces = false)  (post : Int64 → tG → Prop) (v0 : Option Nat) : ∀ (G : tG) (H : Heap) (locs : List Loc) (ls : Array Slot), tg_W D A s H G → va_S A s.heap H locs → tl ls 9 [(0, .inr (.inr v0))] → w_X3_digest K post v0 G → W p l e ({ frames := 3, cells := 20, slots := 200, locals := 71 } : Room) s m args below meth c H locs 0 0 (MQ below (tc_Qc D A (retL post)) args s 20 200 A) (F0 m 0 ls []) := by
  intro G H locs ls hW hS hl hw
  unfold w_X3_digest at hw
  refine tr_aload_n (k := 0) (x := v0) C hl 0 rfl dX3_digest_0 ?_
  refine lv_iconst (v := (0 : Int32)) C.1.1 C.1.2.1 dX3_digest_1 (by decide) ?_
  refine tr_pf (C0 := RX3) (T := TX3) (N := 8) (ci := 5) (ref := "TwinrowModel") (k := 6) (ty := .int) (v := .int ((0 : Int32))) (r := v0) C (zh hw_X3) tyX3 tyX3_ok nmX3 rfl (by decide) (zm kw_185) rfl rfl (by decide +kernel) rfl rfl dX3_digest_2 hW hS hw (fun G_2 H locs hw hW hS => ?_)
  refine tr_aload_n (k := 0) (x := v0) C hl 0 rfl dX3_digest_5 ?_
  refine lv_ldc2 (v := (7778 : Int64)) C.1.1 C.1.2.1 C.1.2.2.2.1 (C.1.2.2.2.2 _ (zm kw_186)) dX3_digest_6 ?_
  refine tr_pf (C0 := RX3) (T := TX3) (N := 8) (ci := 5) (ref := "TwinrowModel") (k := 7) (ty := .long) (v := .long ((7778 : Int64))) (r := v0) C (zh hw_X3) tyX3 tyX3_ok nmX3 rfl (by decide) (zm kw_149) rfl rfl (by decide +kernel) rfl rfl dX3_digest_9 hW hS hw (fun G_9 H locs hw hW hS => ?_)
  refine lv_iconst (v := (0 : Int32)) C.1.1 C.1.2.1 dX3_digest_12 (by decide) ?_
  refine tr_istore_n (k := 1) (x := (0 : Int32)) C hl [(1, .inl (0 : Int32)), (0, .inr (.inr v0))] (by decide) rfl dX3_digest_13 (fun ls hl => ?_)
  obtain ⟨n14, hw⟩ := hw
  exact s_X3_digest_14 C hr hll post n14 0 0 v0 ((0 : Int32)) _ _ _ _ (show 0 ≤ 20 ∧ 0 ≤ 200 by omega) hW hS (tl_sub hl [1, 0] rfl) hw
end Z_X3_digest
set_option maxHeartbeats 4000000 in
set_option maxRecDepth 100000 in
theorem c_X3_digest (l : Launch) (hll : l.stackTraces = false) (K : tK) (post : Int64 → tG → Prop) (v0 : Option Nat) : Ct l yX3_digest wz_X3_digest ({ frames := 3, cells := 20, slots := 200, locals := 71 } : Room) 20 200 [va_rf v0] K (retL post) (fun G => w_X3_digest K post v0 G) := by
  refine tc_of (cc := cX3_digest) (maxL := 9) (ret := (some .long)) (own := RX3) (plainFor_of_name (by decide)) rfl rfl hll [.inr (.inr v0)] rfl (Nat.le_of_ble_eq_true rfl) ?_
  intro p e s m args below meth c D A G ls C hr hn ht hl hW hS hw
  exact s_X3_digest C hr hll post v0 _ _ _ _ hW hS hl hw

/-! X3_isSound -/
def wz_X3_isSound : List Cond := Cond.code yX3_isSound cX3_isSound 1 (some .boolean) :: w0
section Z_X3_isSound
variable {p : Program} {l : Launch} {e : Env} {s : State} {m : MethodId} {args : Array Value} {below : List Frame} {meth : Method} {c : Code} {D : va_G} {A : Nat → Prop}
set_option maxHeartbeats 4000000 in
set_option maxRecDepth 100000 in
theorem s_X3_isSound {K : tK} (C : tc_B p l s m args meth c D K A wz_X3_isSound RX3 cX3_isSound 1) (hr : meth.sig.returnType = (some .boolean)) (hll : l.stackTraces = false)  (post : Int32 → tG → Prop) (v0 : Option Nat) : ∀ (G : tG) (H : Heap) (locs : List Loc) (ls : Array Slot), tg_W D A s H G → va_S A s.heap H locs → tl ls 1 [(0, .inr (.inr v0))] → w_X3_isSound K post v0 G → W p l e ({ frames := 0, cells := 0, slots := 0, locals := 0 } : Room) s m args below meth c H locs 0 0 (MQ below (tc_Qc D A (retI post)) args s 0 0 A) (F0 m 0 ls []) := by
  intro G H locs ls hW hS hl hw
  unfold w_X3_isSound at hw
  refine tr_aload_n (k := 0) (x := v0) C hl 0 rfl dX3_isSound_0 ?_
  refine lv_iconst (v := (0 : Int32)) C.1.1 C.1.2.1 dX3_isSound_1 (by decide) ?_
  refine tr_pf (C0 := RX3) (T := TX3) (N := 8) (ci := 5) (ref := "TwinrowModel") (k := 6) (ty := .int) (v := .int ((0 : Int32))) (r := v0) C (zh hw_X3) tyX3 tyX3_ok nmX3 rfl (by decide) (zm kw_185) rfl rfl (by decide +kernel) rfl rfl dX3_isSound_2 hW hS hw (fun G_2 H locs hw hW hS => ?_)
  refine lv_iconst (v := (1 : Int32)) C.1.1 C.1.2.1 dX3_isSound_5 (by decide) ?_
  exact tr_zret C hr dX3_isSound_6 (Nat.le_of_ble_eq_true rfl) (Nat.le_of_ble_eq_true rfl) hW hS hw
end Z_X3_isSound
set_option maxHeartbeats 4000000 in
set_option maxRecDepth 100000 in
theorem c_X3_isSound (l : Launch) (hll : l.stackTraces = false) (K : tK) (post : Int32 → tG → Prop) (v0 : Option Nat) : Ct l yX3_isSound wz_X3_isSound ({ frames := 0, cells := 0, slots := 0, locals := 0 } : Room) 0 0 [va_rf v0] K (retI post) (fun G => w_X3_isSound K post v0 G) := by
  refine tc_of (cc := cX3_isSound) (maxL := 1) (ret := (some .boolean)) (own := RX3) (plainFor_of_name (by decide)) rfl rfl hll [.inr (.inr v0)] rfl (Nat.le_of_ble_eq_true rfl) ?_
  intro p e s m args below meth c D A G ls C hr hn ht hl hW hS hw
  exact s_X3_isSound C hr hll post v0 _ _ _ _ hW hS hl hw

/-! L_begin -/
def wz_L_begin : List Cond := Cond.codeWith yL_begin cL_begin 4 (some .int) [(0, 10, 13, 21)] :: w0
section Z_L_begin
variable {p : Program} {l : Launch} {e : Env} {s : State} {m : MethodId} {args : Array Value} {below : List Frame} {meth : Method} {c : Code} {D : va_G} {A : Nat → Prop}
set_option maxHeartbeats 4000000 in
set_option maxRecDepth 100000 in
theorem s_L_begin {K : tK} (C : tc_B p l s m args meth c D K A wz_L_begin RL cL_begin 4) (hr : meth.sig.returnType = (some .int)) (htab : c.exceptionTable.toList = tableOf [(0, 10, 13, 21)]) (hcC : kx_C s) (hll : l.stackTraces = false)  (post : Int32 → tG → Prop) (v0 : Option Nat) (v1 : Int32) (v2 : Option Nat) : ∀ (G : tG) (H : Heap) (locs : List Loc) (ls : Array Slot), tg_W D A s H G → va_S A s.heap H locs → tl ls 4 [(0, .inr (.inr v0)), (1, .inl v1), (2, .inr (.inr v2))] → w_L_begin K post v0 v1 v2 G → W p l e ({ frames := 8, cells := 1, slots := 6, locals := 126 } : Room) s m args below meth c H locs 0 0 (vx_MQ below (tc_Qc D A (retI post)) (tc_XC D A (fun _ _ => False)) args s 1 6 A) (F0 m 0 ls []) := by
  intro G H locs ls hW hS hl hw
  unfold w_L_begin at hw
  refine tr_aload_n (k := 2) (x := v2) C hl 2 rfl dL_begin_0 ?_
  refine tr_aload_n (k := 0) (x := v0) C hl 0 rfl dL_begin_1 ?_
  refine tr_iload_n (k := 1) (x := v1) C hl 1 rfl dL_begin_2 ?_
  refine tx_backCI (tx_runV (r := v0) (As := [.int v1]) C hl.1 (c_X1_begin l hll K _ _ v0 v1) (cwV 1 C.1.2.2.2.2 (gi_V (zm kw_187) (zm kw_106) (zm kw_107) (zm kw_33) (zm kw_104)) rfl rfl rfl (by decide +kernel) ⟨(Nat.le_of_ble_eq_true rfl), (Nat.le_of_ble_eq_true rfl)⟩) rfl rfl dL_begin_3 ⟨(Nat.le_of_ble_eq_true rfl), (Nat.le_of_ble_eq_true rfl)⟩ [.inr (.inr v2)] rfl (Nat.le_of_ble_eq_true rfl) rfl hW hS hw) hS (fun E ce q9 GX H locs hw hW hS hce hcv hcl => ?_) (fun x_3 G_3 H locs hw hW hS => ?_)
  · by_cases hq0 : E = "java/lang/IllegalArgumentException"
    · replace hw := hw.1 hq0
      subst hq0
      refine vx_catch (name := "java/lang/IllegalArgumentException") C.1.2.2.2.1 [] (⟨0, 10, 13, 21⟩ : ExceptionTableEntry) [] (by rw [htab]; rfl) (fun z hz => nomatch hz) (by decide) (by decide) (C.1.2.2.2.2 _ (zm kw_188)) hcC.2.2.2.1 hce hcv hcl ?_
      refine tr_astore_n (k := 3) (x := (some q9)) C hl [(3, .inr (.inr (some q9))), (0, .inr (.inr v0)), (1, .inl v1), (2, .inr (.inr v2))] (by decide) rfl dL_begin_13 (fun ls hl => ?_)
      refine lv_iconst (v := (1 : Int32)) C.1.1 C.1.2.1 dL_begin_14 (by decide) ?_
      exact vx_ret (tr_iret C hr dL_begin_15 (Nat.le_of_ble_eq_true rfl) (Nat.le_of_ble_eq_true rfl) hW hS hw)
    replace hw := hw.2 hq0
    exact hw.elim
  · refine lv_i2l (v := ((x_3).toInt64)) C.1.1 C.1.2.1 dL_begin_6 rfl ?_
    refine tr_pfN (C0 := RX2) (T := TX2) (N := 2) (ci := 4) (ref := "TwinrowLaw$Out") (host := "TwinrowLaw") (k := 0) (ty := .long) (v := .long (((x_3).toInt64))) (r := v2) C (zh hw_X2) tyX2 tyX2_ok nmX2 rfl (by decide) hcC.1 rfl rfl (by decide +kernel) rfl rfl dL_begin_7 hW hS hw (fun G_7 H locs hw hW hS => ?_)
    refine lv_goto (tgt := 16) C.1.1 C.1.2.1 dL_begin_10 (by decide) ?_
    refine lv_iconst (v := (0 : Int32)) C.1.1 C.1.2.1 dL_begin_16 (by decide) ?_
    exact vx_ret (tr_iret C hr dL_begin_17 (Nat.le_of_ble_eq_true rfl) (Nat.le_of_ble_eq_true rfl) hW hS hw)
end Z_L_begin
set_option maxHeartbeats 4000000 in
set_option maxRecDepth 100000 in
theorem c_L_begin (l : Launch) (hll : l.stackTraces = false) (K : tK) (post : Int32 → tG → Prop) (v0 : Option Nat) (v1 : Int32) (v2 : Option Nat) : Cx l yL_begin wz_L_begin ({ frames := 8, cells := 1, slots := 6, locals := 126 } : Room) 1 6 [va_rf v0, .int v1, va_rf v2] K (retI post) (fun _ _ => False) (fun G => w_L_begin K post v0 v1 v2 G) := by
  refine tx_ofH (cc := cL_begin) (maxL := 4) (ret := (some .int)) (own := RL) (hh := [(0, 10, 13, 21)]) (by decide) rfl rfl hll [.inr (.inr v0), .inl v1, .inr (.inr v2)] rfl (Nat.le_of_ble_eq_true rfl) ?_
  intro p e s m args below meth c D A G ls C hr htab hcC hl hW hS hw
  exact s_L_begin C hr htab hcC hll post v0 v1 v2 _ _ _ _ hW hS hl hw

/-! X3_isIn -/
def wz_X3_isIn : List Cond := Cond.code yX3_isIn cX3_isIn 3 (some .boolean) :: w0
section Z_X3_isIn
variable {p : Program} {l : Launch} {e : Env} {s : State} {m : MethodId} {args : Array Value} {below : List Frame} {meth : Method} {c : Code} {D : va_G} {A : Nat → Prop}
set_option maxHeartbeats 4000000 in
set_option maxRecDepth 100000 in
theorem s_X3_isIn_15 {K : tK} (C : tc_B p l s m args meth c D K A wz_X3_isIn RX3 cX3_isIn 3) (hr : meth.sig.returnType = (some .boolean)) (hll : l.stackTraces = false)  (post : Int32 → tG → Prop) : ∀ (u0 : Int32) (G : tG) (H : Heap) (locs : List Loc) (ls : Array Slot), tg_W D A s H G → va_S A s.heap H locs → tl ls 3 [] → w_X3_isIn_15 K post u0 G → W p l e ({ frames := 0, cells := 0, slots := 0, locals := 0 } : Room) s m args below meth c H locs 0 0 (MQ below (tc_Qc D A (retI post)) args s 0 0 A) (F0 m 15 ls [.int u0]) := by
  intro u0 G H locs ls hW hS hl hw
  unfold w_X3_isIn_15 at hw
  exact tr_zret C hr dX3_isIn_15 (Nat.le_of_ble_eq_true rfl) (Nat.le_of_ble_eq_true rfl) hW hS hw
set_option maxHeartbeats 4000000 in
set_option maxRecDepth 100000 in
theorem s_X3_isIn_14 {K : tK} (C : tc_B p l s m args meth c D K A wz_X3_isIn RX3 cX3_isIn 3) (hr : meth.sig.returnType = (some .boolean)) (hll : l.stackTraces = false)  (post : Int32 → tG → Prop) : ∀ (G : tG) (H : Heap) (locs : List Loc) (ls : Array Slot), tg_W D A s H G → va_S A s.heap H locs → tl ls 3 [] → w_X3_isIn_14 K post G → W p l e ({ frames := 0, cells := 0, slots := 0, locals := 0 } : Room) s m args below meth c H locs 0 0 (MQ below (tc_Qc D A (retI post)) args s 0 0 A) (F0 m 14 ls []) := by
  intro G H locs ls hW hS hl hw
  unfold w_X3_isIn_14 at hw
  refine lv_iconst (v := (0 : Int32)) C.1.1 C.1.2.1 dX3_isIn_14 (by decide) ?_
  exact s_X3_isIn_15 C hr hll post ((0 : Int32)) _ _ _ _ hW hS (tl_sub hl [] rfl) hw
set_option maxHeartbeats 4000000 in
set_option maxRecDepth 100000 in
theorem s_X3_isIn {K : tK} (C : tc_B p l s m args meth c D K A wz_X3_isIn RX3 cX3_isIn 3) (hr : meth.sig.returnType = (some .boolean)) (hll : l.stackTraces = false)  (post : Int32 → tG → Prop) (v0 : Int32) (v1 : Int32) (v2 : Int32) : ∀ (G : tG) (H : Heap) (locs : List Loc) (ls : Array Slot), tg_W D A s H G → va_S A s.heap H locs → tl ls 3 [(0, .inl v0), (1, .inl v1), (2, .inl v2)] → w_X3_isIn K post v0 v1 v2 G → W p l e ({ frames := 0, cells := 0, slots := 0, locals := 0 } : Room) s m args below meth c H locs 0 0 (MQ below (tc_Qc D A (retI post)) args s 0 0 A) (F0 m 0 ls []) := by
  intro G H locs ls hW hS hl hw
  unfold w_X3_isIn at hw
  refine tr_iload_n (k := 0) (x := v0) C hl 0 rfl dX3_isIn_0 ?_
  refine tr_iload_n (k := 1) (x := v1) C hl 1 rfl dX3_isIn_1 ?_
  refine lv_icmp_lt (tgt := 14) C.1.1 C.1.2.1 dX3_isIn_2 (by decide) (fun hc => ?_) (fun hc => ?_)
  · have hw := hw.1 hc
    exact s_X3_isIn_14 C hr hll post _ _ _ _ hW hS (tl_sub hl [] rfl) hw
  · have hw := hw.2 hc
    refine tr_iload_n (k := 0) (x := v0) C hl 0 rfl dX3_isIn_5 ?_
    refine tr_iload_n (k := 2) (x := v2) C hl 2 rfl dX3_isIn_6 ?_
    refine lv_icmp_gt (tgt := 14) C.1.1 C.1.2.1 dX3_isIn_7 (by decide) (fun hc => ?_) (fun hc => ?_)
    · have hw := hw.1 hc
      exact s_X3_isIn_14 C hr hll post _ _ _ _ hW hS (tl_sub hl [] rfl) hw
    · have hw := hw.2 hc
      refine lv_iconst (v := (1 : Int32)) C.1.1 C.1.2.1 dX3_isIn_10 (by decide) ?_
      refine lv_goto (tgt := 15) C.1.1 C.1.2.1 dX3_isIn_11 (by decide) ?_
      exact s_X3_isIn_15 C hr hll post ((1 : Int32)) _ _ _ _ hW hS (tl_sub hl [] rfl) hw
end Z_X3_isIn
set_option maxHeartbeats 4000000 in
set_option maxRecDepth 100000 in
theorem c_X3_isIn (l : Launch) (hll : l.stackTraces = false) (K : tK) (post : Int32 → tG → Prop) (v0 : Int32) (v1 : Int32) (v2 : Int32) : Ct l yX3_isIn wz_X3_isIn ({ frames := 0, cells := 0, slots := 0, locals := 0 } : Room) 0 0 [.int v0, .int v1, .int v2] K (retI post) (fun G => w_X3_isIn K post v0 v1 v2 G) := by
  refine tc_of (cc := cX3_isIn) (maxL := 3) (ret := (some .boolean)) (own := RX3) (plainFor_of_name (by decide)) rfl rfl hll [.inl v0, .inl v1, .inl v2] rfl (Nat.le_of_ble_eq_true rfl) ?_
  intro p e s m args below meth c D A G ls C hr hn ht hl hW hS hw
  exact s_X3_isIn C hr hll post v0 v1 v2 _ _ _ _ hW hS hl hw

/-! X3_fails -/
def wz_X3_fails : List Cond := Cond.code yX3_fails cX3_fails 3 (some .boolean) :: w0
section Z_X3_fails
variable {p : Program} {l : Launch} {e : Env} {s : State} {m : MethodId} {args : Array Value} {below : List Frame} {meth : Method} {c : Code} {D : va_G} {A : Nat → Prop}
set_option maxHeartbeats 4000000 in
set_option maxRecDepth 100000 in
theorem s_X3_fails_33 {K : tK} (C : tc_B p l s m args meth c D K A wz_X3_fails RX3 cX3_fails 3) (hr : meth.sig.returnType = (some .boolean)) (hll : l.stackTraces = false)  (post : Int32 → tG → Prop) : ∀ (u0 : Int32) (G : tG) (H : Heap) (locs : List Loc) (ls : Array Slot), tg_W D A s H G → va_S A s.heap H locs → tl ls 3 [] → w_X3_fails_33 K post u0 G → W p l e ({ frames := 0, cells := 0, slots := 0, locals := 0 } : Room) s m args below meth c H locs 0 0 (MQ below (tc_Qc D A (retI post)) args s 0 0 A) (F0 m 33 ls [.int u0]) := by
  intro u0 G H locs ls hW hS hl hw
  unfold w_X3_fails_33 at hw
  exact tr_zret C hr dX3_fails_33 (Nat.le_of_ble_eq_true rfl) (Nat.le_of_ble_eq_true rfl) hW hS hw
set_option maxHeartbeats 4000000 in
set_option maxRecDepth 100000 in
theorem s_X3_fails_18 {K : tK} (C : tc_B p l s m args meth c D K A wz_X3_fails RX3 cX3_fails 3) (hr : meth.sig.returnType = (some .boolean)) (hll : l.stackTraces = false)  (post : Int32 → tG → Prop) : ∀ (v0 : Option Nat) (u0 : Option Nat) (u1 : Int32) (G : tG) (H : Heap) (locs : List Loc) (ls : Array Slot), tg_W D A s H G → va_S A s.heap H locs → tl ls 3 [(0, .inr (.inr v0))] → w_X3_fails_18 K post v0 u0 u1 G → W p l e ({ frames := 0, cells := 0, slots := 0, locals := 0 } : Room) s m args below meth c H locs 0 0 (MQ below (tc_Qc D A (retI post)) args s 0 0 A) (F0 m 18 ls [.int u1, va_rf u0]) := by
  intro v0 u0 u1 G H locs ls hW hS hl hw
  unfold w_X3_fails_18 at hw
  refine tr_pf (C0 := RX3) (T := TX3) (N := 8) (ci := 5) (ref := "TwinrowModel") (k := 6) (ty := .int) (v := .int u1) (r := u0) C (zh hw_X3) tyX3 tyX3_ok nmX3 rfl (by decide) (zm kw_185) rfl rfl (by decide +kernel) rfl rfl dX3_fails_18 hW hS hw (fun G_18 H locs hw hW hS => ?_)
  refine tr_aload_n (k := 0) (x := v0) C hl 0 rfl dX3_fails_21 ?_
  refine tr_gfI (C0 := RX3) (T := TX3) (N := 8) (ci := 5) (ref := "TwinrowModel") (k := 6) (r := v0) C (zh hw_X3) rfl (by decide) (zm kw_185) rfl dX3_fails_22 hW hw (fun x_22 hw => ?_)
  refine lv_if_le (tgt := 32) C.1.1 C.1.2.1 dX3_fails_25 (by decide) (fun hc => ?_) (fun hc => ?_)
  · have hw := hw.1 hc
    refine lv_iconst (v := (0 : Int32)) C.1.1 C.1.2.1 dX3_fails_32 (by decide) ?_
    exact s_X3_fails_33 C hr hll post ((0 : Int32)) _ _ _ _ hW hS (tl_sub hl [] rfl) hw
  · have hw := hw.2 hc
    refine lv_iconst (v := (1 : Int32)) C.1.1 C.1.2.1 dX3_fails_28 (by decide) ?_
    refine lv_goto (tgt := 33) C.1.1 C.1.2.1 dX3_fails_29 (by decide) ?_
    exact s_X3_fails_33 C hr hll post ((1 : Int32)) _ _ _ _ hW hS (tl_sub hl [] rfl) hw
set_option maxHeartbeats 4000000 in
set_option maxRecDepth 100000 in
theorem s_X3_fails {K : tK} (C : tc_B p l s m args meth c D K A wz_X3_fails RX3 cX3_fails 3) (hr : meth.sig.returnType = (some .boolean)) (hll : l.stackTraces = false)  (post : Int32 → tG → Prop) (v0 : Option Nat) (v1 : Int32) (v2 : Int32) : ∀ (G : tG) (H : Heap) (locs : List Loc) (ls : Array Slot), tg_W D A s H G → va_S A s.heap H locs → tl ls 3 [(0, .inr (.inr v0)), (1, .inl v1), (2, .inl v2)] → w_X3_fails K post v0 v1 v2 G → W p l e ({ frames := 0, cells := 0, slots := 0, locals := 0 } : Room) s m args below meth c H locs 0 0 (MQ below (tc_Qc D A (retI post)) args s 0 0 A) (F0 m 0 ls []) := by
  intro G H locs ls hW hS hl hw
  unfold w_X3_fails at hw
  refine tr_aload_n (k := 0) (x := v0) C hl 0 rfl dX3_fails_0 ?_
  refine tr_iload_n (k := 1) (x := v1) C hl 1 rfl dX3_fails_1 ?_
  refine lv_if_eq (tgt := 9) C.1.1 C.1.2.1 dX3_fails_2 (by decide) (fun hc => ?_) (fun hc => ?_)
  · have hw := hw.1 hc
    refine tr_iload_n (k := 2) (x := v2) C hl 2 rfl dX3_fails_9 ?_
    refine lv_if_eq (tgt := 17) C.1.1 C.1.2.1 dX3_fails_10 (by decide) (fun hc => ?_) (fun hc => ?_)
    · have hw := hw.1 hc
      refine lv_iconst (v := (0 : Int32)) C.1.1 C.1.2.1 dX3_fails_17 (by decide) ?_
      exact s_X3_fails_18 C hr hll post v0 v0 ((0 : Int32)) _ _ _ _ hW hS (tl_sub hl [0] rfl) hw
    · have hw := hw.2 hc
      refine lv_iconst (v := (2 : Int32)) C.1.1 C.1.2.1 dX3_fails_13 (by decide) ?_
      refine lv_goto (tgt := 18) C.1.1 C.1.2.1 dX3_fails_14 (by decide) ?_
      exact s_X3_fails_18 C hr hll post v0 v0 ((2 : Int32)) _ _ _ _ hW hS (tl_sub hl [0] rfl) hw
  · have hw := hw.2 hc
    refine lv_iconst (v := (1 : Int32)) C.1.1 C.1.2.1 dX3_fails_5 (by decide) ?_
    refine lv_goto (tgt := 18) C.1.1 C.1.2.1 dX3_fails_6 (by decide) ?_
    exact s_X3_fails_18 C hr hll post v0 v0 ((1 : Int32)) _ _ _ _ hW hS (tl_sub hl [0] rfl) hw
end Z_X3_fails
set_option maxHeartbeats 4000000 in
set_option maxRecDepth 100000 in
theorem c_X3_fails (l : Launch) (hll : l.stackTraces = false) (K : tK) (post : Int32 → tG → Prop) (v0 : Option Nat) (v1 : Int32) (v2 : Int32) : Ct l yX3_fails wz_X3_fails ({ frames := 0, cells := 0, slots := 0, locals := 0 } : Room) 0 0 [va_rf v0, .int v1, .int v2] K (retI post) (fun G => w_X3_fails K post v0 v1 v2 G) := by
  refine tc_of (cc := cX3_fails) (maxL := 3) (ret := (some .boolean)) (own := RX3) (plainFor_of_name (by decide)) rfl rfl hll [.inr (.inr v0), .inl v1, .inl v2] rfl (Nat.le_of_ble_eq_true rfl) ?_
  intro p e s m args below meth c D A G ls C hr hn ht hl hW hS hw
  exact s_X3_fails C hr hll post v0 v1 v2 _ _ _ _ hW hS hl hw

/-! X3_begin -/
def wz_X3_begin : List Cond := Cond.code yX3_begin cX3_begin 2 (some .int) :: w0
section Z_X3_begin
variable {p : Program} {l : Launch} {e : Env} {s : State} {m : MethodId} {args : Array Value} {below : List Frame} {meth : Method} {c : Code} {D : va_G} {A : Nat → Prop}
set_option maxHeartbeats 4000000 in
set_option maxRecDepth 100000 in
theorem s_X3_begin_32 {K : tK} (C : tc_B p l s m args meth c D K A wz_X3_begin RX3 cX3_begin 2) (hr : meth.sig.returnType = (some .int)) (hll : l.stackTraces = false)  (post : Int32 → tG → Prop) : ∀ (u0 : Int32) (G : tG) (H : Heap) (locs : List Loc) (ls : Array Slot), tg_W D A s H G → va_S A s.heap H locs → tl ls 2 [] → w_X3_begin_32 K post u0 G → W p l e ({ frames := 1, cells := 0, slots := 0, locals := 22 } : Room) s m args below meth c H locs 0 0 (MQ below (tc_Qc D A (retI post)) args s 0 0 A) (F0 m 32 ls [.int u0]) := by
  intro u0 G H locs ls hW hS hl hw
  unfold w_X3_begin_32 at hw
  exact tr_iret C hr dX3_begin_32 (Nat.le_of_ble_eq_true rfl) (Nat.le_of_ble_eq_true rfl) hW hS hw
set_option maxHeartbeats 4000000 in
set_option maxRecDepth 100000 in
theorem s_X3_begin_16 {K : tK} (C : tc_B p l s m args meth c D K A wz_X3_begin RX3 cX3_begin 2) (hr : meth.sig.returnType = (some .int)) (hll : l.stackTraces = false)  (post : Int32 → tG → Prop) : ∀ (v0 : Option Nat) (v1 : Int32) (u0 : Option Nat) (u1 : Int32) (G : tG) (H : Heap) (locs : List Loc) (ls : Array Slot), tg_W D A s H G → va_S A s.heap H locs → tl ls 2 [(0, .inr (.inr v0)), (1, .inl v1)] → w_X3_begin_16 K post v0 v1 u0 u1 G → W p l e ({ frames := 1, cells := 0, slots := 0, locals := 22 } : Room) s m args below meth c H locs 0 0 (MQ below (tc_Qc D A (retI post)) args s 0 0 A) (F0 m 16 ls [.int u1, va_rf u0]) := by
  intro v0 v1 u0 u1 G H locs ls hW hS hl hw
  unfold w_X3_begin_16 at hw
  refine lv_iconst (v := (0 : Int32)) C.1.1 C.1.2.1 dX3_begin_16 (by decide) ?_
  refine tr_backI (tr_runV (r := u0) (As := [.int u1, .int ((0 : Int32))]) C hl.1 (c_X3_fails l hll K _ u0 u1 ((0 : Int32))) (cwV 2 C.1.2.2.2.2 (gi_V (zm kw_190) (zm kw_191) (zm kw_192) (zm kw_155) (zm kw_189)) rfl rfl rfl (by decide +kernel) ⟨(Nat.le_of_ble_eq_true rfl), (Nat.le_of_ble_eq_true rfl)⟩) rfl rfl dX3_begin_17 ⟨(Nat.le_of_ble_eq_true rfl), (Nat.le_of_ble_eq_true rfl)⟩ [] rfl (Nat.le_of_ble_eq_true rfl) rfl hW hS hw) hS (fun x_17 G_17 H locs hw hW hS => ?_)
  refine lv_if_eq (tgt := 27) C.1.1 C.1.2.1 dX3_begin_20 (by decide) (fun hc => ?_) (fun hc => ?_)
  · have hw := hw.1 hc
    refine tr_aload_n (k := 0) (x := v0) C hl 0 rfl dX3_begin_27 ?_
    refine tr_iload_n (k := 1) (x := v1) C hl 1 rfl dX3_begin_28 ?_
    refine tr_backI (tr_runV (r := v0) (As := [.int v1]) C hl.1 (c_X3_beginNow l hll K _ v0 v1) (cwV 1 C.1.2.2.2.2 (gi_V (zm kw_170) (zm kw_171) (zm kw_172) (zm kw_155) (zm kw_169)) rfl rfl rfl (by decide +kernel) ⟨(Nat.le_of_ble_eq_true rfl), (Nat.le_of_ble_eq_true rfl)⟩) rfl rfl dX3_begin_29 ⟨(Nat.le_of_ble_eq_true rfl), (Nat.le_of_ble_eq_true rfl)⟩ [] rfl (Nat.le_of_ble_eq_true rfl) rfl hW hS hw) hS (fun x_29 G_29 H locs hw hW hS => ?_)
    exact s_X3_begin_32 C hr hll post x_29 _ _ _ _ hW hS (tl_sub hl [] rfl) hw
  · have hw := hw.2 hc
    refine lv_iconst (v := (0 : Int32)) C.1.1 C.1.2.1 dX3_begin_23 (by decide) ?_
    refine lv_goto (tgt := 32) C.1.1 C.1.2.1 dX3_begin_24 (by decide) ?_
    exact s_X3_begin_32 C hr hll post ((0 : Int32)) _ _ _ _ hW hS (tl_sub hl [] rfl) hw
set_option maxHeartbeats 4000000 in
set_option maxRecDepth 100000 in
theorem s_X3_begin {K : tK} (C : tc_B p l s m args meth c D K A wz_X3_begin RX3 cX3_begin 2) (hr : meth.sig.returnType = (some .int)) (hll : l.stackTraces = false)  (post : Int32 → tG → Prop) (v0 : Option Nat) (v1 : Int32) : ∀ (G : tG) (H : Heap) (locs : List Loc) (ls : Array Slot), tg_W D A s H G → va_S A s.heap H locs → tl ls 2 [(0, .inr (.inr v0)), (1, .inl v1)] → w_X3_begin K post v0 v1 G → W p l e ({ frames := 1, cells := 0, slots := 0, locals := 22 } : Room) s m args below meth c H locs 0 0 (MQ below (tc_Qc D A (retI post)) args s 0 0 A) (F0 m 0 ls []) := by
  intro G H locs ls hW hS hl hw
  unfold w_X3_begin at hw
  refine tr_aload_n (k := 0) (x := v0) C hl 0 rfl dX3_begin_0 ?_
  refine tr_iload_n (k := 1) (x := v1) C hl 1 rfl dX3_begin_1 ?_
  refine lv_iconst (v := (0 : Int32)) C.1.1 C.1.2.1 dX3_begin_2 (by decide) ?_
  refine lv_bipush (v := (6 : Int32)) C.1.1 C.1.2.1 dX3_begin_3 (by decide) ?_
  refine tr_backI (tr_runS (As := [.int v1, .int ((0 : Int32)), .int ((6 : Int32))]) C hl.1 (c_X3_isIn l hll K _ v1 ((0 : Int32)) ((6 : Int32))) (va_cwS 3 C.1.2.2.2.2 (gi_S (zm kw_194) (zm kw_195) (zm kw_155) (zm kw_193)) rfl rfl rfl (by decide +kernel) ⟨(Nat.le_of_ble_eq_true rfl), (Nat.le_of_ble_eq_true rfl)⟩) rfl dX3_begin_5 ⟨(Nat.le_of_ble_eq_true rfl), (Nat.le_of_ble_eq_true rfl)⟩ [.inr (.inr v0)] rfl (Nat.le_of_ble_eq_true rfl) rfl hW hS hw) hS (fun x_5 G_5 H locs hw hW hS => ?_)
  refine lv_if_ne (tgt := 15) C.1.1 C.1.2.1 dX3_begin_8 (by decide) (fun hc => ?_) (fun hc => ?_)
  · have hw := hw.1 hc
    refine lv_iconst (v := (0 : Int32)) C.1.1 C.1.2.1 dX3_begin_15 (by decide) ?_
    exact s_X3_begin_16 C hr hll post v0 v1 v0 ((0 : Int32)) _ _ _ _ hW hS (tl_sub hl [0, 1] rfl) hw
  · have hw := hw.2 hc
    refine lv_iconst (v := (1 : Int32)) C.1.1 C.1.2.1 dX3_begin_11 (by decide) ?_
    refine lv_goto (tgt := 16) C.1.1 C.1.2.1 dX3_begin_12 (by decide) ?_
    exact s_X3_begin_16 C hr hll post v0 v1 v0 ((1 : Int32)) _ _ _ _ hW hS (tl_sub hl [0, 1] rfl) hw
end Z_X3_begin
set_option maxHeartbeats 4000000 in
set_option maxRecDepth 100000 in
theorem c_X3_begin (l : Launch) (hll : l.stackTraces = false) (K : tK) (post : Int32 → tG → Prop) (v0 : Option Nat) (v1 : Int32) : Ct l yX3_begin wz_X3_begin ({ frames := 1, cells := 0, slots := 0, locals := 22 } : Room) 0 0 [va_rf v0, .int v1] K (retI post) (fun G => w_X3_begin K post v0 v1 G) := by
  refine tc_of (cc := cX3_begin) (maxL := 2) (ret := (some .int)) (own := RX3) (plainFor_of_name (by decide)) rfl rfl hll [.inr (.inr v0), .inl v1] rfl (Nat.le_of_ble_eq_true rfl) ?_
  intro p e s m args below meth c D A G ls C hr hn ht hl hW hS hw
  exact s_X3_begin C hr hll post v0 v1 _ _ _ _ hW hS hl hw

/-! L_rowOf -/
def wz_L_rowOf : List Cond := Cond.codeWith yL_rowOf cL_rowOf 4 (some .int) [(0, 10, 13, 21)] :: w0
section Z_L_rowOf
variable {p : Program} {l : Launch} {e : Env} {s : State} {m : MethodId} {args : Array Value} {below : List Frame} {meth : Method} {c : Code} {D : va_G} {A : Nat → Prop}
set_option maxHeartbeats 4000000 in
set_option maxRecDepth 100000 in
theorem s_L_rowOf {K : tK} (C : tc_B p l s m args meth c D K A wz_L_rowOf RL cL_rowOf 4) (hr : meth.sig.returnType = (some .int)) (htab : c.exceptionTable.toList = tableOf [(0, 10, 13, 21)]) (hcC : kx_C s) (hll : l.stackTraces = false)  (post : Int32 → tG → Prop) (v0 : Option Nat) (v1 : Int32) (v2 : Option Nat) : ∀ (G : tG) (H : Heap) (locs : List Loc) (ls : Array Slot), tg_W D A s H G → va_S A s.heap H locs → tl ls 4 [(0, .inr (.inr v0)), (1, .inl v1), (2, .inr (.inr v2))] → w_L_rowOf K post v0 v1 v2 G → W p l e ({ frames := 8, cells := 1, slots := 6, locals := 126 } : Room) s m args below meth c H locs 0 0 (vx_MQ below (tc_Qc D A (retI post)) (tc_XC D A (fun _ _ => False)) args s 1 6 A) (F0 m 0 ls []) := by
  intro G H locs ls hW hS hl hw
  unfold w_L_rowOf at hw
  refine tr_aload_n (k := 2) (x := v2) C hl 2 rfl dL_rowOf_0 ?_
  refine tr_aload_n (k := 0) (x := v0) C hl 0 rfl dL_rowOf_1 ?_
  refine tr_iload_n (k := 1) (x := v1) C hl 1 rfl dL_rowOf_2 ?_
  refine tx_backCI (tx_runV (r := v0) (As := [.int v1]) C hl.1 (c_X1_rowOf l hll K _ _ v0 v1) (cwV 1 C.1.2.2.2.2 (gi_V (zm kw_196) (zm kw_99) (zm kw_100) (zm kw_33) (zm kw_97)) rfl rfl rfl (by decide +kernel) ⟨(Nat.le_of_ble_eq_true rfl), (Nat.le_of_ble_eq_true rfl)⟩) rfl rfl dL_rowOf_3 ⟨(Nat.le_of_ble_eq_true rfl), (Nat.le_of_ble_eq_true rfl)⟩ [.inr (.inr v2)] rfl (Nat.le_of_ble_eq_true rfl) rfl hW hS hw) hS (fun E ce q9 GX H locs hw hW hS hce hcv hcl => ?_) (fun x_3 G_3 H locs hw hW hS => ?_)
  · by_cases hq0 : E = "java/lang/IllegalArgumentException"
    · replace hw := hw.1 hq0
      subst hq0
      refine vx_catch (name := "java/lang/IllegalArgumentException") C.1.2.2.2.1 [] (⟨0, 10, 13, 21⟩ : ExceptionTableEntry) [] (by rw [htab]; rfl) (fun z hz => nomatch hz) (by decide) (by decide) (C.1.2.2.2.2 _ (zm kw_188)) hcC.2.2.2.1 hce hcv hcl ?_
      refine tr_astore_n (k := 3) (x := (some q9)) C hl [(3, .inr (.inr (some q9))), (0, .inr (.inr v0)), (1, .inl v1), (2, .inr (.inr v2))] (by decide) rfl dL_rowOf_13 (fun ls hl => ?_)
      refine lv_iconst (v := (1 : Int32)) C.1.1 C.1.2.1 dL_rowOf_14 (by decide) ?_
      exact vx_ret (tr_iret C hr dL_rowOf_15 (Nat.le_of_ble_eq_true rfl) (Nat.le_of_ble_eq_true rfl) hW hS hw)
    replace hw := hw.2 hq0
    exact hw.elim
  · refine lv_i2l (v := ((x_3).toInt64)) C.1.1 C.1.2.1 dL_rowOf_6 rfl ?_
    refine tr_pfN (C0 := RX2) (T := TX2) (N := 2) (ci := 4) (ref := "TwinrowLaw$Out") (host := "TwinrowLaw") (k := 0) (ty := .long) (v := .long (((x_3).toInt64))) (r := v2) C (zh hw_X2) tyX2 tyX2_ok nmX2 rfl (by decide) hcC.1 rfl rfl (by decide +kernel) rfl rfl dL_rowOf_7 hW hS hw (fun G_7 H locs hw hW hS => ?_)
    refine lv_goto (tgt := 16) C.1.1 C.1.2.1 dL_rowOf_10 (by decide) ?_
    refine lv_iconst (v := (0 : Int32)) C.1.1 C.1.2.1 dL_rowOf_16 (by decide) ?_
    exact vx_ret (tr_iret C hr dL_rowOf_17 (Nat.le_of_ble_eq_true rfl) (Nat.le_of_ble_eq_true rfl) hW hS hw)
end Z_L_rowOf
set_option maxHeartbeats 4000000 in
set_option maxRecDepth 100000 in
theorem c_L_rowOf (l : Launch) (hll : l.stackTraces = false) (K : tK) (post : Int32 → tG → Prop) (v0 : Option Nat) (v1 : Int32) (v2 : Option Nat) : Cx l yL_rowOf wz_L_rowOf ({ frames := 8, cells := 1, slots := 6, locals := 126 } : Room) 1 6 [va_rf v0, .int v1, va_rf v2] K (retI post) (fun _ _ => False) (fun G => w_L_rowOf K post v0 v1 v2 G) := by
  refine tx_ofH (cc := cL_rowOf) (maxL := 4) (ret := (some .int)) (own := RL) (hh := [(0, 10, 13, 21)]) (by decide) rfl rfl hll [.inr (.inr v0), .inl v1, .inr (.inr v2)] rfl (Nat.le_of_ble_eq_true rfl) ?_
  intro p e s m args below meth c D A G ls C hr htab hcC hl hW hS hw
  exact s_L_rowOf C hr htab hcC hll post v0 v1 v2 _ _ _ _ hW hS hl hw

/-! X3_rowOf -/
def wz_X3_rowOf : List Cond := Cond.code yX3_rowOf cX3_rowOf 2 (some .int) :: w0
section Z_X3_rowOf
variable {p : Program} {l : Launch} {e : Env} {s : State} {m : MethodId} {args : Array Value} {below : List Frame} {meth : Method} {c : Code} {D : va_G} {A : Nat → Prop}
set_option maxHeartbeats 4000000 in
set_option maxRecDepth 100000 in
theorem s_X3_rowOf_33 {K : tK} (C : tc_B p l s m args meth c D K A wz_X3_rowOf RX3 cX3_rowOf 2) (hr : meth.sig.returnType = (some .int)) (hll : l.stackTraces = false)  (post : Int32 → tG → Prop) : ∀ (u0 : Int32) (G : tG) (H : Heap) (locs : List Loc) (ls : Array Slot), tg_W D A s H G → va_S A s.heap H locs → tl ls 2 [] → w_X3_rowOf_33 K post u0 G → W p l e ({ frames := 1, cells := 0, slots := 0, locals := 22 } : Room) s m args below meth c H locs 0 0 (MQ below (tc_Qc D A (retI post)) args s 0 0 A) (F0 m 33 ls [.int u0]) := by
  intro u0 G H locs ls hW hS hl hw
  unfold w_X3_rowOf_33 at hw
  exact tr_iret C hr dX3_rowOf_33 (Nat.le_of_ble_eq_true rfl) (Nat.le_of_ble_eq_true rfl) hW hS hw
set_option maxHeartbeats 4000000 in
set_option maxRecDepth 100000 in
theorem s_X3_rowOf_16 {K : tK} (C : tc_B p l s m args meth c D K A wz_X3_rowOf RX3 cX3_rowOf 2) (hr : meth.sig.returnType = (some .int)) (hll : l.stackTraces = false)  (post : Int32 → tG → Prop) : ∀ (v0 : Option Nat) (v1 : Int32) (u0 : Option Nat) (u1 : Int32) (G : tG) (H : Heap) (locs : List Loc) (ls : Array Slot), tg_W D A s H G → va_S A s.heap H locs → tl ls 2 [(0, .inr (.inr v0)), (1, .inl v1)] → w_X3_rowOf_16 K post v0 v1 u0 u1 G → W p l e ({ frames := 1, cells := 0, slots := 0, locals := 22 } : Room) s m args below meth c H locs 0 0 (MQ below (tc_Qc D A (retI post)) args s 0 0 A) (F0 m 16 ls [.int u1, va_rf u0]) := by
  intro v0 v1 u0 u1 G H locs ls hW hS hl hw
  unfold w_X3_rowOf_16 at hw
  refine lv_iconst (v := (0 : Int32)) C.1.1 C.1.2.1 dX3_rowOf_16 (by decide) ?_
  refine tr_backI (tr_runV (r := u0) (As := [.int u1, .int ((0 : Int32))]) C hl.1 (c_X3_fails l hll K _ u0 u1 ((0 : Int32))) (cwV 2 C.1.2.2.2.2 (gi_V (zm kw_190) (zm kw_191) (zm kw_192) (zm kw_155) (zm kw_189)) rfl rfl rfl (by decide +kernel) ⟨(Nat.le_of_ble_eq_true rfl), (Nat.le_of_ble_eq_true rfl)⟩) rfl rfl dX3_rowOf_17 ⟨(Nat.le_of_ble_eq_true rfl), (Nat.le_of_ble_eq_true rfl)⟩ [] rfl (Nat.le_of_ble_eq_true rfl) rfl hW hS hw) hS (fun x_17 G_17 H locs hw hW hS => ?_)
  refine lv_if_eq (tgt := 27) C.1.1 C.1.2.1 dX3_rowOf_20 (by decide) (fun hc => ?_) (fun hc => ?_)
  · have hw := hw.1 hc
    refine tr_aload_n (k := 0) (x := v0) C hl 0 rfl dX3_rowOf_27 ?_
    refine tr_gfR (C0 := RX3) (T := TX3) (N := 8) (ci := 5) (ref := "TwinrowModel") (k := 1) (r := v0) C (zh hw_X3) rfl (by decide) (zm kw_22) rfl dX3_rowOf_28 hW hw (fun x_28 hw => ?_)
    refine tr_iload_n (k := 1) (x := v1) C hl 1 rfl dX3_rowOf_31 ?_
    refine tr_alI (r := x_28) C dX3_rowOf_32 hW hw (fun x_32 hw => ?_)
    exact s_X3_rowOf_33 C hr hll post x_32 _ _ _ _ hW hS (tl_sub hl [] rfl) hw
  · have hw := hw.2 hc
    refine lv_iconst (v := (0 : Int32)) C.1.1 C.1.2.1 dX3_rowOf_23 (by decide) ?_
    refine lv_goto (tgt := 33) C.1.1 C.1.2.1 dX3_rowOf_24 (by decide) ?_
    exact s_X3_rowOf_33 C hr hll post ((0 : Int32)) _ _ _ _ hW hS (tl_sub hl [] rfl) hw
set_option maxHeartbeats 4000000 in
set_option maxRecDepth 100000 in
theorem s_X3_rowOf {K : tK} (C : tc_B p l s m args meth c D K A wz_X3_rowOf RX3 cX3_rowOf 2) (hr : meth.sig.returnType = (some .int)) (hll : l.stackTraces = false)  (post : Int32 → tG → Prop) (v0 : Option Nat) (v1 : Int32) : ∀ (G : tG) (H : Heap) (locs : List Loc) (ls : Array Slot), tg_W D A s H G → va_S A s.heap H locs → tl ls 2 [(0, .inr (.inr v0)), (1, .inl v1)] → w_X3_rowOf K post v0 v1 G → W p l e ({ frames := 1, cells := 0, slots := 0, locals := 22 } : Room) s m args below meth c H locs 0 0 (MQ below (tc_Qc D A (retI post)) args s 0 0 A) (F0 m 0 ls []) := by
  intro G H locs ls hW hS hl hw
  unfold w_X3_rowOf at hw
  refine tr_aload_n (k := 0) (x := v0) C hl 0 rfl dX3_rowOf_0 ?_
  refine tr_iload_n (k := 1) (x := v1) C hl 1 rfl dX3_rowOf_1 ?_
  refine lv_iconst (v := (0 : Int32)) C.1.1 C.1.2.1 dX3_rowOf_2 (by decide) ?_
  refine lv_bipush (v := (6 : Int32)) C.1.1 C.1.2.1 dX3_rowOf_3 (by decide) ?_
  refine tr_backI (tr_runS (As := [.int v1, .int ((0 : Int32)), .int ((6 : Int32))]) C hl.1 (c_X3_isIn l hll K _ v1 ((0 : Int32)) ((6 : Int32))) (va_cwS 3 C.1.2.2.2.2 (gi_S (zm kw_194) (zm kw_195) (zm kw_155) (zm kw_193)) rfl rfl rfl (by decide +kernel) ⟨(Nat.le_of_ble_eq_true rfl), (Nat.le_of_ble_eq_true rfl)⟩) rfl dX3_rowOf_5 ⟨(Nat.le_of_ble_eq_true rfl), (Nat.le_of_ble_eq_true rfl)⟩ [.inr (.inr v0)] rfl (Nat.le_of_ble_eq_true rfl) rfl hW hS hw) hS (fun x_5 G_5 H locs hw hW hS => ?_)
  refine lv_if_ne (tgt := 15) C.1.1 C.1.2.1 dX3_rowOf_8 (by decide) (fun hc => ?_) (fun hc => ?_)
  · have hw := hw.1 hc
    refine lv_iconst (v := (0 : Int32)) C.1.1 C.1.2.1 dX3_rowOf_15 (by decide) ?_
    exact s_X3_rowOf_16 C hr hll post v0 v1 v0 ((0 : Int32)) _ _ _ _ hW hS (tl_sub hl [0, 1] rfl) hw
  · have hw := hw.2 hc
    refine lv_iconst (v := (1 : Int32)) C.1.1 C.1.2.1 dX3_rowOf_11 (by decide) ?_
    refine lv_goto (tgt := 16) C.1.1 C.1.2.1 dX3_rowOf_12 (by decide) ?_
    exact s_X3_rowOf_16 C hr hll post v0 v1 v0 ((1 : Int32)) _ _ _ _ hW hS (tl_sub hl [0, 1] rfl) hw
end Z_X3_rowOf
set_option maxHeartbeats 4000000 in
set_option maxRecDepth 100000 in
theorem c_X3_rowOf (l : Launch) (hll : l.stackTraces = false) (K : tK) (post : Int32 → tG → Prop) (v0 : Option Nat) (v1 : Int32) : Ct l yX3_rowOf wz_X3_rowOf ({ frames := 1, cells := 0, slots := 0, locals := 22 } : Room) 0 0 [va_rf v0, .int v1] K (retI post) (fun G => w_X3_rowOf K post v0 v1 G) := by
  refine tc_of (cc := cX3_rowOf) (maxL := 2) (ret := (some .int)) (own := RX3) (plainFor_of_name (by decide)) rfl rfl hll [.inr (.inr v0), .inl v1] rfl (Nat.le_of_ble_eq_true rfl) ?_
  intro p e s m args below meth c D A G ls C hr hn ht hl hW hS hw
  exact s_X3_rowOf C hr hll post v0 v1 _ _ _ _ hW hS hl hw

/-! L_house -/
def wz_L_house : List Cond := Cond.codeWith yL_house cL_house 4 (some .int) [(0, 10, 13, 21)] :: w0
section Z_L_house
variable {p : Program} {l : Launch} {e : Env} {s : State} {m : MethodId} {args : Array Value} {below : List Frame} {meth : Method} {c : Code} {D : va_G} {A : Nat → Prop}
set_option maxHeartbeats 4000000 in
set_option maxRecDepth 100000 in
theorem s_L_house {K : tK} (C : tc_B p l s m args meth c D K A wz_L_house RL cL_house 4) (hr : meth.sig.returnType = (some .int)) (htab : c.exceptionTable.toList = tableOf [(0, 10, 13, 21)]) (hcC : kx_C s) (hll : l.stackTraces = false)  (post : Int32 → tG → Prop) (v0 : Option Nat) (v1 : Int32) (v2 : Option Nat) : ∀ (G : tG) (H : Heap) (locs : List Loc) (ls : Array Slot), tg_W D A s H G → va_S A s.heap H locs → tl ls 4 [(0, .inr (.inr v0)), (1, .inl v1), (2, .inr (.inr v2))] → w_L_house K post v0 v1 v2 G → W p l e ({ frames := 9, cells := 4, slots := 24, locals := 147 } : Room) s m args below meth c H locs 0 0 (vx_MQ below (tc_Qc D A (retI post)) (tc_XC D A (fun _ _ => False)) args s 4 24 A) (F0 m 0 ls []) := by
  intro G H locs ls hW hS hl hw
  unfold w_L_house at hw
  refine tr_aload_n (k := 2) (x := v2) C hl 2 rfl dL_house_0 ?_
  refine tr_aload_n (k := 0) (x := v0) C hl 0 rfl dL_house_1 ?_
  refine tr_iload_n (k := 1) (x := v1) C hl 1 rfl dL_house_2 ?_
  refine tx_backCI (tx_runV (r := v0) (As := [.int v1]) C hl.1 (c_X1_house l hll K _ _ v0 v1) (cwV 1 C.1.2.2.2.2 (gi_V (zm kw_197) (zm kw_146) (zm kw_147) (zm kw_33) (zm kw_144)) rfl rfl rfl (by decide +kernel) ⟨(Nat.le_of_ble_eq_true rfl), (Nat.le_of_ble_eq_true rfl)⟩) rfl rfl dL_house_3 ⟨(Nat.le_of_ble_eq_true rfl), (Nat.le_of_ble_eq_true rfl)⟩ [.inr (.inr v2)] rfl (Nat.le_of_ble_eq_true rfl) rfl hW hS hw) hS (fun E ce q9 GX H locs hw hW hS hce hcv hcl => ?_) (fun x_3 G_3 H locs hw hW hS => ?_)
  · by_cases hq0 : E = "java/lang/IllegalArgumentException"
    · replace hw := hw.1 hq0
      subst hq0
      refine vx_catch (name := "java/lang/IllegalArgumentException") C.1.2.2.2.1 [] (⟨0, 10, 13, 21⟩ : ExceptionTableEntry) [] (by rw [htab]; rfl) (fun z hz => nomatch hz) (by decide) (by decide) (C.1.2.2.2.2 _ (zm kw_188)) hcC.2.2.2.1 hce hcv hcl ?_
      refine tr_astore_n (k := 3) (x := (some q9)) C hl [(3, .inr (.inr (some q9))), (0, .inr (.inr v0)), (1, .inl v1), (2, .inr (.inr v2))] (by decide) rfl dL_house_13 (fun ls hl => ?_)
      refine lv_iconst (v := (1 : Int32)) C.1.1 C.1.2.1 dL_house_14 (by decide) ?_
      exact vx_ret (tr_iret C hr dL_house_15 (Nat.le_of_ble_eq_true rfl) (Nat.le_of_ble_eq_true rfl) hW hS hw)
    replace hw := hw.2 hq0
    exact hw.elim
  · refine lv_i2l (v := ((x_3).toInt64)) C.1.1 C.1.2.1 dL_house_6 rfl ?_
    refine tr_pfN (C0 := RX2) (T := TX2) (N := 2) (ci := 4) (ref := "TwinrowLaw$Out") (host := "TwinrowLaw") (k := 0) (ty := .long) (v := .long (((x_3).toInt64))) (r := v2) C (zh hw_X2) tyX2 tyX2_ok nmX2 rfl (by decide) hcC.1 rfl rfl (by decide +kernel) rfl rfl dL_house_7 hW hS hw (fun G_7 H locs hw hW hS => ?_)
    refine lv_goto (tgt := 16) C.1.1 C.1.2.1 dL_house_10 (by decide) ?_
    refine lv_iconst (v := (0 : Int32)) C.1.1 C.1.2.1 dL_house_16 (by decide) ?_
    exact vx_ret (tr_iret C hr dL_house_17 (Nat.le_of_ble_eq_true rfl) (Nat.le_of_ble_eq_true rfl) hW hS hw)
end Z_L_house
set_option maxHeartbeats 4000000 in
set_option maxRecDepth 100000 in
theorem c_L_house (l : Launch) (hll : l.stackTraces = false) (K : tK) (post : Int32 → tG → Prop) (v0 : Option Nat) (v1 : Int32) (v2 : Option Nat) : Cx l yL_house wz_L_house ({ frames := 9, cells := 4, slots := 24, locals := 147 } : Room) 4 24 [va_rf v0, .int v1, va_rf v2] K (retI post) (fun _ _ => False) (fun G => w_L_house K post v0 v1 v2 G) := by
  refine tx_ofH (cc := cL_house) (maxL := 4) (ret := (some .int)) (own := RL) (hh := [(0, 10, 13, 21)]) (by decide) rfl rfl hll [.inr (.inr v0), .inl v1, .inr (.inr v2)] rfl (Nat.le_of_ble_eq_true rfl) ?_
  intro p e s m args below meth c D A G ls C hr htab hcC hl hW hS hw
  exact s_L_house C hr htab hcC hll post v0 v1 v2 _ _ _ _ hW hS hl hw

/-! X3_house -/
def wz_X3_house : List Cond := Cond.code yX3_house cX3_house 2 (some .int) :: w0
section Z_X3_house
variable {p : Program} {l : Launch} {e : Env} {s : State} {m : MethodId} {args : Array Value} {below : List Frame} {meth : Method} {c : Code} {D : va_G} {A : Nat → Prop}
set_option maxHeartbeats 4000000 in
set_option maxRecDepth 100000 in
theorem s_X3_house_31 {K : tK} (C : tc_B p l s m args meth c D K A wz_X3_house RX3 cX3_house 2) (hr : meth.sig.returnType = (some .int)) (hll : l.stackTraces = false)  (post : Int32 → tG → Prop) : ∀ (u0 : Int32) (G : tG) (H : Heap) (locs : List Loc) (ls : Array Slot), tg_W D A s H G → va_S A s.heap H locs → tl ls 2 [] → w_X3_house_31 K post u0 G → W p l e ({ frames := 2, cells := 1, slots := 4, locals := 43 } : Room) s m args below meth c H locs 1 4 (MQ below (tc_Qc D A (retI post)) args s 1 4 A) (F0 m 31 ls [.int u0]) := by
  intro u0 G H locs ls hW hS hl hw
  unfold w_X3_house_31 at hw
  exact tr_iret C hr dX3_house_31 (Nat.le_of_ble_eq_true rfl) (Nat.le_of_ble_eq_true rfl) hW hS hw
set_option maxHeartbeats 4000000 in
set_option maxRecDepth 100000 in
theorem s_X3_house_15 {K : tK} (C : tc_B p l s m args meth c D K A wz_X3_house RX3 cX3_house 2) (hr : meth.sig.returnType = (some .int)) (hll : l.stackTraces = false)  (post : Int32 → tG → Prop) : ∀ (v0 : Option Nat) (v1 : Int32) (u0 : Option Nat) (u1 : Int32) (G : tG) (H : Heap) (locs : List Loc) (ls : Array Slot), tg_W D A s H G → va_S A s.heap H locs → tl ls 2 [(0, .inr (.inr v0)), (1, .inl v1)] → w_X3_house_15 K post v0 v1 u0 u1 G → W p l e ({ frames := 2, cells := 1, slots := 4, locals := 43 } : Room) s m args below meth c H locs 0 0 (MQ below (tc_Qc D A (retI post)) args s 1 4 A) (F0 m 15 ls [.int u1, va_rf u0]) := by
  intro v0 v1 u0 u1 G H locs ls hW hS hl hw
  unfold w_X3_house_15 at hw
  refine lv_iconst (v := (0 : Int32)) C.1.1 C.1.2.1 dX3_house_15 (by decide) ?_
  refine tr_backI (tr_runV (r := u0) (As := [.int u1, .int ((0 : Int32))]) C hl.1 (c_X3_fails l hll K _ u0 u1 ((0 : Int32))) (cwV 2 C.1.2.2.2.2 (gi_V (zm kw_190) (zm kw_191) (zm kw_192) (zm kw_155) (zm kw_189)) rfl rfl rfl (by decide +kernel) ⟨(Nat.le_of_ble_eq_true rfl), (Nat.le_of_ble_eq_true rfl)⟩) rfl rfl dX3_house_16 ⟨(Nat.le_of_ble_eq_true rfl), (Nat.le_of_ble_eq_true rfl)⟩ [] rfl (Nat.le_of_ble_eq_true rfl) rfl hW hS hw) hS (fun x_16 G_16 H locs hw hW hS => ?_)
  refine lv_if_eq (tgt := 26) C.1.1 C.1.2.1 dX3_house_19 (by decide) (fun hc => ?_) (fun hc => ?_)
  · have hw := hw.1 hc
    refine tr_aload_n (k := 0) (x := v0) C hl 0 rfl dX3_house_26 ?_
    refine tr_iload_n (k := 1) (x := v1) C hl 1 rfl dX3_house_27 ?_
    refine tr_backI (tr_runV (r := v0) (As := [.int v1]) C hl.1 (c_X3_houseNow l hll K _ v0 v1) (cwV 1 C.1.2.2.2.2 (gi_V (zm kw_182) (zm kw_183) (zm kw_184) (zm kw_155) (zm kw_181)) rfl rfl rfl (by decide +kernel) ⟨(Nat.le_of_ble_eq_true rfl), (Nat.le_of_ble_eq_true rfl)⟩) rfl rfl dX3_house_28 ⟨(Nat.le_of_ble_eq_true rfl), (Nat.le_of_ble_eq_true rfl)⟩ [] rfl (Nat.le_of_ble_eq_true rfl) rfl hW hS hw) hS (fun x_28 G_28 H locs hw hW hS => ?_)
    exact s_X3_house_31 C hr hll post x_28 _ _ _ _ hW hS (tl_sub hl [] rfl) hw
  · have hw := hw.2 hc
    refine lv_iconst (v := (0 : Int32)) C.1.1 C.1.2.1 dX3_house_22 (by decide) ?_
    refine lv_goto (tgt := 31) C.1.1 C.1.2.1 dX3_house_23 (by decide) ?_
    refine W.widen (k := 1) (n := 4) (Nat.le_of_ble_eq_true rfl) (Nat.le_of_ble_eq_true rfl) ?_
    exact s_X3_house_31 C hr hll post ((0 : Int32)) _ _ _ _ hW hS (tl_sub hl [] rfl) hw
set_option maxHeartbeats 4000000 in
set_option maxRecDepth 100000 in
theorem s_X3_house {K : tK} (C : tc_B p l s m args meth c D K A wz_X3_house RX3 cX3_house 2) (hr : meth.sig.returnType = (some .int)) (hll : l.stackTraces = false)  (post : Int32 → tG → Prop) (v0 : Option Nat) (v1 : Int32) : ∀ (G : tG) (H : Heap) (locs : List Loc) (ls : Array Slot), tg_W D A s H G → va_S A s.heap H locs → tl ls 2 [(0, .inr (.inr v0)), (1, .inl v1)] → w_X3_house K post v0 v1 G → W p l e ({ frames := 2, cells := 1, slots := 4, locals := 43 } : Room) s m args below meth c H locs 0 0 (MQ below (tc_Qc D A (retI post)) args s 1 4 A) (F0 m 0 ls []) := by
  intro G H locs ls hW hS hl hw
  unfold w_X3_house at hw
  refine tr_aload_n (k := 0) (x := v0) C hl 0 rfl dX3_house_0 ?_
  refine tr_iload_n (k := 1) (x := v1) C hl 1 rfl dX3_house_1 ?_
  refine lv_iconst (v := (0 : Int32)) C.1.1 C.1.2.1 dX3_house_2 (by decide) ?_
  refine lv_iconst (v := (3 : Int32)) C.1.1 C.1.2.1 dX3_house_3 (by decide) ?_
  refine tr_backI (tr_runS (As := [.int v1, .int ((0 : Int32)), .int ((3 : Int32))]) C hl.1 (c_X3_isIn l hll K _ v1 ((0 : Int32)) ((3 : Int32))) (va_cwS 3 C.1.2.2.2.2 (gi_S (zm kw_194) (zm kw_195) (zm kw_155) (zm kw_193)) rfl rfl rfl (by decide +kernel) ⟨(Nat.le_of_ble_eq_true rfl), (Nat.le_of_ble_eq_true rfl)⟩) rfl dX3_house_4 ⟨(Nat.le_of_ble_eq_true rfl), (Nat.le_of_ble_eq_true rfl)⟩ [.inr (.inr v0)] rfl (Nat.le_of_ble_eq_true rfl) rfl hW hS hw) hS (fun x_4 G_4 H locs hw hW hS => ?_)
  refine lv_if_ne (tgt := 14) C.1.1 C.1.2.1 dX3_house_7 (by decide) (fun hc => ?_) (fun hc => ?_)
  · have hw := hw.1 hc
    refine lv_iconst (v := (0 : Int32)) C.1.1 C.1.2.1 dX3_house_14 (by decide) ?_
    exact s_X3_house_15 C hr hll post v0 v1 v0 ((0 : Int32)) _ _ _ _ hW hS (tl_sub hl [0, 1] rfl) hw
  · have hw := hw.2 hc
    refine lv_iconst (v := (1 : Int32)) C.1.1 C.1.2.1 dX3_house_10 (by decide) ?_
    refine lv_goto (tgt := 15) C.1.1 C.1.2.1 dX3_house_11 (by decide) ?_
    exact s_X3_house_15 C hr hll post v0 v1 v0 ((1 : Int32)) _ _ _ _ hW hS (tl_sub hl [0, 1] rfl) hw
end Z_X3_house
set_option maxHeartbeats 4000000 in
set_option maxRecDepth 100000 in
theorem c_X3_house (l : Launch) (hll : l.stackTraces = false) (K : tK) (post : Int32 → tG → Prop) (v0 : Option Nat) (v1 : Int32) : Ct l yX3_house wz_X3_house ({ frames := 2, cells := 1, slots := 4, locals := 43 } : Room) 1 4 [va_rf v0, .int v1] K (retI post) (fun G => w_X3_house K post v0 v1 G) := by
  refine tc_of (cc := cX3_house) (maxL := 2) (ret := (some .int)) (own := RX3) (plainFor_of_name (by decide)) rfl rfl hll [.inr (.inr v0), .inl v1] rfl (Nat.le_of_ble_eq_true rfl) ?_
  intro p e s m args below meth c D A G ls C hr hn ht hl hW hS hw
  exact s_X3_house C hr hll post v0 v1 _ _ _ _ hW hS hl hw

/-! X1_knock -/
def wz_X1_knock : List Cond := Cond.code yX1_knock cX1_knock 1 (some .int) :: w0
section Z_X1_knock
variable {p : Program} {l : Launch} {e : Env} {s : State} {m : MethodId} {args : Array Value} {below : List Frame} {meth : Method} {c : Code} {D : va_G} {A : Nat → Prop}
set_option maxHeartbeats 4000000 in
set_option maxRecDepth 100000 in
theorem s_X1_knock {K : tK} (C : tc_B p l s m args meth c D K A wz_X1_knock RX1 cX1_knock 1) (hr : meth.sig.returnType = (some .int)) (hll : l.stackTraces = false)  (post : Int32 → tG → Prop) (v0 : Option Nat) : ∀ (G : tG) (H : Heap) (locs : List Loc) (ls : Array Slot), tg_W D A s H G → va_S A s.heap H locs → tl ls 1 [(0, .inr (.inr v0))] → w_X1_knock K post v0 G → W p l e ({ frames := 0, cells := 0, slots := 0, locals := 0 } : Room) s m args below meth c H locs 0 0 (MQ below (tc_Qc D A (retI post)) args s 0 0 A) (F0 m 0 ls []) := by
  intro G H locs ls hW hS hl hw
  unfold w_X1_knock at hw
  refine tr_aload_n (k := 0) (x := v0) C hl 0 rfl dX1_knock_0 ?_
  refine lv_dup C.1.1 C.1.2.1 dX1_knock_1 (va_rf_cat _) ?_
  refine tr_gfI (C0 := RX1) (T := TX1) (N := 4) (ci := 3) (ref := "Twinrow") (k := 2) (r := v0) C (zh hw_X1) rfl (by decide) (zm kw_17) rfl dX1_knock_2 hW hw (fun x_2 hw => ?_)
  refine lv_iconst (v := (1 : Int32)) C.1.1 C.1.2.1 dX1_knock_5 (by decide) ?_
  refine lv_iadd C.1.1 C.1.2.1 dX1_knock_6 ?_
  refine tr_pf (C0 := RX1) (T := TX1) (N := 4) (ci := 3) (ref := "Twinrow") (k := 2) (ty := .int) (v := .int ((x_2 + (1 : Int32)))) (r := v0) C (zh hw_X1) tyX1 tyX1_ok nmX1 rfl (by decide) (zm kw_17) rfl rfl (by decide +kernel) rfl rfl dX1_knock_7 hW hS hw (fun G_7 H locs hw hW hS => ?_)
  refine tr_aload_n (k := 0) (x := v0) C hl 0 rfl dX1_knock_10 ?_
  refine tr_gfI (C0 := RX1) (T := TX1) (N := 4) (ci := 3) (ref := "Twinrow") (k := 2) (r := v0) C (zh hw_X1) rfl (by decide) (zm kw_17) rfl dX1_knock_11 hW hw (fun x_11 hw => ?_)
  exact tr_iret C hr dX1_knock_14 (Nat.le_of_ble_eq_true rfl) (Nat.le_of_ble_eq_true rfl) hW hS hw
end Z_X1_knock
set_option maxHeartbeats 4000000 in
set_option maxRecDepth 100000 in
theorem c_X1_knock (l : Launch) (hll : l.stackTraces = false) (K : tK) (post : Int32 → tG → Prop) (v0 : Option Nat) : Ct l yX1_knock wz_X1_knock ({ frames := 0, cells := 0, slots := 0, locals := 0 } : Room) 0 0 [va_rf v0] K (retI post) (fun G => w_X1_knock K post v0 G) := by
  refine tc_of (cc := cX1_knock) (maxL := 1) (ret := (some .int)) (own := RX1) (plainFor_of_name (by decide)) rfl rfl hll [.inr (.inr v0)] rfl (Nat.le_of_ble_eq_true rfl) ?_
  intro p e s m args below meth c D A G ls C hr hn ht hl hW hS hw
  exact s_X1_knock C hr hll post v0 _ _ _ _ hW hS hl hw

/-! X3_knock -/
def wz_X3_knock : List Cond := Cond.code yX3_knock cX3_knock 1 (some .int) :: w0
section Z_X3_knock
variable {p : Program} {l : Launch} {e : Env} {s : State} {m : MethodId} {args : Array Value} {below : List Frame} {meth : Method} {c : Code} {D : va_G} {A : Nat → Prop}
set_option maxHeartbeats 4000000 in
set_option maxRecDepth 100000 in
theorem s_X3_knock {K : tK} (C : tc_B p l s m args meth c D K A wz_X3_knock RX3 cX3_knock 1) (hr : meth.sig.returnType = (some .int)) (hll : l.stackTraces = false)  (post : Int32 → tG → Prop) (v0 : Option Nat) : ∀ (G : tG) (H : Heap) (locs : List Loc) (ls : Array Slot), tg_W D A s H G → va_S A s.heap H locs → tl ls 1 [(0, .inr (.inr v0))] → w_X3_knock K post v0 G → W p l e ({ frames := 0, cells := 0, slots := 0, locals := 0 } : Room) s m args below meth c H locs 0 0 (MQ below (tc_Qc D A (retI post)) args s 0 0 A) (F0 m 0 ls []) := by
  intro G H locs ls hW hS hl hw
  unfold w_X3_knock at hw
  refine tr_aload_n (k := 0) (x := v0) C hl 0 rfl dX3_knock_0 ?_
  refine lv_iconst (v := (0 : Int32)) C.1.1 C.1.2.1 dX3_knock_1 (by decide) ?_
  refine tr_pf (C0 := RX3) (T := TX3) (N := 8) (ci := 5) (ref := "TwinrowModel") (k := 6) (ty := .int) (v := .int ((0 : Int32))) (r := v0) C (zh hw_X3) tyX3 tyX3_ok nmX3 rfl (by decide) (zm kw_185) rfl rfl (by decide +kernel) rfl rfl dX3_knock_2 hW hS hw (fun G_2 H locs hw hW hS => ?_)
  refine tr_aload_n (k := 0) (x := v0) C hl 0 rfl dX3_knock_5 ?_
  refine lv_dup C.1.1 C.1.2.1 dX3_knock_6 (va_rf_cat _) ?_
  refine tr_gfI (C0 := RX3) (T := TX3) (N := 8) (ci := 5) (ref := "TwinrowModel") (k := 4) (r := v0) C (zh hw_X3) rfl (by decide) (zm kw_163) rfl dX3_knock_7 hW hw (fun x_7 hw => ?_)
  refine lv_iconst (v := (1 : Int32)) C.1.1 C.1.2.1 dX3_knock_10 (by decide) ?_
  refine lv_iadd C.1.1 C.1.2.1 dX3_knock_11 ?_
  refine tr_pf (C0 := RX3) (T := TX3) (N := 8) (ci := 5) (ref := "TwinrowModel") (k := 4) (ty := .int) (v := .int ((x_7 + (1 : Int32)))) (r := v0) C (zh hw_X3) tyX3 tyX3_ok nmX3 rfl (by decide) (zm kw_163) rfl rfl (by decide +kernel) rfl rfl dX3_knock_12 hW hS hw (fun G_12 H locs hw hW hS => ?_)
  refine tr_aload_n (k := 0) (x := v0) C hl 0 rfl dX3_knock_15 ?_
  refine tr_gfI (C0 := RX3) (T := TX3) (N := 8) (ci := 5) (ref := "TwinrowModel") (k := 4) (r := v0) C (zh hw_X3) rfl (by decide) (zm kw_163) rfl dX3_knock_16 hW hw (fun x_16 hw => ?_)
  exact tr_iret C hr dX3_knock_19 (Nat.le_of_ble_eq_true rfl) (Nat.le_of_ble_eq_true rfl) hW hS hw
end Z_X3_knock
set_option maxHeartbeats 4000000 in
set_option maxRecDepth 100000 in
theorem c_X3_knock (l : Launch) (hll : l.stackTraces = false) (K : tK) (post : Int32 → tG → Prop) (v0 : Option Nat) : Ct l yX3_knock wz_X3_knock ({ frames := 0, cells := 0, slots := 0, locals := 0 } : Room) 0 0 [va_rf v0] K (retI post) (fun G => w_X3_knock K post v0 G) := by
  refine tc_of (cc := cX3_knock) (maxL := 1) (ret := (some .int)) (own := RX3) (plainFor_of_name (by decide)) rfl rfl hll [.inr (.inr v0)] rfl (Nat.le_of_ble_eq_true rfl) ?_
  intro p e s m args below meth c D A G ls C hr hn ht hl hW hS hw
  exact s_X3_knock C hr hll post v0 _ _ _ _ hW hS hl hw

/-! X1_checkPlace -/
def wz_X1_checkPlace : List Cond := Cond.code yX1_checkPlace cX1_checkPlace 2 none :: w0
section Z_X1_checkPlace
variable {p : Program} {l : Launch} {e : Env} {s : State} {m : MethodId} {args : Array Value} {below : List Frame} {meth : Method} {c : Code} {D : va_G} {A : Nat → Prop}
set_option maxHeartbeats 4000000 in
set_option maxRecDepth 100000 in
theorem s_X1_checkPlace {K : tK} (C : tc_B p l s m args meth c D K A wz_X1_checkPlace RX1 cX1_checkPlace 2) (hr : meth.sig.returnType = none) (ht : ∀ x ∈ c.exceptionTable.toList, False) (hll : l.stackTraces = false)  (post : tG → Prop) (postX : String → tG → Prop) (v0 : Option Nat) (v1 : Int32) : ∀ (G : tG) (H : Heap) (locs : List Loc) (ls : Array Slot), tg_W D A s H G → va_S A s.heap H locs → tl ls 2 [(0, .inr (.inr v0)), (1, .inl v1)] → w_X1_checkPlace K post postX v0 v1 G → W p l e ({ frames := 6, cells := 1, slots := 6, locals := 82 } : Room) s m args below meth c H locs 0 0 (vx_MQ below (tc_Qc D A (retV post)) (tc_XC D A postX) args s 1 6 A) (F0 m 0 ls []) := by
  intro G H locs ls hW hS hl hw
  unfold w_X1_checkPlace at hw
  refine tr_aload_n (k := 0) (x := v0) C hl 0 rfl dX1_checkPlace_0 ?_
  refine tr_iload_n (k := 1) (x := v1) C hl 1 rfl dX1_checkPlace_1 ?_
  refine tr_backI (tr_runV (r := v0) (As := [.int v1]) C hl.1 (c_X0_isPlace l hll K _ v0 v1) (cwV 1 C.1.2.2.2.2 (gi_V (zm kw_60) (zm kw_61) (zm kw_62) (zm kw_10) (zm kw_59)) rfl rfl rfl (by decide +kernel) ⟨(Nat.le_of_ble_eq_true rfl), (Nat.le_of_ble_eq_true rfl)⟩) rfl rfl dX1_checkPlace_2 ⟨(Nat.le_of_ble_eq_true rfl), (Nat.le_of_ble_eq_true rfl)⟩ [] rfl (Nat.le_of_ble_eq_true rfl) rfl hW hS hw) hS (fun x_2 G_2 H locs hw hW hS => ?_)
  refine lv_if_ne (tgt := 18) C.1.1 C.1.2.1 dX1_checkPlace_5 (by decide) (fun hc => ?_) (fun hc => ?_)
  · have hw := hw.1 hc
    exact vx_ret (tr_vret C hr dX1_checkPlace_18 (Nat.le_of_ble_eq_true rfl) (Nat.le_of_ble_eq_true rfl) hW hS hw)
  · have hw := hw.2 hc
    exact tx_throw (cls := "java/lang/IndexOutOfBoundsException") (text := "there is no such place") (names := ["java/lang/RuntimeException", "java/lang/Exception"]) (cn := 3) C hl.1 ht (by decide +kernel) (by decide +kernel) (zm kw_91) (zm kw_92) (by decide) (zh at_RX1_192) (by decide +kernel) (tc_kx C).2.2.1 (by decide +kernel) dX1_checkPlace_8 dX1_checkPlace_11 dX1_checkPlace_12 dX1_checkPlace_14 dX1_checkPlace_17 (Nat.le_of_ble_eq_true rfl) (Nat.le_of_ble_eq_true rfl) (Nat.le_of_ble_eq_true rfl) (Nat.le_of_ble_eq_true rfl) (Nat.le_of_ble_eq_true rfl) (Nat.le_of_ble_eq_true rfl) hW hS hw
end Z_X1_checkPlace
set_option maxHeartbeats 4000000 in
set_option maxRecDepth 100000 in
theorem c_X1_checkPlace (l : Launch) (hll : l.stackTraces = false) (K : tK) (post : tG → Prop) (postX : String → tG → Prop) (v0 : Option Nat) (v1 : Int32) : Cx l yX1_checkPlace wz_X1_checkPlace ({ frames := 6, cells := 1, slots := 6, locals := 82 } : Room) 1 6 [va_rf v0, .int v1] K (retV post) postX (fun G => w_X1_checkPlace K post postX v0 v1 G) := by
  refine tx_of (cc := cX1_checkPlace) (maxL := 2) (ret := none) (own := RX1) (by decide) rfl rfl hll [.inr (.inr v0), .inl v1] rfl (Nat.le_of_ble_eq_true rfl) ?_
  intro p e s m args below meth c D A G ls C hr hn ht hl hW hS hw
  exact s_X1_checkPlace C hr ht hll post postX v0 v1 _ _ _ _ hW hS hl hw

/-! X1_refuseIf -/
def wz_X1_refuseIf : List Cond := Cond.code yX1_refuseIf cX1_refuseIf 2 (some .int) :: w0
section Z_X1_refuseIf
variable {p : Program} {l : Launch} {e : Env} {s : State} {m : MethodId} {args : Array Value} {below : List Frame} {meth : Method} {c : Code} {D : va_G} {A : Nat → Prop}
set_option maxHeartbeats 4000000 in
set_option maxRecDepth 100000 in
theorem s_X1_refuseIf {K : tK} (C : tc_B p l s m args meth c D K A wz_X1_refuseIf RX1 cX1_refuseIf 2) (hr : meth.sig.returnType = (some .int)) (hll : l.stackTraces = false)  (post : Int32 → tG → Prop) (v0 : Option Nat) (v1 : Int32) : ∀ (G : tG) (H : Heap) (locs : List Loc) (ls : Array Slot), tg_W D A s H G → va_S A s.heap H locs → tl ls 2 [(0, .inr (.inr v0)), (1, .inl v1)] → w_X1_refuseIf K post v0 v1 G → W p l e ({ frames := 0, cells := 0, slots := 0, locals := 0 } : Room) s m args below meth c H locs 0 0 (MQ below (tc_Qc D A (retI post)) args s 0 0 A) (F0 m 0 ls []) := by
  intro G H locs ls hW hS hl hw
  unfold w_X1_refuseIf at hw
  refine tr_iload_n (k := 1) (x := v1) C hl 1 rfl dX1_refuseIf_0 ?_
  refine lv_if_ne (tgt := 6) C.1.1 C.1.2.1 dX1_refuseIf_1 (by decide) (fun hc => ?_) (fun hc => ?_)
  · have hw := hw.1 hc
    refine tr_aload_n (k := 0) (x := v0) C hl 0 rfl dX1_refuseIf_6 ?_
    refine lv_dup C.1.1 C.1.2.1 dX1_refuseIf_7 (va_rf_cat _) ?_
    refine tr_gfI (C0 := RX1) (T := TX1) (N := 4) (ci := 3) (ref := "Twinrow") (k := 3) (r := v0) C (zh hw_X1) rfl (by decide) (zm kw_18) rfl dX1_refuseIf_8 hW hw (fun x_8 hw => ?_)
    refine lv_iconst (v := (1 : Int32)) C.1.1 C.1.2.1 dX1_refuseIf_11 (by decide) ?_
    refine lv_iadd C.1.1 C.1.2.1 dX1_refuseIf_12 ?_
    refine tr_pf (C0 := RX1) (T := TX1) (N := 4) (ci := 3) (ref := "Twinrow") (k := 3) (ty := .int) (v := .int ((x_8 + (1 : Int32)))) (r := v0) C (zh hw_X1) tyX1 tyX1_ok nmX1 rfl (by decide) (zm kw_18) rfl rfl (by decide +kernel) rfl rfl dX1_refuseIf_13 hW hS hw (fun G_13 H locs hw hW hS => ?_)
    refine lv_bipush (v := (-9 : Int32)) C.1.1 C.1.2.1 dX1_refuseIf_16 (by decide) ?_
    exact tr_iret C hr dX1_refuseIf_18 (Nat.le_of_ble_eq_true rfl) (Nat.le_of_ble_eq_true rfl) hW hS hw
  · have hw := hw.2 hc
    refine lv_iconst (v := (0 : Int32)) C.1.1 C.1.2.1 dX1_refuseIf_4 (by decide) ?_
    exact tr_iret C hr dX1_refuseIf_5 (Nat.le_of_ble_eq_true rfl) (Nat.le_of_ble_eq_true rfl) hW hS hw
end Z_X1_refuseIf
set_option maxHeartbeats 4000000 in
set_option maxRecDepth 100000 in
theorem c_X1_refuseIf (l : Launch) (hll : l.stackTraces = false) (K : tK) (post : Int32 → tG → Prop) (v0 : Option Nat) (v1 : Int32) : Ct l yX1_refuseIf wz_X1_refuseIf ({ frames := 0, cells := 0, slots := 0, locals := 0 } : Room) 0 0 [va_rf v0, .int v1] K (retI post) (fun G => w_X1_refuseIf K post v0 v1 G) := by
  refine tc_of (cc := cX1_refuseIf) (maxL := 2) (ret := (some .int)) (own := RX1) (plainFor_of_name (by decide)) rfl rfl hll [.inr (.inr v0), .inl v1] rfl (Nat.le_of_ble_eq_true rfl) ?_
  intro p e s m args below meth c D A G ls C hr hn ht hl hW hS hw
  exact s_X1_refuseIf C hr hll post v0 v1 _ _ _ _ hW hS hl hw

/-! X1_walkChange -/
def wz_X1_walkChange : List Cond := Cond.code yX1_walkChange cX1_walkChange 5 (some .int) :: w0
section Z_X1_walkChange
variable {p : Program} {l : Launch} {e : Env} {s : State} {m : MethodId} {args : Array Value} {below : List Frame} {meth : Method} {c : Code} {D : va_G} {A : Nat → Prop}
set_option maxHeartbeats 4000000 in
set_option maxRecDepth 100000 in
theorem s_X1_walkChange {K : tK} (C : tc_B p l s m args meth c D K A wz_X1_walkChange RX1 cX1_walkChange 5) (hr : meth.sig.returnType = (some .int)) (ht : ∀ x ∈ c.exceptionTable.toList, False) (hll : l.stackTraces = false)  (post : Int32 → tG → Prop) (postX : String → tG → Prop) (v0 : Option Nat) (v1 : Int32) (v2 : Int32) (v3 : Int32) : ∀ (G : tG) (H : Heap) (locs : List Loc) (ls : Array Slot), tg_W D A s H G → va_S A s.heap H locs → tl ls 5 [(0, .inr (.inr v0)), (1, .inl v1), (2, .inl v2), (3, .inl v3)] → w_X1_walkChange K post postX v0 v1 v2 v3 G → W p l e ({ frames := 7, cells := 3, slots := 18, locals := 104 } : Room) s m args below meth c H locs 0 0 (vx_MQ below (tc_Qc D A (retI post)) (tc_XC D A postX) args s 3 18 A) (F0 m 0 ls []) := by
  intro G H locs ls hW hS hl hw
  unfold w_X1_walkChange at hw
  refine tr_aload_n (k := 0) (x := v0) C hl 0 rfl dX1_walkChange_0 ?_
  refine tr_iload_n (k := 1) (x := v1) C hl 1 rfl dX1_walkChange_1 ?_
  refine tx_backR (tx_runV (r := v0) (As := [.int v1]) C hl.1 (c_X1_listAt l hll K _ _ v0 v1) (cwV 1 C.1.2.2.2.2 (gi_V (zm kw_94) (zm kw_95) (zm kw_96) (zm kw_33) (zm kw_93)) rfl rfl rfl (by decide +kernel) ⟨(Nat.le_of_ble_eq_true rfl), (Nat.le_of_ble_eq_true rfl)⟩) rfl rfl dX1_walkChange_2 ⟨(Nat.le_of_ble_eq_true rfl), (Nat.le_of_ble_eq_true rfl)⟩ [] rfl (Nat.le_of_ble_eq_true rfl) rfl hW hS hw) hS C.2.1 ht (Nat.le_of_ble_eq_true rfl) (Nat.le_of_ble_eq_true rfl) (fun x_2 G_2 H locs hw hW hS => ?_)
  refine tr_astore (x := x_2) C hl [(4, .inr (.inr x_2)), (0, .inr (.inr v0)), (1, .inl v1), (2, .inl v2), (3, .inl v3)] (by decide) rfl dX1_walkChange_5 (fun ls hl => ?_)
  refine tr_aload (x := x_2) C hl 0 rfl dX1_walkChange_7 ?_
  refine tr_iload_n (k := 2) (x := v2) C hl 3 rfl dX1_walkChange_9 ?_
  refine tx_backV (tx_runS (As := [va_rf x_2, .int v2]) C hl.1 (c_X1_checkPlace l hll K _ _ x_2 v2) (va_cwS 2 C.1.2.2.2.2 (gi_S (zm kw_199) (zm kw_200) (zm kw_33) (zm kw_198)) rfl rfl rfl (by decide +kernel) ⟨(Nat.le_of_ble_eq_true rfl), (Nat.le_of_ble_eq_true rfl)⟩) rfl dX1_walkChange_10 ⟨(Nat.le_of_ble_eq_true rfl), (Nat.le_of_ble_eq_true rfl)⟩ [] rfl (Nat.le_of_ble_eq_true rfl) rfl hW hS hw) hS C.2.1 ht (Nat.le_of_ble_eq_true rfl) (Nat.le_of_ble_eq_true rfl) (fun G_10 H locs hw hW hS => ?_)
  refine tr_iload_n (k := 3) (x := v3) C hl 4 rfl dX1_walkChange_13 ?_
  refine lv_iconst (v := (0 : Int32)) C.1.1 C.1.2.1 dX1_walkChange_14 (by decide) ?_
  refine lv_iconst (v := (2 : Int32)) C.1.1 C.1.2.1 dX1_walkChange_15 (by decide) ?_
  refine tx_backV (tx_runS (As := [.int v3, .int ((0 : Int32)), .int ((2 : Int32))]) C hl.1 (c_X1_checkNumber l hll K _ _ v3 ((0 : Int32)) ((2 : Int32))) (va_cwS 3 C.1.2.2.2.2 (gi_S (zm kw_89) (zm kw_90) (zm kw_33) (zm kw_88)) rfl rfl rfl (by decide +kernel) ⟨(Nat.le_of_ble_eq_true rfl), (Nat.le_of_ble_eq_true rfl)⟩) rfl dX1_walkChange_16 ⟨(Nat.le_of_ble_eq_true rfl), (Nat.le_of_ble_eq_true rfl)⟩ [] rfl (Nat.le_of_ble_eq_true rfl) rfl hW hS hw) hS C.2.1 ht (Nat.le_of_ble_eq_true rfl) (Nat.le_of_ble_eq_true rfl) (fun G_16 H locs hw hW hS => ?_)
  refine tr_aload_n (k := 0) (x := v0) C hl 1 rfl dX1_walkChange_19 ?_
  refine lv_iconst (v := (1 : Int32)) C.1.1 C.1.2.1 dX1_walkChange_20 (by decide) ?_
  refine tr_backI (tr_runV (r := v0) (As := [.int ((1 : Int32))]) C hl.1 (c_X1_refuseIf l hll K _ v0 ((1 : Int32))) (cwV 1 C.1.2.2.2.2 (gi_V (zm kw_202) (zm kw_203) (zm kw_204) (zm kw_33) (zm kw_201)) rfl rfl rfl (by decide +kernel) ⟨(Nat.le_of_ble_eq_true rfl), (Nat.le_of_ble_eq_true rfl)⟩) rfl rfl dX1_walkChange_21 ⟨(Nat.le_of_ble_eq_true rfl), (Nat.le_of_ble_eq_true rfl)⟩ [] rfl (Nat.le_of_ble_eq_true rfl) rfl hW hS hw) hS (fun x_21 G_21 H locs hw hW hS => ?_)
  exact vx_ret (tr_iret C hr dX1_walkChange_24 (Nat.le_of_ble_eq_true rfl) (Nat.le_of_ble_eq_true rfl) hW hS hw)
end Z_X1_walkChange
set_option maxHeartbeats 4000000 in
set_option maxRecDepth 100000 in
theorem c_X1_walkChange (l : Launch) (hll : l.stackTraces = false) (K : tK) (post : Int32 → tG → Prop) (postX : String → tG → Prop) (v0 : Option Nat) (v1 : Int32) (v2 : Int32) (v3 : Int32) : Cx l yX1_walkChange wz_X1_walkChange ({ frames := 7, cells := 3, slots := 18, locals := 104 } : Room) 3 18 [va_rf v0, .int v1, .int v2, .int v3] K (retI post) postX (fun G => w_X1_walkChange K post postX v0 v1 v2 v3 G) := by
  refine tx_of (cc := cX1_walkChange) (maxL := 5) (ret := (some .int)) (own := RX1) (by decide) rfl rfl hll [.inr (.inr v0), .inl v1, .inl v2, .inl v3] rfl (Nat.le_of_ble_eq_true rfl) ?_
  intro p e s m args below meth c D A G ls C hr hn ht hl hW hS hw
  exact s_X1_walkChange C hr ht hll post postX v0 v1 v2 v3 _ _ _ _ hW hS hl hw

/-! L_walkChange -/
def wz_L_walkChange : List Cond := Cond.codeWith yL_walkChange cL_walkChange 6 (some .int) [(0, 13, 16, 19), (0, 13, 20, 21)] :: w0
section Z_L_walkChange
variable {p : Program} {l : Launch} {e : Env} {s : State} {m : MethodId} {args : Array Value} {below : List Frame} {meth : Method} {c : Code} {D : va_G} {A : Nat → Prop}
set_option maxHeartbeats 4000000 in
set_option maxRecDepth 100000 in
theorem s_L_walkChange {K : tK} (C : tc_B p l s m args meth c D K A wz_L_walkChange RL cL_walkChange 6) (hr : meth.sig.returnType = (some .int)) (htab : c.exceptionTable.toList = tableOf [(0, 13, 16, 19), (0, 13, 20, 21)]) (hcC : kx_C s) (hll : l.stackTraces = false)  (post : Int32 → tG → Prop) (v0 : Option Nat) (v1 : Int32) (v2 : Int32) (v3 : Int32) (v4 : Option Nat) : ∀ (G : tG) (H : Heap) (locs : List Loc) (ls : Array Slot), tg_W D A s H G → va_S A s.heap H locs → tl ls 6 [(0, .inr (.inr v0)), (1, .inl v1), (2, .inl v2), (3, .inl v3), (4, .inr (.inr v4))] → w_L_walkChange K post v0 v1 v2 v3 v4 G → W p l e ({ frames := 8, cells := 3, slots := 18, locals := 128 } : Room) s m args below meth c H locs 0 0 (vx_MQ below (tc_Qc D A (retI post)) (tc_XC D A (fun _ _ => False)) args s 3 18 A) (F0 m 0 ls []) := by
  intro G H locs ls hW hS hl hw
  unfold w_L_walkChange at hw
  refine tr_aload (x := v4) C hl 4 rfl dL_walkChange_0 ?_
  refine tr_aload_n (k := 0) (x := v0) C hl 0 rfl dL_walkChange_2 ?_
  refine tr_iload_n (k := 1) (x := v1) C hl 1 rfl dL_walkChange_3 ?_
  refine tr_iload_n (k := 2) (x := v2) C hl 2 rfl dL_walkChange_4 ?_
  refine tr_iload_n (k := 3) (x := v3) C hl 3 rfl dL_walkChange_5 ?_
  refine tx_backCI (tx_runV (r := v0) (As := [.int v1, .int v2, .int v3]) C hl.1 (c_X1_walkChange l hll K _ _ v0 v1 v2 v3) (cwV 3 C.1.2.2.2.2 (gi_V (zm kw_206) (zm kw_207) (zm kw_208) (zm kw_33) (zm kw_205)) rfl rfl rfl (by decide +kernel) ⟨(Nat.le_of_ble_eq_true rfl), (Nat.le_of_ble_eq_true rfl)⟩) rfl rfl dL_walkChange_6 ⟨(Nat.le_of_ble_eq_true rfl), (Nat.le_of_ble_eq_true rfl)⟩ [.inr (.inr v4)] rfl (Nat.le_of_ble_eq_true rfl) rfl hW hS hw) hS (fun E ce q9 GX H locs hw hW hS hce hcv hcl => ?_) (fun x_6 G_6 H locs hw hW hS => ?_)
  · by_cases hq0 : E = "java/lang/IndexOutOfBoundsException"
    · replace hw := hw.1 hq0
      subst hq0
      refine vx_catch (name := "java/lang/IndexOutOfBoundsException") C.1.2.2.2.1 [] (⟨0, 13, 16, 19⟩ : ExceptionTableEntry) [(⟨0, 13, 20, 21⟩ : ExceptionTableEntry)] (by rw [htab]; rfl) (fun z hz => nomatch hz) (by decide) (by decide) (C.1.2.2.2.2 _ (zm kw_209)) hcC.2.2.1 hce hcv hcl ?_
      refine tr_astore (x := (some q9)) C hl [(5, .inr (.inr (some q9))), (0, .inr (.inr v0)), (1, .inl v1), (2, .inl v2), (3, .inl v3), (4, .inr (.inr v4))] (by decide) rfl dL_walkChange_16 (fun ls hl => ?_)
      refine lv_iconst (v := (1 : Int32)) C.1.1 C.1.2.1 dL_walkChange_18 (by decide) ?_
      exact vx_ret (tr_iret C hr dL_walkChange_19 (Nat.le_of_ble_eq_true rfl) (Nat.le_of_ble_eq_true rfl) hW hS hw)
    replace hw := hw.2 hq0
    by_cases hq1 : E = "java/lang/IllegalArgumentException"
    · replace hw := hw.1 hq1
      subst hq1
      refine vx_catch (name := "java/lang/IllegalArgumentException") C.1.2.2.2.1 [(⟨0, 13, 16, 19⟩ : ExceptionTableEntry)] (⟨0, 13, 20, 21⟩ : ExceptionTableEntry) [] (by rw [htab]; rfl) (kx_pass1 C hcC rfl (by decide) (zm kw_209)) (by decide) (by decide) (C.1.2.2.2.2 _ (zm kw_188)) hcC.2.2.2.1 hce hcv hcl ?_
      refine tr_astore (x := (some q9)) C hl [(5, .inr (.inr (some q9))), (0, .inr (.inr v0)), (1, .inl v1), (2, .inl v2), (3, .inl v3), (4, .inr (.inr v4))] (by decide) rfl dL_walkChange_20 (fun ls hl => ?_)
      refine lv_iconst (v := (2 : Int32)) C.1.1 C.1.2.1 dL_walkChange_22 (by decide) ?_
      exact vx_ret (tr_iret C hr dL_walkChange_23 (Nat.le_of_ble_eq_true rfl) (Nat.le_of_ble_eq_true rfl) hW hS hw)
    replace hw := hw.2 hq1
    exact hw.elim
  · refine lv_i2l (v := ((x_6).toInt64)) C.1.1 C.1.2.1 dL_walkChange_9 rfl ?_
    refine tr_pfN (C0 := RX2) (T := TX2) (N := 2) (ci := 4) (ref := "TwinrowLaw$Out") (host := "TwinrowLaw") (k := 0) (ty := .long) (v := .long (((x_6).toInt64))) (r := v4) C (zh hw_X2) tyX2 tyX2_ok nmX2 rfl (by decide) hcC.1 rfl rfl (by decide +kernel) rfl rfl dL_walkChange_10 hW hS hw (fun G_10 H locs hw hW hS => ?_)
    refine lv_goto (tgt := 24) C.1.1 C.1.2.1 dL_walkChange_13 (by decide) ?_
    refine lv_iconst (v := (0 : Int32)) C.1.1 C.1.2.1 dL_walkChange_24 (by decide) ?_
    exact vx_ret (tr_iret C hr dL_walkChange_25 (Nat.le_of_ble_eq_true rfl) (Nat.le_of_ble_eq_true rfl) hW hS hw)
end Z_L_walkChange
set_option maxHeartbeats 4000000 in
set_option maxRecDepth 100000 in
theorem c_L_walkChange (l : Launch) (hll : l.stackTraces = false) (K : tK) (post : Int32 → tG → Prop) (v0 : Option Nat) (v1 : Int32) (v2 : Int32) (v3 : Int32) (v4 : Option Nat) : Cx l yL_walkChange wz_L_walkChange ({ frames := 8, cells := 3, slots := 18, locals := 128 } : Room) 3 18 [va_rf v0, .int v1, .int v2, .int v3, va_rf v4] K (retI post) (fun _ _ => False) (fun G => w_L_walkChange K post v0 v1 v2 v3 v4 G) := by
  refine tx_ofH (cc := cL_walkChange) (maxL := 6) (ret := (some .int)) (own := RL) (hh := [(0, 13, 16, 19), (0, 13, 20, 21)]) (by decide) rfl rfl hll [.inr (.inr v0), .inl v1, .inl v2, .inl v3, .inr (.inr v4)] rfl (Nat.le_of_ble_eq_true rfl) ?_
  intro p e s m args below meth c D A G ls C hr htab hcC hl hW hS hw
  exact s_L_walkChange C hr htab hcC hll post v0 v1 v2 v3 v4 _ _ _ _ hW hS hl hw

/-! X3_isNoList -/
def wz_X3_isNoList : List Cond := Cond.code yX3_isNoList cX3_isNoList 2 (some .boolean) :: w0
section Z_X3_isNoList
variable {p : Program} {l : Launch} {e : Env} {s : State} {m : MethodId} {args : Array Value} {below : List Frame} {meth : Method} {c : Code} {D : va_G} {A : Nat → Prop}
set_option maxHeartbeats 4000000 in
set_option maxRecDepth 100000 in
theorem s_X3_isNoList_25 {K : tK} (C : tc_B p l s m args meth c D K A wz_X3_isNoList RX3 cX3_isNoList 2) (hr : meth.sig.returnType = (some .boolean)) (hll : l.stackTraces = false)  (post : Int32 → tG → Prop) : ∀ (u0 : Int32) (G : tG) (H : Heap) (locs : List Loc) (ls : Array Slot), tg_W D A s H G → va_S A s.heap H locs → tl ls 2 [] → w_X3_isNoList_25 K post u0 G → W p l e ({ frames := 1, cells := 0, slots := 0, locals := 22 } : Room) s m args below meth c H locs 0 0 (MQ below (tc_Qc D A (retI post)) args s 0 0 A) (F0 m 25 ls [.int u0]) := by
  intro u0 G H locs ls hW hS hl hw
  unfold w_X3_isNoList_25 at hw
  exact tr_zret C hr dX3_isNoList_25 (Nat.le_of_ble_eq_true rfl) (Nat.le_of_ble_eq_true rfl) hW hS hw
set_option maxHeartbeats 4000000 in
set_option maxRecDepth 100000 in
theorem s_X3_isNoList_20 {K : tK} (C : tc_B p l s m args meth c D K A wz_X3_isNoList RX3 cX3_isNoList 2) (hr : meth.sig.returnType = (some .boolean)) (hll : l.stackTraces = false)  (post : Int32 → tG → Prop) : ∀ (G : tG) (H : Heap) (locs : List Loc) (ls : Array Slot), tg_W D A s H G → va_S A s.heap H locs → tl ls 2 [] → w_X3_isNoList_20 K post G → W p l e ({ frames := 1, cells := 0, slots := 0, locals := 22 } : Room) s m args below meth c H locs 0 0 (MQ below (tc_Qc D A (retI post)) args s 0 0 A) (F0 m 20 ls []) := by
  intro G H locs ls hW hS hl hw
  unfold w_X3_isNoList_20 at hw
  refine lv_iconst (v := (1 : Int32)) C.1.1 C.1.2.1 dX3_isNoList_20 (by decide) ?_
  refine lv_goto (tgt := 25) C.1.1 C.1.2.1 dX3_isNoList_21 (by decide) ?_
  exact s_X3_isNoList_25 C hr hll post ((1 : Int32)) _ _ _ _ hW hS (tl_sub hl [] rfl) hw
set_option maxHeartbeats 4000000 in
set_option maxRecDepth 100000 in
theorem s_X3_isNoList {K : tK} (C : tc_B p l s m args meth c D K A wz_X3_isNoList RX3 cX3_isNoList 2) (hr : meth.sig.returnType = (some .boolean)) (hll : l.stackTraces = false)  (post : Int32 → tG → Prop) (v0 : Option Nat) (v1 : Int32) : ∀ (G : tG) (H : Heap) (locs : List Loc) (ls : Array Slot), tg_W D A s H G → va_S A s.heap H locs → tl ls 2 [(0, .inr (.inr v0)), (1, .inl v1)] → w_X3_isNoList K post v0 v1 G → W p l e ({ frames := 1, cells := 0, slots := 0, locals := 22 } : Room) s m args below meth c H locs 0 0 (MQ below (tc_Qc D A (retI post)) args s 0 0 A) (F0 m 0 ls []) := by
  intro G H locs ls hW hS hl hw
  unfold w_X3_isNoList at hw
  refine tr_iload_n (k := 1) (x := v1) C hl 1 rfl dX3_isNoList_0 ?_
  refine lv_iconst (v := (0 : Int32)) C.1.1 C.1.2.1 dX3_isNoList_1 (by decide) ?_
  refine lv_bipush (v := (6 : Int32)) C.1.1 C.1.2.1 dX3_isNoList_2 (by decide) ?_
  refine tr_backI (tr_runS (As := [.int v1, .int ((0 : Int32)), .int ((6 : Int32))]) C hl.1 (c_X3_isIn l hll K _ v1 ((0 : Int32)) ((6 : Int32))) (va_cwS 3 C.1.2.2.2.2 (gi_S (zm kw_194) (zm kw_195) (zm kw_155) (zm kw_193)) rfl rfl rfl (by decide +kernel) ⟨(Nat.le_of_ble_eq_true rfl), (Nat.le_of_ble_eq_true rfl)⟩) rfl dX3_isNoList_4 ⟨(Nat.le_of_ble_eq_true rfl), (Nat.le_of_ble_eq_true rfl)⟩ [] rfl (Nat.le_of_ble_eq_true rfl) rfl hW hS hw) hS (fun x_4 G_4 H locs hw hW hS => ?_)
  refine lv_if_eq (tgt := 20) C.1.1 C.1.2.1 dX3_isNoList_7 (by decide) (fun hc => ?_) (fun hc => ?_)
  · have hw := hw.1 hc
    exact s_X3_isNoList_20 C hr hll post _ _ _ _ hW hS (tl_sub hl [] rfl) hw
  · have hw := hw.2 hc
    refine tr_aload_n (k := 0) (x := v0) C hl 0 rfl dX3_isNoList_10 ?_
    refine tr_gfR (C0 := RX3) (T := TX3) (N := 8) (ci := 5) (ref := "TwinrowModel") (k := 1) (r := v0) C (zh hw_X3) rfl (by decide) (zm kw_22) rfl dX3_isNoList_11 hW hw (fun x_11 hw => ?_)
    refine tr_iload_n (k := 1) (x := v1) C hl 1 rfl dX3_isNoList_14 ?_
    refine tr_alI (r := x_11) C dX3_isNoList_15 hW hw (fun x_15 hw => ?_)
    refine lv_iconst (v := (-1 : Int32)) C.1.1 C.1.2.1 dX3_isNoList_16 (by decide) ?_
    refine lv_icmp_ne (tgt := 24) C.1.1 C.1.2.1 dX3_isNoList_17 (by decide) (fun hc => ?_) (fun hc => ?_)
    · have hw := hw.1 hc
      refine lv_iconst (v := (0 : Int32)) C.1.1 C.1.2.1 dX3_isNoList_24 (by decide) ?_
      exact s_X3_isNoList_25 C hr hll post ((0 : Int32)) _ _ _ _ hW hS (tl_sub hl [] rfl) hw
    · have hw := hw.2 hc
      exact s_X3_isNoList_20 C hr hll post _ _ _ _ hW hS (tl_sub hl [] rfl) hw
end Z_X3_isNoList
set_option maxHeartbeats 4000000 in
set_option maxRecDepth 100000 in
theorem c_X3_isNoList (l : Launch) (hll : l.stackTraces = false) (K : tK) (post : Int32 → tG → Prop) (v0 : Option Nat) (v1 : Int32) : Ct l yX3_isNoList wz_X3_isNoList ({ frames := 1, cells := 0, slots := 0, locals := 22 } : Room) 0 0 [va_rf v0, .int v1] K (retI post) (fun G => w_X3_isNoList K post v0 v1 G) := by
  refine tc_of (cc := cX3_isNoList) (maxL := 2) (ret := (some .boolean)) (own := RX3) (plainFor_of_name (by decide)) rfl rfl hll [.inr (.inr v0), .inl v1] rfl (Nat.le_of_ble_eq_true rfl) ?_
  intro p e s m args below meth c D A G ls C hr hn ht hl hW hS hw
  exact s_X3_isNoList C hr hll post v0 v1 _ _ _ _ hW hS hl hw

/-! X3_isNoPlace -/
def wz_X3_isNoPlace : List Cond := Cond.code yX3_isNoPlace cX3_isNoPlace 3 (some .boolean) :: w0
section Z_X3_isNoPlace
variable {p : Program} {l : Launch} {e : Env} {s : State} {m : MethodId} {args : Array Value} {below : List Frame} {meth : Method} {c : Code} {D : va_G} {A : Nat → Prop}
set_option maxHeartbeats 4000000 in
set_option maxRecDepth 100000 in
theorem s_X3_isNoPlace_29 {K : tK} (C : tc_B p l s m args meth c D K A wz_X3_isNoPlace RX3 cX3_isNoPlace 3) (hr : meth.sig.returnType = (some .boolean)) (hll : l.stackTraces = false)  (post : Int32 → tG → Prop) : ∀ (u0 : Int32) (G : tG) (H : Heap) (locs : List Loc) (ls : Array Slot), tg_W D A s H G → va_S A s.heap H locs → tl ls 3 [] → w_X3_isNoPlace_29 K post u0 G → W p l e ({ frames := 2, cells := 0, slots := 0, locals := 43 } : Room) s m args below meth c H locs 0 0 (MQ below (tc_Qc D A (retI post)) args s 0 0 A) (F0 m 29 ls [.int u0]) := by
  intro u0 G H locs ls hW hS hl hw
  unfold w_X3_isNoPlace_29 at hw
  exact tr_zret C hr dX3_isNoPlace_29 (Nat.le_of_ble_eq_true rfl) (Nat.le_of_ble_eq_true rfl) hW hS hw
set_option maxHeartbeats 4000000 in
set_option maxRecDepth 100000 in
theorem s_X3_isNoPlace_24 {K : tK} (C : tc_B p l s m args meth c D K A wz_X3_isNoPlace RX3 cX3_isNoPlace 3) (hr : meth.sig.returnType = (some .boolean)) (hll : l.stackTraces = false)  (post : Int32 → tG → Prop) : ∀ (G : tG) (H : Heap) (locs : List Loc) (ls : Array Slot), tg_W D A s H G → va_S A s.heap H locs → tl ls 3 [] → w_X3_isNoPlace_24 K post G → W p l e ({ frames := 2, cells := 0, slots := 0, locals := 43 } : Room) s m args below meth c H locs 0 0 (MQ below (tc_Qc D A (retI post)) args s 0 0 A) (F0 m 24 ls []) := by
  intro G H locs ls hW hS hl hw
  unfold w_X3_isNoPlace_24 at hw
  refine lv_iconst (v := (1 : Int32)) C.1.1 C.1.2.1 dX3_isNoPlace_24 (by decide) ?_
  refine lv_goto (tgt := 29) C.1.1 C.1.2.1 dX3_isNoPlace_25 (by decide) ?_
  exact s_X3_isNoPlace_29 C hr hll post ((1 : Int32)) _ _ _ _ hW hS (tl_sub hl [] rfl) hw
set_option maxHeartbeats 4000000 in
set_option maxRecDepth 100000 in
theorem s_X3_isNoPlace {K : tK} (C : tc_B p l s m args meth c D K A wz_X3_isNoPlace RX3 cX3_isNoPlace 3) (hr : meth.sig.returnType = (some .boolean)) (hll : l.stackTraces = false)  (post : Int32 → tG → Prop) (v0 : Option Nat) (v1 : Int32) (v2 : Int32) : ∀ (G : tG) (H : Heap) (locs : List Loc) (ls : Array Slot), tg_W D A s H G → va_S A s.heap H locs → tl ls 3 [(0, .inr (.inr v0)), (1, .inl v1), (2, .inl v2)] → w_X3_isNoPlace K post v0 v1 v2 G → W p l e ({ frames := 2, cells := 0, slots := 0, locals := 43 } : Room) s m args below meth c H locs 0 0 (MQ below (tc_Qc D A (retI post)) args s 0 0 A) (F0 m 0 ls []) := by
  intro G H locs ls hW hS hl hw
  unfold w_X3_isNoPlace at hw
  refine tr_aload_n (k := 0) (x := v0) C hl 0 rfl dX3_isNoPlace_0 ?_
  refine tr_iload_n (k := 1) (x := v1) C hl 1 rfl dX3_isNoPlace_1 ?_
  refine tr_backI (tr_runV (r := v0) (As := [.int v1]) C hl.1 (c_X3_isNoList l hll K _ v0 v1) (cwV 1 C.1.2.2.2.2 (gi_V (zm kw_211) (zm kw_212) (zm kw_213) (zm kw_155) (zm kw_210)) rfl rfl rfl (by decide +kernel) ⟨(Nat.le_of_ble_eq_true rfl), (Nat.le_of_ble_eq_true rfl)⟩) rfl rfl dX3_isNoPlace_2 ⟨(Nat.le_of_ble_eq_true rfl), (Nat.le_of_ble_eq_true rfl)⟩ [] rfl (Nat.le_of_ble_eq_true rfl) rfl hW hS hw) hS (fun x_2 G_2 H locs hw hW hS => ?_)
  refine lv_if_ne (tgt := 24) C.1.1 C.1.2.1 dX3_isNoPlace_5 (by decide) (fun hc => ?_) (fun hc => ?_)
  · have hw := hw.1 hc
    exact s_X3_isNoPlace_24 C hr hll post _ _ _ _ hW hS (tl_sub hl [] rfl) hw
  · have hw := hw.2 hc
    refine tr_iload_n (k := 2) (x := v2) C hl 2 rfl dX3_isNoPlace_8 ?_
    refine lv_iconst (v := (0 : Int32)) C.1.1 C.1.2.1 dX3_isNoPlace_9 (by decide) ?_
    refine tr_aload_n (k := 0) (x := v0) C hl 0 rfl dX3_isNoPlace_10 ?_
    refine tr_gfR (C0 := RX3) (T := TX3) (N := 8) (ci := 5) (ref := "TwinrowModel") (k := 3) (r := v0) C (zh hw_X3) rfl (by decide) (zm kw_24) rfl dX3_isNoPlace_11 hW hw (fun x_11 hw => ?_)
    refine tr_iload_n (k := 1) (x := v1) C hl 1 rfl dX3_isNoPlace_14 ?_
    refine tr_alI (r := x_11) C dX3_isNoPlace_15 hW hw (fun x_15 hw => ?_)
    refine lv_iconst (v := (1 : Int32)) C.1.1 C.1.2.1 dX3_isNoPlace_16 (by decide) ?_
    refine lv_isub C.1.1 C.1.2.1 dX3_isNoPlace_17 ?_
    refine tr_backI (tr_runS (As := [.int v2, .int ((0 : Int32)), .int ((x_15 - (1 : Int32)))]) C hl.1 (c_X3_isIn l hll K _ v2 ((0 : Int32)) ((x_15 - (1 : Int32)))) (va_cwS 3 C.1.2.2.2.2 (gi_S (zm kw_194) (zm kw_195) (zm kw_155) (zm kw_193)) rfl rfl rfl (by decide +kernel) ⟨(Nat.le_of_ble_eq_true rfl), (Nat.le_of_ble_eq_true rfl)⟩) rfl dX3_isNoPlace_18 ⟨(Nat.le_of_ble_eq_true rfl), (Nat.le_of_ble_eq_true rfl)⟩ [] rfl (Nat.le_of_ble_eq_true rfl) rfl hW hS hw) hS (fun x_18 G_18 H locs hw hW hS => ?_)
    refine lv_if_ne (tgt := 28) C.1.1 C.1.2.1 dX3_isNoPlace_21 (by decide) (fun hc => ?_) (fun hc => ?_)
    · have hw := hw.1 hc
      refine lv_iconst (v := (0 : Int32)) C.1.1 C.1.2.1 dX3_isNoPlace_28 (by decide) ?_
      exact s_X3_isNoPlace_29 C hr hll post ((0 : Int32)) _ _ _ _ hW hS (tl_sub hl [] rfl) hw
    · have hw := hw.2 hc
      exact s_X3_isNoPlace_24 C hr hll post _ _ _ _ hW hS (tl_sub hl [] rfl) hw
end Z_X3_isNoPlace
set_option maxHeartbeats 4000000 in
set_option maxRecDepth 100000 in
theorem c_X3_isNoPlace (l : Launch) (hll : l.stackTraces = false) (K : tK) (post : Int32 → tG → Prop) (v0 : Option Nat) (v1 : Int32) (v2 : Int32) : Ct l yX3_isNoPlace wz_X3_isNoPlace ({ frames := 2, cells := 0, slots := 0, locals := 43 } : Room) 0 0 [va_rf v0, .int v1, .int v2] K (retI post) (fun G => w_X3_isNoPlace K post v0 v1 v2 G) := by
  refine tc_of (cc := cX3_isNoPlace) (maxL := 3) (ret := (some .boolean)) (own := RX3) (plainFor_of_name (by decide)) rfl rfl hll [.inr (.inr v0), .inl v1, .inl v2] rfl (Nat.le_of_ble_eq_true rfl) ?_
  intro p e s m args below meth c D A G ls C hr hn ht hl hW hS hw
  exact s_X3_isNoPlace C hr hll post v0 v1 v2 _ _ _ _ hW hS hl hw

/-! X3_refused -/
def wz_X3_refused : List Cond := Cond.code yX3_refused cX3_refused 1 (some .int) :: w0
section Z_X3_refused
variable {p : Program} {l : Launch} {e : Env} {s : State} {m : MethodId} {args : Array Value} {below : List Frame} {meth : Method} {c : Code} {D : va_G} {A : Nat → Prop}
set_option maxHeartbeats 4000000 in
set_option maxRecDepth 100000 in
theorem s_X3_refused {K : tK} (C : tc_B p l s m args meth c D K A wz_X3_refused RX3 cX3_refused 1) (hr : meth.sig.returnType = (some .int)) (hll : l.stackTraces = false)  (post : Int32 → tG → Prop) (v0 : Option Nat) : ∀ (G : tG) (H : Heap) (locs : List Loc) (ls : Array Slot), tg_W D A s H G → va_S A s.heap H locs → tl ls 1 [(0, .inr (.inr v0))] → w_X3_refused K post v0 G → W p l e ({ frames := 0, cells := 0, slots := 0, locals := 0 } : Room) s m args below meth c H locs 0 0 (MQ below (tc_Qc D A (retI post)) args s 0 0 A) (F0 m 0 ls []) := by
  intro G H locs ls hW hS hl hw
  unfold w_X3_refused at hw
  refine tr_aload_n (k := 0) (x := v0) C hl 0 rfl dX3_refused_0 ?_
  refine lv_dup C.1.1 C.1.2.1 dX3_refused_1 (va_rf_cat _) ?_
  refine tr_gfI (C0 := RX3) (T := TX3) (N := 8) (ci := 5) (ref := "TwinrowModel") (k := 5) (r := v0) C (zh hw_X3) rfl (by decide) (zm kw_164) rfl dX3_refused_2 hW hw (fun x_2 hw => ?_)
  refine lv_iconst (v := (1 : Int32)) C.1.1 C.1.2.1 dX3_refused_5 (by decide) ?_
  refine lv_iadd C.1.1 C.1.2.1 dX3_refused_6 ?_
  refine tr_pf (C0 := RX3) (T := TX3) (N := 8) (ci := 5) (ref := "TwinrowModel") (k := 5) (ty := .int) (v := .int ((x_2 + (1 : Int32)))) (r := v0) C (zh hw_X3) tyX3 tyX3_ok nmX3 rfl (by decide) (zm kw_164) rfl rfl (by decide +kernel) rfl rfl dX3_refused_7 hW hS hw (fun G_7 H locs hw hW hS => ?_)
  refine lv_bipush (v := (-9 : Int32)) C.1.1 C.1.2.1 dX3_refused_10 (by decide) ?_
  exact tr_iret C hr dX3_refused_12 (Nat.le_of_ble_eq_true rfl) (Nat.le_of_ble_eq_true rfl) hW hS hw
end Z_X3_refused
set_option maxHeartbeats 4000000 in
set_option maxRecDepth 100000 in
theorem c_X3_refused (l : Launch) (hll : l.stackTraces = false) (K : tK) (post : Int32 → tG → Prop) (v0 : Option Nat) : Ct l yX3_refused wz_X3_refused ({ frames := 0, cells := 0, slots := 0, locals := 0 } : Room) 0 0 [va_rf v0] K (retI post) (fun G => w_X3_refused K post v0 G) := by
  refine tc_of (cc := cX3_refused) (maxL := 1) (ret := (some .int)) (own := RX3) (plainFor_of_name (by decide)) rfl rfl hll [.inr (.inr v0)] rfl (Nat.le_of_ble_eq_true rfl) ?_
  intro p e s m args below meth c D A G ls C hr hn ht hl hW hS hw
  exact s_X3_refused C hr hll post v0 _ _ _ _ hW hS hl hw

/-! X3_walkChange -/
def wz_X3_walkChange : List Cond := Cond.code yX3_walkChange cX3_walkChange 4 (some .int) :: w0
section Z_X3_walkChange
variable {p : Program} {l : Launch} {e : Env} {s : State} {m : MethodId} {args : Array Value} {below : List Frame} {meth : Method} {c : Code} {D : va_G} {A : Nat → Prop}
set_option maxHeartbeats 4000000 in
set_option maxRecDepth 100000 in
theorem s_X3_walkChange_35 {K : tK} (C : tc_B p l s m args meth c D K A wz_X3_walkChange RX3 cX3_walkChange 4) (hr : meth.sig.returnType = (some .int)) (hll : l.stackTraces = false)  (post : Int32 → tG → Prop) : ∀ (u0 : Int32) (G : tG) (H : Heap) (locs : List Loc) (ls : Array Slot), tg_W D A s H G → va_S A s.heap H locs → tl ls 4 [] → w_X3_walkChange_35 K post u0 G → W p l e ({ frames := 3, cells := 0, slots := 0, locals := 65 } : Room) s m args below meth c H locs 0 0 (MQ below (tc_Qc D A (retI post)) args s 0 0 A) (F0 m 35 ls [.int u0]) := by
  intro u0 G H locs ls hW hS hl hw
  unfold w_X3_walkChange_35 at hw
  exact tr_iret C hr dX3_walkChange_35 (Nat.le_of_ble_eq_true rfl) (Nat.le_of_ble_eq_true rfl) hW hS hw
set_option maxHeartbeats 4000000 in
set_option maxRecDepth 100000 in
theorem s_X3_walkChange_21 {K : tK} (C : tc_B p l s m args meth c D K A wz_X3_walkChange RX3 cX3_walkChange 4) (hr : meth.sig.returnType = (some .int)) (hll : l.stackTraces = false)  (post : Int32 → tG → Prop) : ∀ (v0 : Option Nat) (u0 : Option Nat) (u1 : Int32) (u2 : Int32) (G : tG) (H : Heap) (locs : List Loc) (ls : Array Slot), tg_W D A s H G → va_S A s.heap H locs → tl ls 4 [(0, .inr (.inr v0))] → w_X3_walkChange_21 K post v0 u0 u1 u2 G → W p l e ({ frames := 3, cells := 0, slots := 0, locals := 65 } : Room) s m args below meth c H locs 0 0 (MQ below (tc_Qc D A (retI post)) args s 0 0 A) (F0 m 21 ls [.int u2, .int u1, va_rf u0]) := by
  intro v0 u0 u1 u2 G H locs ls hW hS hl hw
  unfold w_X3_walkChange_21 at hw
  refine tr_backI (tr_runV (r := u0) (As := [.int u1, .int u2]) C hl.1 (c_X3_fails l hll K _ u0 u1 u2) (cwV 2 C.1.2.2.2.2 (gi_V (zm kw_190) (zm kw_191) (zm kw_192) (zm kw_155) (zm kw_189)) rfl rfl rfl (by decide +kernel) ⟨(Nat.le_of_ble_eq_true rfl), (Nat.le_of_ble_eq_true rfl)⟩) rfl rfl dX3_walkChange_21 ⟨(Nat.le_of_ble_eq_true rfl), (Nat.le_of_ble_eq_true rfl)⟩ [] rfl (Nat.le_of_ble_eq_true rfl) rfl hW hS hw) hS (fun x_21 G_21 H locs hw hW hS => ?_)
  refine lv_if_eq (tgt := 31) C.1.1 C.1.2.1 dX3_walkChange_24 (by decide) (fun hc => ?_) (fun hc => ?_)
  · have hw := hw.1 hc
    refine tr_aload_n (k := 0) (x := v0) C hl 0 rfl dX3_walkChange_31 ?_
    refine tr_backI (tr_runV (r := v0) (As := []) C hl.1 (c_X3_refused l hll K _ v0) (cwV 0 C.1.2.2.2.2 (gi_V (zm kw_215) (zm kw_216) (zm kw_217) (zm kw_155) (zm kw_214)) rfl rfl rfl (by decide +kernel) ⟨(Nat.le_of_ble_eq_true rfl), (Nat.le_of_ble_eq_true rfl)⟩) rfl rfl dX3_walkChange_32 ⟨(Nat.le_of_ble_eq_true rfl), (Nat.le_of_ble_eq_true rfl)⟩ [] rfl (Nat.le_of_ble_eq_true rfl) rfl hW hS hw) hS (fun x_32 G_32 H locs hw hW hS => ?_)
    exact s_X3_walkChange_35 C hr hll post x_32 _ _ _ _ hW hS (tl_sub hl [] rfl) hw
  · have hw := hw.2 hc
    refine lv_iconst (v := (0 : Int32)) C.1.1 C.1.2.1 dX3_walkChange_27 (by decide) ?_
    refine lv_goto (tgt := 35) C.1.1 C.1.2.1 dX3_walkChange_28 (by decide) ?_
    exact s_X3_walkChange_35 C hr hll post ((0 : Int32)) _ _ _ _ hW hS (tl_sub hl [] rfl) hw
set_option maxHeartbeats 4000000 in
set_option maxRecDepth 100000 in
theorem s_X3_walkChange {K : tK} (C : tc_B p l s m args meth c D K A wz_X3_walkChange RX3 cX3_walkChange 4) (hr : meth.sig.returnType = (some .int)) (hll : l.stackTraces = false)  (post : Int32 → tG → Prop) (v0 : Option Nat) (v1 : Int32) (v2 : Int32) (v3 : Int32) : ∀ (G : tG) (H : Heap) (locs : List Loc) (ls : Array Slot), tg_W D A s H G → va_S A s.heap H locs → tl ls 4 [(0, .inr (.inr v0)), (1, .inl v1), (2, .inl v2), (3, .inl v3)] → w_X3_walkChange K post v0 v1 v2 v3 G → W p l e ({ frames := 3, cells := 0, slots := 0, locals := 65 } : Room) s m args below meth c H locs 0 0 (MQ below (tc_Qc D A (retI post)) args s 0 0 A) (F0 m 0 ls []) := by
  intro G H locs ls hW hS hl hw
  unfold w_X3_walkChange at hw
  refine tr_aload_n (k := 0) (x := v0) C hl 0 rfl dX3_walkChange_0 ?_
  refine tr_aload_n (k := 0) (x := v0) C hl 0 rfl dX3_walkChange_1 ?_
  refine tr_iload_n (k := 1) (x := v1) C hl 1 rfl dX3_walkChange_2 ?_
  refine tr_iload_n (k := 2) (x := v2) C hl 2 rfl dX3_walkChange_3 ?_
  refine tr_backI (tr_runV (r := v0) (As := [.int v1, .int v2]) C hl.1 (c_X3_isNoPlace l hll K _ v0 v1 v2) (cwV 2 C.1.2.2.2.2 (gi_V (zm kw_219) (zm kw_220) (zm kw_221) (zm kw_155) (zm kw_218)) rfl rfl rfl (by decide +kernel) ⟨(Nat.le_of_ble_eq_true rfl), (Nat.le_of_ble_eq_true rfl)⟩) rfl rfl dX3_walkChange_4 ⟨(Nat.le_of_ble_eq_true rfl), (Nat.le_of_ble_eq_true rfl)⟩ [.inr (.inr v0)] rfl (Nat.le_of_ble_eq_true rfl) rfl hW hS hw) hS (fun x_4 G_4 H locs hw hW hS => ?_)
  refine tr_iload_n (k := 3) (x := v3) C hl 3 rfl dX3_walkChange_7 ?_
  refine lv_iconst (v := (0 : Int32)) C.1.1 C.1.2.1 dX3_walkChange_8 (by decide) ?_
  refine lv_iconst (v := (2 : Int32)) C.1.1 C.1.2.1 dX3_walkChange_9 (by decide) ?_
  refine tr_backI (tr_runS (As := [.int v3, .int ((0 : Int32)), .int ((2 : Int32))]) C hl.1 (c_X3_isIn l hll K _ v3 ((0 : Int32)) ((2 : Int32))) (va_cwS 3 C.1.2.2.2.2 (gi_S (zm kw_194) (zm kw_195) (zm kw_155) (zm kw_193)) rfl rfl rfl (by decide +kernel) ⟨(Nat.le_of_ble_eq_true rfl), (Nat.le_of_ble_eq_true rfl)⟩) rfl dX3_walkChange_10 ⟨(Nat.le_of_ble_eq_true rfl), (Nat.le_of_ble_eq_true rfl)⟩ [.inl x_4, .inr (.inr v0)] rfl (Nat.le_of_ble_eq_true rfl) rfl hW hS hw) hS (fun x_10 G_10 H locs hw hW hS => ?_)
  refine lv_if_ne (tgt := 20) C.1.1 C.1.2.1 dX3_walkChange_13 (by decide) (fun hc => ?_) (fun hc => ?_)
  · have hw := hw.1 hc
    refine lv_iconst (v := (0 : Int32)) C.1.1 C.1.2.1 dX3_walkChange_20 (by decide) ?_
    exact s_X3_walkChange_21 C hr hll post v0 v0 x_4 ((0 : Int32)) _ _ _ _ hW hS (tl_sub hl [0] rfl) hw
  · have hw := hw.2 hc
    refine lv_iconst (v := (1 : Int32)) C.1.1 C.1.2.1 dX3_walkChange_16 (by decide) ?_
    refine lv_goto (tgt := 21) C.1.1 C.1.2.1 dX3_walkChange_17 (by decide) ?_
    exact s_X3_walkChange_21 C hr hll post v0 v0 x_4 ((1 : Int32)) _ _ _ _ hW hS (tl_sub hl [0] rfl) hw
end Z_X3_walkChange
set_option maxHeartbeats 4000000 in
set_option maxRecDepth 100000 in
theorem c_X3_walkChange (l : Launch) (hll : l.stackTraces = false) (K : tK) (post : Int32 → tG → Prop) (v0 : Option Nat) (v1 : Int32) (v2 : Int32) (v3 : Int32) : Ct l yX3_walkChange wz_X3_walkChange ({ frames := 3, cells := 0, slots := 0, locals := 65 } : Room) 0 0 [va_rf v0, .int v1, .int v2, .int v3] K (retI post) (fun G => w_X3_walkChange K post v0 v1 v2 v3 G) := by
  refine tc_of (cc := cX3_walkChange) (maxL := 4) (ret := (some .int)) (own := RX3) (plainFor_of_name (by decide)) rfl rfl hll [.inr (.inr v0), .inl v1, .inl v2, .inl v3] rfl (Nat.le_of_ble_eq_true rfl) ?_
  intro p e s m args below meth c D A G ls C hr hn ht hl hW hS hw
  exact s_X3_walkChange C hr hll post v0 v1 v2 v3 _ _ _ _ hW hS hl hw

/-! X1_clear -/
def wz_X1_clear : List Cond := Cond.code yX1_clear cX1_clear 2 (some .int) :: w0
section Z_X1_clear
variable {p : Program} {l : Launch} {e : Env} {s : State} {m : MethodId} {args : Array Value} {below : List Frame} {meth : Method} {c : Code} {D : va_G} {A : Nat → Prop}
set_option maxHeartbeats 4000000 in
set_option maxRecDepth 100000 in
theorem s_X1_clear_17 {K : tK} (C : tc_B p l s m args meth c D K A wz_X1_clear RX1 cX1_clear 2) (hr : meth.sig.returnType = (some .int)) (ht : ∀ x ∈ c.exceptionTable.toList, False) (hll : l.stackTraces = false)  (post : Int32 → tG → Prop) (postX : String → tG → Prop) : ∀ (u0 : Option Nat) (u1 : Int32) (G : tG) (H : Heap) (locs : List Loc) (ls : Array Slot), tg_W D A s H G → va_S A s.heap H locs → tl ls 2 [] → w_X1_clear_17 K post postX u0 u1 G → W p l e ({ frames := 7, cells := 1, slots := 6, locals := 104 } : Room) s m args below meth c H locs 1 6 (vx_MQ below (tc_Qc D A (retI post)) (tc_XC D A postX) args s 1 6 A) (F0 m 17 ls [.int u1, va_rf u0]) := by
  intro u0 u1 G H locs ls hW hS hl hw
  unfold w_X1_clear_17 at hw
  refine tr_backI (tr_runV (r := u0) (As := [.int u1]) C hl.1 (c_X1_refuseIf l hll K _ u0 u1) (cwV 1 C.1.2.2.2.2 (gi_V (zm kw_202) (zm kw_203) (zm kw_204) (zm kw_33) (zm kw_201)) rfl rfl rfl (by decide +kernel) ⟨(Nat.le_of_ble_eq_true rfl), (Nat.le_of_ble_eq_true rfl)⟩) rfl rfl dX1_clear_17 ⟨(Nat.le_of_ble_eq_true rfl), (Nat.le_of_ble_eq_true rfl)⟩ [] rfl (Nat.le_of_ble_eq_true rfl) rfl hW hS hw) hS (fun x_17 G_17 H locs hw hW hS => ?_)
  exact vx_ret (tr_iret C hr dX1_clear_20 (Nat.le_of_ble_eq_true rfl) (Nat.le_of_ble_eq_true rfl) hW hS hw)
set_option maxHeartbeats 4000000 in
set_option maxRecDepth 100000 in
theorem s_X1_clear {K : tK} (C : tc_B p l s m args meth c D K A wz_X1_clear RX1 cX1_clear 2) (hr : meth.sig.returnType = (some .int)) (ht : ∀ x ∈ c.exceptionTable.toList, False) (hll : l.stackTraces = false)  (post : Int32 → tG → Prop) (postX : String → tG → Prop) (v0 : Option Nat) (v1 : Int32) : ∀ (G : tG) (H : Heap) (locs : List Loc) (ls : Array Slot), tg_W D A s H G → va_S A s.heap H locs → tl ls 2 [(0, .inr (.inr v0)), (1, .inl v1)] → w_X1_clear K post postX v0 v1 G → W p l e ({ frames := 7, cells := 1, slots := 6, locals := 104 } : Room) s m args below meth c H locs 0 0 (vx_MQ below (tc_Qc D A (retI post)) (tc_XC D A postX) args s 1 6 A) (F0 m 0 ls []) := by
  intro G H locs ls hW hS hl hw
  unfold w_X1_clear at hw
  refine tr_aload_n (k := 0) (x := v0) C hl 0 rfl dX1_clear_0 ?_
  refine tr_aload_n (k := 0) (x := v0) C hl 0 rfl dX1_clear_1 ?_
  refine tr_iload_n (k := 1) (x := v1) C hl 1 rfl dX1_clear_2 ?_
  refine tx_backR (tx_runV (r := v0) (As := [.int v1]) C hl.1 (c_X1_listAt l hll K _ _ v0 v1) (cwV 1 C.1.2.2.2.2 (gi_V (zm kw_94) (zm kw_95) (zm kw_96) (zm kw_33) (zm kw_93)) rfl rfl rfl (by decide +kernel) ⟨(Nat.le_of_ble_eq_true rfl), (Nat.le_of_ble_eq_true rfl)⟩) rfl rfl dX1_clear_3 ⟨(Nat.le_of_ble_eq_true rfl), (Nat.le_of_ble_eq_true rfl)⟩ [.inr (.inr v0)] rfl (Nat.le_of_ble_eq_true rfl) rfl hW hS hw) hS C.2.1 ht (Nat.le_of_ble_eq_true rfl) (Nat.le_of_ble_eq_true rfl) (fun x_3 G_3 H locs hw hW hS => ?_)
  refine tr_gfI (C0 := RX0) (T := TX0) (N := 4) (ci := 2) (ref := "Twinrow$RowList") (k := 3) (r := x_3) C (zh hw_X0) rfl (by decide) (zm kw_34) rfl dX1_clear_6 hW hw (fun x_6 hw => ?_)
  refine lv_if_le (tgt := 16) C.1.1 C.1.2.1 dX1_clear_9 (by decide) (fun hc => ?_) (fun hc => ?_)
  · have hw := hw.1 hc
    refine lv_iconst (v := (0 : Int32)) C.1.1 C.1.2.1 dX1_clear_16 (by decide) ?_
    exact s_X1_clear_17 C hr ht hll post postX v0 ((0 : Int32)) _ _ _ _ hW hS (tl_sub hl [] rfl) hw
  · have hw := hw.2 hc
    refine lv_iconst (v := (1 : Int32)) C.1.1 C.1.2.1 dX1_clear_12 (by decide) ?_
    refine lv_goto (tgt := 17) C.1.1 C.1.2.1 dX1_clear_13 (by decide) ?_
    exact s_X1_clear_17 C hr ht hll post postX v0 ((1 : Int32)) _ _ _ _ hW hS (tl_sub hl [] rfl) hw
end Z_X1_clear
set_option maxHeartbeats 4000000 in
set_option maxRecDepth 100000 in
theorem c_X1_clear (l : Launch) (hll : l.stackTraces = false) (K : tK) (post : Int32 → tG → Prop) (postX : String → tG → Prop) (v0 : Option Nat) (v1 : Int32) : Cx l yX1_clear wz_X1_clear ({ frames := 7, cells := 1, slots := 6, locals := 104 } : Room) 1 6 [va_rf v0, .int v1] K (retI post) postX (fun G => w_X1_clear K post postX v0 v1 G) := by
  refine tx_of (cc := cX1_clear) (maxL := 2) (ret := (some .int)) (own := RX1) (by decide) rfl rfl hll [.inr (.inr v0), .inl v1] rfl (Nat.le_of_ble_eq_true rfl) ?_
  intro p e s m args below meth c D A G ls C hr hn ht hl hW hS hw
  exact s_X1_clear C hr ht hll post postX v0 v1 _ _ _ _ hW hS hl hw

/-! L_clear -/
def wz_L_clear : List Cond := Cond.codeWith yL_clear cL_clear 4 (some .int) [(0, 10, 13, 19)] :: w0
section Z_L_clear
variable {p : Program} {l : Launch} {e : Env} {s : State} {m : MethodId} {args : Array Value} {below : List Frame} {meth : Method} {c : Code} {D : va_G} {A : Nat → Prop}
set_option maxHeartbeats 4000000 in
set_option maxRecDepth 100000 in
theorem s_L_clear {K : tK} (C : tc_B p l s m args meth c D K A wz_L_clear RL cL_clear 4) (hr : meth.sig.returnType = (some .int)) (htab : c.exceptionTable.toList = tableOf [(0, 10, 13, 19)]) (hcC : kx_C s) (hll : l.stackTraces = false)  (post : Int32 → tG → Prop) (v0 : Option Nat) (v1 : Int32) (v2 : Option Nat) : ∀ (G : tG) (H : Heap) (locs : List Loc) (ls : Array Slot), tg_W D A s H G → va_S A s.heap H locs → tl ls 4 [(0, .inr (.inr v0)), (1, .inl v1), (2, .inr (.inr v2))] → w_L_clear K post v0 v1 v2 G → W p l e ({ frames := 8, cells := 1, slots := 6, locals := 125 } : Room) s m args below meth c H locs 0 0 (vx_MQ below (tc_Qc D A (retI post)) (tc_XC D A (fun _ _ => False)) args s 1 6 A) (F0 m 0 ls []) := by
  intro G H locs ls hW hS hl hw
  unfold w_L_clear at hw
  refine tr_aload_n (k := 2) (x := v2) C hl 2 rfl dL_clear_0 ?_
  refine tr_aload_n (k := 0) (x := v0) C hl 0 rfl dL_clear_1 ?_
  refine tr_iload_n (k := 1) (x := v1) C hl 1 rfl dL_clear_2 ?_
  refine tx_backCI (tx_runV (r := v0) (As := [.int v1]) C hl.1 (c_X1_clear l hll K _ _ v0 v1) (cwV 1 C.1.2.2.2.2 (gi_V (zm kw_223) (zm kw_224) (zm kw_225) (zm kw_33) (zm kw_222)) rfl rfl rfl (by decide +kernel) ⟨(Nat.le_of_ble_eq_true rfl), (Nat.le_of_ble_eq_true rfl)⟩) rfl rfl dL_clear_3 ⟨(Nat.le_of_ble_eq_true rfl), (Nat.le_of_ble_eq_true rfl)⟩ [.inr (.inr v2)] rfl (Nat.le_of_ble_eq_true rfl) rfl hW hS hw) hS (fun E ce q9 GX H locs hw hW hS hce hcv hcl => ?_) (fun x_3 G_3 H locs hw hW hS => ?_)
  · by_cases hq0 : E = "java/lang/IndexOutOfBoundsException"
    · replace hw := hw.1 hq0
      subst hq0
      refine vx_catch (name := "java/lang/IndexOutOfBoundsException") C.1.2.2.2.1 [] (⟨0, 10, 13, 19⟩ : ExceptionTableEntry) [] (by rw [htab]; rfl) (fun z hz => nomatch hz) (by decide) (by decide) (C.1.2.2.2.2 _ (zm kw_209)) hcC.2.2.1 hce hcv hcl ?_
      refine tr_astore_n (k := 3) (x := (some q9)) C hl [(3, .inr (.inr (some q9))), (0, .inr (.inr v0)), (1, .inl v1), (2, .inr (.inr v2))] (by decide) rfl dL_clear_13 (fun ls hl => ?_)
      refine lv_iconst (v := (1 : Int32)) C.1.1 C.1.2.1 dL_clear_14 (by decide) ?_
      exact vx_ret (tr_iret C hr dL_clear_15 (Nat.le_of_ble_eq_true rfl) (Nat.le_of_ble_eq_true rfl) hW hS hw)
    replace hw := hw.2 hq0
    exact hw.elim
  · refine lv_i2l (v := ((x_3).toInt64)) C.1.1 C.1.2.1 dL_clear_6 rfl ?_
    refine tr_pfN (C0 := RX2) (T := TX2) (N := 2) (ci := 4) (ref := "TwinrowLaw$Out") (host := "TwinrowLaw") (k := 0) (ty := .long) (v := .long (((x_3).toInt64))) (r := v2) C (zh hw_X2) tyX2 tyX2_ok nmX2 rfl (by decide) hcC.1 rfl rfl (by decide +kernel) rfl rfl dL_clear_7 hW hS hw (fun G_7 H locs hw hW hS => ?_)
    refine lv_goto (tgt := 16) C.1.1 C.1.2.1 dL_clear_10 (by decide) ?_
    refine lv_iconst (v := (0 : Int32)) C.1.1 C.1.2.1 dL_clear_16 (by decide) ?_
    exact vx_ret (tr_iret C hr dL_clear_17 (Nat.le_of_ble_eq_true rfl) (Nat.le_of_ble_eq_true rfl) hW hS hw)
end Z_L_clear
set_option maxHeartbeats 4000000 in
set_option maxRecDepth 100000 in
theorem c_L_clear (l : Launch) (hll : l.stackTraces = false) (K : tK) (post : Int32 → tG → Prop) (v0 : Option Nat) (v1 : Int32) (v2 : Option Nat) : Cx l yL_clear wz_L_clear ({ frames := 8, cells := 1, slots := 6, locals := 125 } : Room) 1 6 [va_rf v0, .int v1, va_rf v2] K (retI post) (fun _ _ => False) (fun G => w_L_clear K post v0 v1 v2 G) := by
  refine tx_ofH (cc := cL_clear) (maxL := 4) (ret := (some .int)) (own := RL) (hh := [(0, 10, 13, 19)]) (by decide) rfl rfl hll [.inr (.inr v0), .inl v1, .inr (.inr v2)] rfl (Nat.le_of_ble_eq_true rfl) ?_
  intro p e s m args below meth c D A G ls C hr htab hcC hl hW hS hw
  exact s_L_clear C hr htab hcC hll post v0 v1 v2 _ _ _ _ hW hS hl hw

/-! X3_refusedIf -/
def wz_X3_refusedIf : List Cond := Cond.code yX3_refusedIf cX3_refusedIf 2 (some .int) :: w0
section Z_X3_refusedIf
variable {p : Program} {l : Launch} {e : Env} {s : State} {m : MethodId} {args : Array Value} {below : List Frame} {meth : Method} {c : Code} {D : va_G} {A : Nat → Prop}
set_option maxHeartbeats 4000000 in
set_option maxRecDepth 100000 in
theorem s_X3_refusedIf_12 {K : tK} (C : tc_B p l s m args meth c D K A wz_X3_refusedIf RX3 cX3_refusedIf 2) (hr : meth.sig.returnType = (some .int)) (hll : l.stackTraces = false)  (post : Int32 → tG → Prop) : ∀ (u0 : Int32) (G : tG) (H : Heap) (locs : List Loc) (ls : Array Slot), tg_W D A s H G → va_S A s.heap H locs → tl ls 2 [] → w_X3_refusedIf_12 K post u0 G → W p l e ({ frames := 1, cells := 0, slots := 0, locals := 20 } : Room) s m args below meth c H locs 0 0 (MQ below (tc_Qc D A (retI post)) args s 0 0 A) (F0 m 12 ls [.int u0]) := by
  intro u0 G H locs ls hW hS hl hw
  unfold w_X3_refusedIf_12 at hw
  exact tr_iret C hr dX3_refusedIf_12 (Nat.le_of_ble_eq_true rfl) (Nat.le_of_ble_eq_true rfl) hW hS hw
set_option maxHeartbeats 4000000 in
set_option maxRecDepth 100000 in
theorem s_X3_refusedIf {K : tK} (C : tc_B p l s m args meth c D K A wz_X3_refusedIf RX3 cX3_refusedIf 2) (hr : meth.sig.returnType = (some .int)) (hll : l.stackTraces = false)  (post : Int32 → tG → Prop) (v0 : Option Nat) (v1 : Int32) : ∀ (G : tG) (H : Heap) (locs : List Loc) (ls : Array Slot), tg_W D A s H G → va_S A s.heap H locs → tl ls 2 [(0, .inr (.inr v0)), (1, .inl v1)] → w_X3_refusedIf K post v0 v1 G → W p l e ({ frames := 1, cells := 0, slots := 0, locals := 20 } : Room) s m args below meth c H locs 0 0 (MQ below (tc_Qc D A (retI post)) args s 0 0 A) (F0 m 0 ls []) := by
  intro G H locs ls hW hS hl hw
  unfold w_X3_refusedIf at hw
  refine tr_iload_n (k := 1) (x := v1) C hl 1 rfl dX3_refusedIf_0 ?_
  refine lv_if_eq (tgt := 11) C.1.1 C.1.2.1 dX3_refusedIf_1 (by decide) (fun hc => ?_) (fun hc => ?_)
  · have hw := hw.1 hc
    refine lv_iconst (v := (0 : Int32)) C.1.1 C.1.2.1 dX3_refusedIf_11 (by decide) ?_
    exact s_X3_refusedIf_12 C hr hll post ((0 : Int32)) _ _ _ _ hW hS (tl_sub hl [] rfl) hw
  · have hw := hw.2 hc
    refine tr_aload_n (k := 0) (x := v0) C hl 0 rfl dX3_refusedIf_4 ?_
    refine tr_backI (tr_runV (r := v0) (As := []) C hl.1 (c_X3_refused l hll K _ v0) (cwV 0 C.1.2.2.2.2 (gi_V (zm kw_215) (zm kw_216) (zm kw_217) (zm kw_155) (zm kw_214)) rfl rfl rfl (by decide +kernel) ⟨(Nat.le_of_ble_eq_true rfl), (Nat.le_of_ble_eq_true rfl)⟩) rfl rfl dX3_refusedIf_5 ⟨(Nat.le_of_ble_eq_true rfl), (Nat.le_of_ble_eq_true rfl)⟩ [] rfl (Nat.le_of_ble_eq_true rfl) rfl hW hS hw) hS (fun x_5 G_5 H locs hw hW hS => ?_)
    refine lv_goto (tgt := 12) C.1.1 C.1.2.1 dX3_refusedIf_8 (by decide) ?_
    exact s_X3_refusedIf_12 C hr hll post x_5 _ _ _ _ hW hS (tl_sub hl [] rfl) hw
end Z_X3_refusedIf
set_option maxHeartbeats 4000000 in
set_option maxRecDepth 100000 in
theorem c_X3_refusedIf (l : Launch) (hll : l.stackTraces = false) (K : tK) (post : Int32 → tG → Prop) (v0 : Option Nat) (v1 : Int32) : Ct l yX3_refusedIf wz_X3_refusedIf ({ frames := 1, cells := 0, slots := 0, locals := 20 } : Room) 0 0 [va_rf v0, .int v1] K (retI post) (fun G => w_X3_refusedIf K post v0 v1 G) := by
  refine tc_of (cc := cX3_refusedIf) (maxL := 2) (ret := (some .int)) (own := RX3) (plainFor_of_name (by decide)) rfl rfl hll [.inr (.inr v0), .inl v1] rfl (Nat.le_of_ble_eq_true rfl) ?_
  intro p e s m args below meth c D A G ls C hr hn ht hl hW hS hw
  exact s_X3_refusedIf C hr hll post v0 v1 _ _ _ _ hW hS hl hw

/-! X3_clear -/
def wz_X3_clear : List Cond := Cond.code yX3_clear cX3_clear 2 (some .int) :: w0
section Z_X3_clear
variable {p : Program} {l : Launch} {e : Env} {s : State} {m : MethodId} {args : Array Value} {below : List Frame} {meth : Method} {c : Code} {D : va_G} {A : Nat → Prop}
set_option maxHeartbeats 4000000 in
set_option maxRecDepth 100000 in
theorem s_X3_clear_35 {K : tK} (C : tc_B p l s m args meth c D K A wz_X3_clear RX3 cX3_clear 2) (hr : meth.sig.returnType = (some .int)) (hll : l.stackTraces = false)  (post : Int32 → tG → Prop) : ∀ (u0 : Int32) (G : tG) (H : Heap) (locs : List Loc) (ls : Array Slot), tg_W D A s H G → va_S A s.heap H locs → tl ls 2 [] → w_X3_clear_35 K post u0 G → W p l e ({ frames := 2, cells := 0, slots := 0, locals := 43 } : Room) s m args below meth c H locs 0 0 (MQ below (tc_Qc D A (retI post)) args s 0 0 A) (F0 m 35 ls [.int u0]) := by
  intro u0 G H locs ls hW hS hl hw
  unfold w_X3_clear_35 at hw
  exact tr_iret C hr dX3_clear_35 (Nat.le_of_ble_eq_true rfl) (Nat.le_of_ble_eq_true rfl) hW hS hw
set_option maxHeartbeats 4000000 in
set_option maxRecDepth 100000 in
theorem s_X3_clear_32 {K : tK} (C : tc_B p l s m args meth c D K A wz_X3_clear RX3 cX3_clear 2) (hr : meth.sig.returnType = (some .int)) (hll : l.stackTraces = false)  (post : Int32 → tG → Prop) : ∀ (u0 : Option Nat) (u1 : Int32) (G : tG) (H : Heap) (locs : List Loc) (ls : Array Slot), tg_W D A s H G → va_S A s.heap H locs → tl ls 2 [] → w_X3_clear_32 K post u0 u1 G → W p l e ({ frames := 2, cells := 0, slots := 0, locals := 43 } : Room) s m args below meth c H locs 0 0 (MQ below (tc_Qc D A (retI post)) args s 0 0 A) (F0 m 32 ls [.int u1, va_rf u0]) := by
  intro u0 u1 G H locs ls hW hS hl hw
  unfold w_X3_clear_32 at hw
  refine tr_backI (tr_runV (r := u0) (As := [.int u1]) C hl.1 (c_X3_refusedIf l hll K _ u0 u1) (cwV 1 C.1.2.2.2.2 (gi_V (zm kw_227) (zm kw_228) (zm kw_229) (zm kw_155) (zm kw_226)) rfl rfl rfl (by decide +kernel) ⟨(Nat.le_of_ble_eq_true rfl), (Nat.le_of_ble_eq_true rfl)⟩) rfl rfl dX3_clear_32 ⟨(Nat.le_of_ble_eq_true rfl), (Nat.le_of_ble_eq_true rfl)⟩ [] rfl (Nat.le_of_ble_eq_true rfl) rfl hW hS hw) hS (fun x_32 G_32 H locs hw hW hS => ?_)
  exact s_X3_clear_35 C hr hll post x_32 _ _ _ _ hW hS (tl_sub hl [] rfl) hw
set_option maxHeartbeats 4000000 in
set_option maxRecDepth 100000 in
theorem s_X3_clear {K : tK} (C : tc_B p l s m args meth c D K A wz_X3_clear RX3 cX3_clear 2) (hr : meth.sig.returnType = (some .int)) (hll : l.stackTraces = false)  (post : Int32 → tG → Prop) (v0 : Option Nat) (v1 : Int32) : ∀ (G : tG) (H : Heap) (locs : List Loc) (ls : Array Slot), tg_W D A s H G → va_S A s.heap H locs → tl ls 2 [(0, .inr (.inr v0)), (1, .inl v1)] → w_X3_clear K post v0 v1 G → W p l e ({ frames := 2, cells := 0, slots := 0, locals := 43 } : Room) s m args below meth c H locs 0 0 (MQ below (tc_Qc D A (retI post)) args s 0 0 A) (F0 m 0 ls []) := by
  intro G H locs ls hW hS hl hw
  unfold w_X3_clear at hw
  refine tr_aload_n (k := 0) (x := v0) C hl 0 rfl dX3_clear_0 ?_
  refine tr_aload_n (k := 0) (x := v0) C hl 0 rfl dX3_clear_1 ?_
  refine tr_iload_n (k := 1) (x := v1) C hl 1 rfl dX3_clear_2 ?_
  refine tr_backI (tr_runV (r := v0) (As := [.int v1]) C hl.1 (c_X3_isNoList l hll K _ v0 v1) (cwV 1 C.1.2.2.2.2 (gi_V (zm kw_211) (zm kw_212) (zm kw_213) (zm kw_155) (zm kw_210)) rfl rfl rfl (by decide +kernel) ⟨(Nat.le_of_ble_eq_true rfl), (Nat.le_of_ble_eq_true rfl)⟩) rfl rfl dX3_clear_3 ⟨(Nat.le_of_ble_eq_true rfl), (Nat.le_of_ble_eq_true rfl)⟩ [.inr (.inr v0)] rfl (Nat.le_of_ble_eq_true rfl) rfl hW hS hw) hS (fun x_3 G_3 H locs hw hW hS => ?_)
  refine lv_iconst (v := (0 : Int32)) C.1.1 C.1.2.1 dX3_clear_6 (by decide) ?_
  refine tr_backI (tr_runV (r := v0) (As := [.int x_3, .int ((0 : Int32))]) C hl.1 (c_X3_fails l hll K _ v0 x_3 ((0 : Int32))) (cwV 2 C.1.2.2.2.2 (gi_V (zm kw_190) (zm kw_191) (zm kw_192) (zm kw_155) (zm kw_189)) rfl rfl rfl (by decide +kernel) ⟨(Nat.le_of_ble_eq_true rfl), (Nat.le_of_ble_eq_true rfl)⟩) rfl rfl dX3_clear_7 ⟨(Nat.le_of_ble_eq_true rfl), (Nat.le_of_ble_eq_true rfl)⟩ [] rfl (Nat.le_of_ble_eq_true rfl) rfl hW hS hw) hS (fun x_7 G_7 H locs hw hW hS => ?_)
  refine lv_if_eq (tgt := 17) C.1.1 C.1.2.1 dX3_clear_10 (by decide) (fun hc => ?_) (fun hc => ?_)
  · have hw := hw.1 hc
    refine tr_aload_n (k := 0) (x := v0) C hl 0 rfl dX3_clear_17 ?_
    refine tr_aload_n (k := 0) (x := v0) C hl 0 rfl dX3_clear_18 ?_
    refine tr_gfR (C0 := RX3) (T := TX3) (N := 8) (ci := 5) (ref := "TwinrowModel") (k := 3) (r := v0) C (zh hw_X3) rfl (by decide) (zm kw_24) rfl dX3_clear_19 hW hw (fun x_19 hw => ?_)
    refine tr_iload_n (k := 1) (x := v1) C hl 1 rfl dX3_clear_22 ?_
    refine tr_alI (r := x_19) C dX3_clear_23 hW hw (fun x_23 hw => ?_)
    refine lv_if_le (tgt := 31) C.1.1 C.1.2.1 dX3_clear_24 (by decide) (fun hc => ?_) (fun hc => ?_)
    · have hw := hw.1 hc
      refine lv_iconst (v := (0 : Int32)) C.1.1 C.1.2.1 dX3_clear_31 (by decide) ?_
      exact s_X3_clear_32 C hr hll post v0 ((0 : Int32)) _ _ _ _ hW hS (tl_sub hl [] rfl) hw
    · have hw := hw.2 hc
      refine lv_iconst (v := (1 : Int32)) C.1.1 C.1.2.1 dX3_clear_27 (by decide) ?_
      refine lv_goto (tgt := 32) C.1.1 C.1.2.1 dX3_clear_28 (by decide) ?_
      exact s_X3_clear_32 C hr hll post v0 ((1 : Int32)) _ _ _ _ hW hS (tl_sub hl [] rfl) hw
  · have hw := hw.2 hc
    refine lv_iconst (v := (0 : Int32)) C.1.1 C.1.2.1 dX3_clear_13 (by decide) ?_
    refine lv_goto (tgt := 35) C.1.1 C.1.2.1 dX3_clear_14 (by decide) ?_
    exact s_X3_clear_35 C hr hll post ((0 : Int32)) _ _ _ _ hW hS (tl_sub hl [] rfl) hw
end Z_X3_clear
set_option maxHeartbeats 4000000 in
set_option maxRecDepth 100000 in
theorem c_X3_clear (l : Launch) (hll : l.stackTraces = false) (K : tK) (post : Int32 → tG → Prop) (v0 : Option Nat) (v1 : Int32) : Ct l yX3_clear wz_X3_clear ({ frames := 2, cells := 0, slots := 0, locals := 43 } : Room) 0 0 [va_rf v0, .int v1] K (retI post) (fun G => w_X3_clear K post v0 v1 G) := by
  refine tc_of (cc := cX3_clear) (maxL := 2) (ret := (some .int)) (own := RX3) (plainFor_of_name (by decide)) rfl rfl hll [.inr (.inr v0), .inl v1] rfl (Nat.le_of_ble_eq_true rfl) ?_
  intro p e s m args below meth c D A G ls C hr hn ht hl hW hS hw
  exact s_X3_clear C hr hll post v0 v1 _ _ _ _ hW hS hl hw

/-! X1_isOfTest -/
def wz_X1_isOfTest : List Cond := Cond.code yX1_isOfTest cX1_isOfTest 3 (some .boolean) :: w0
section Z_X1_isOfTest
variable {p : Program} {l : Launch} {e : Env} {s : State} {m : MethodId} {args : Array Value} {below : List Frame} {meth : Method} {c : Code} {D : va_G} {A : Nat → Prop}
set_option maxHeartbeats 4000000 in
set_option maxRecDepth 100000 in
theorem s_X1_isOfTest_40 {K : tK} (C : tc_B p l s m args meth c D K A wz_X1_isOfTest RX1 cX1_isOfTest 3) (hr : meth.sig.returnType = (some .boolean)) (hll : l.stackTraces = false)  (post : Int32 → tG → Prop) : ∀ (u0 : Int32) (G : tG) (H : Heap) (locs : List Loc) (ls : Array Slot), tg_W D A s H G → va_S A s.heap H locs → tl ls 3 [] → w_X1_isOfTest_40 K post u0 G → W p l e ({ frames := 0, cells := 0, slots := 0, locals := 0 } : Room) s m args below meth c H locs 0 0 (MQ below (tc_Qc D A (retI post)) args s 0 0 A) (F0 m 40 ls [.int u0]) := by
  intro u0 G H locs ls hW hS hl hw
  unfold w_X1_isOfTest_40 at hw
  exact tr_zret C hr dX1_isOfTest_40 (Nat.le_of_ble_eq_true rfl) (Nat.le_of_ble_eq_true rfl) hW hS hw
set_option maxHeartbeats 4000000 in
set_option maxRecDepth 100000 in
theorem s_X1_isOfTest_51 {K : tK} (C : tc_B p l s m args meth c D K A wz_X1_isOfTest RX1 cX1_isOfTest 3) (hr : meth.sig.returnType = (some .boolean)) (hll : l.stackTraces = false)  (post : Int32 → tG → Prop) : ∀ (u0 : Int32) (G : tG) (H : Heap) (locs : List Loc) (ls : Array Slot), tg_W D A s H G → va_S A s.heap H locs → tl ls 3 [] → w_X1_isOfTest_51 K post u0 G → W p l e ({ frames := 0, cells := 0, slots := 0, locals := 0 } : Room) s m args below meth c H locs 0 0 (MQ below (tc_Qc D A (retI post)) args s 0 0 A) (F0 m 51 ls [.int u0]) := by
  intro u0 G H locs ls hW hS hl hw
  unfold w_X1_isOfTest_51 at hw
  exact tr_zret C hr dX1_isOfTest_51 (Nat.le_of_ble_eq_true rfl) (Nat.le_of_ble_eq_true rfl) hW hS hw
set_option maxHeartbeats 4000000 in
set_option maxRecDepth 100000 in
theorem s_X1_isOfTest_69 {K : tK} (C : tc_B p l s m args meth c D K A wz_X1_isOfTest RX1 cX1_isOfTest 3) (hr : meth.sig.returnType = (some .boolean)) (hll : l.stackTraces = false)  (post : Int32 → tG → Prop) : ∀ (u0 : Int32) (G : tG) (H : Heap) (locs : List Loc) (ls : Array Slot), tg_W D A s H G → va_S A s.heap H locs → tl ls 3 [] → w_X1_isOfTest_69 K post u0 G → W p l e ({ frames := 0, cells := 0, slots := 0, locals := 0 } : Room) s m args below meth c H locs 0 0 (MQ below (tc_Qc D A (retI post)) args s 0 0 A) (F0 m 69 ls [.int u0]) := by
  intro u0 G H locs ls hW hS hl hw
  unfold w_X1_isOfTest_69 at hw
  exact tr_zret C hr dX1_isOfTest_69 (Nat.le_of_ble_eq_true rfl) (Nat.le_of_ble_eq_true rfl) hW hS hw
set_option maxHeartbeats 4000000 in
set_option maxRecDepth 100000 in
theorem s_X1_isOfTest_68 {K : tK} (C : tc_B p l s m args meth c D K A wz_X1_isOfTest RX1 cX1_isOfTest 3) (hr : meth.sig.returnType = (some .boolean)) (hll : l.stackTraces = false)  (post : Int32 → tG → Prop) : ∀ (G : tG) (H : Heap) (locs : List Loc) (ls : Array Slot), tg_W D A s H G → va_S A s.heap H locs → tl ls 3 [] → w_X1_isOfTest_68 K post G → W p l e ({ frames := 0, cells := 0, slots := 0, locals := 0 } : Room) s m args below meth c H locs 0 0 (MQ below (tc_Qc D A (retI post)) args s 0 0 A) (F0 m 68 ls []) := by
  intro G H locs ls hW hS hl hw
  unfold w_X1_isOfTest_68 at hw
  refine lv_iconst (v := (0 : Int32)) C.1.1 C.1.2.1 dX1_isOfTest_68 (by decide) ?_
  exact s_X1_isOfTest_69 C hr hll post ((0 : Int32)) _ _ _ _ hW hS (tl_sub hl [] rfl) hw
set_option maxHeartbeats 4000000 in
set_option maxRecDepth 100000 in
theorem s_X1_isOfTest {K : tK} (C : tc_B p l s m args meth c D K A wz_X1_isOfTest RX1 cX1_isOfTest 3) (hr : meth.sig.returnType = (some .boolean)) (hll : l.stackTraces = false)  (post : Int32 → tG → Prop) (v0 : Int32) (v1 : Int32) (v2 : Int32) : ∀ (G : tG) (H : Heap) (locs : List Loc) (ls : Array Slot), tg_W D A s H G → va_S A s.heap H locs → tl ls 3 [(0, .inl v0), (1, .inl v1), (2, .inl v2)] → w_X1_isOfTest K post v0 v1 v2 G → W p l e ({ frames := 0, cells := 0, slots := 0, locals := 0 } : Room) s m args below meth c H locs 0 0 (MQ below (tc_Qc D A (retI post)) args s 0 0 A) (F0 m 0 ls []) := by
  intro G H locs ls hW hS hl hw
  unfold w_X1_isOfTest at hw
  refine tr_iload_n (k := 1) (x := v1) C hl 1 rfl dX1_isOfTest_0 ?_
  by_cases hc0 : v1 = (0 : Int32)
  · have hw := hw.1 hc0
    refine lv_lookup (off := 27) (tgt := 28) C.1.1 C.1.2.1 dX1_isOfTest_1 (by decide) (by rw [hc0]; rfl) (by decide) ?_
    refine tr_iload_n (k := 0) (x := v0) C hl 0 rfl dX1_isOfTest_28 ?_
    refine lv_sipush (v := (-1000 : Int32)) C.1.1 C.1.2.1 dX1_isOfTest_29 (by decide) ?_
    refine lv_icmp_ne (tgt := 39) C.1.1 C.1.2.1 dX1_isOfTest_32 (by decide) (fun hc => ?_) (fun hc => ?_)
    · have hw := hw.1 hc
      refine lv_iconst (v := (0 : Int32)) C.1.1 C.1.2.1 dX1_isOfTest_39 (by decide) ?_
      exact s_X1_isOfTest_40 C hr hll post ((0 : Int32)) _ _ _ _ hW hS (tl_sub hl [] rfl) hw
    · have hw := hw.2 hc
      refine lv_iconst (v := (1 : Int32)) C.1.1 C.1.2.1 dX1_isOfTest_35 (by decide) ?_
      refine lv_goto (tgt := 40) C.1.1 C.1.2.1 dX1_isOfTest_36 (by decide) ?_
      exact s_X1_isOfTest_40 C hr hll post ((1 : Int32)) _ _ _ _ hW hS (tl_sub hl [] rfl) hw
  have hw := hw.2
  by_cases hc1 : v1 = (1 : Int32)
  · have hw := hw.1 hc1
    refine lv_lookup (off := 40) (tgt := 41) C.1.1 C.1.2.1 dX1_isOfTest_1 (by decide) (by rw [hc1]; rfl) (by decide) ?_
    refine tr_iload_n (k := 0) (x := v0) C hl 0 rfl dX1_isOfTest_41 ?_
    refine tr_iload_n (k := 2) (x := v2) C hl 2 rfl dX1_isOfTest_42 ?_
    refine lv_icmp_ne (tgt := 50) C.1.1 C.1.2.1 dX1_isOfTest_43 (by decide) (fun hc => ?_) (fun hc => ?_)
    · have hw := hw.1 hc
      refine lv_iconst (v := (0 : Int32)) C.1.1 C.1.2.1 dX1_isOfTest_50 (by decide) ?_
      exact s_X1_isOfTest_51 C hr hll post ((0 : Int32)) _ _ _ _ hW hS (tl_sub hl [] rfl) hw
    · have hw := hw.2 hc
      refine lv_iconst (v := (1 : Int32)) C.1.1 C.1.2.1 dX1_isOfTest_46 (by decide) ?_
      refine lv_goto (tgt := 51) C.1.1 C.1.2.1 dX1_isOfTest_47 (by decide) ?_
      exact s_X1_isOfTest_51 C hr hll post ((1 : Int32)) _ _ _ _ hW hS (tl_sub hl [] rfl) hw
  have hw := hw.2
  have hw := hw ⟨hc0, hc1⟩
  refine lv_lookup (off := 51) (tgt := 52) C.1.1 C.1.2.1 dX1_isOfTest_1 (by decide) ((lv_osw hc0 (by decide)).trans ((lv_osw hc1 (by decide)).trans rfl)) (by decide) ?_
  refine tr_iload_n (k := 0) (x := v0) C hl 0 rfl dX1_isOfTest_52 ?_
  refine lv_sipush (v := (-1000 : Int32)) C.1.1 C.1.2.1 dX1_isOfTest_53 (by decide) ?_
  refine lv_icmp_eq (tgt := 68) C.1.1 C.1.2.1 dX1_isOfTest_56 (by decide) (fun hc => ?_) (fun hc => ?_)
  · have hw := hw.1 hc
    exact s_X1_isOfTest_68 C hr hll post _ _ _ _ hW hS (tl_sub hl [] rfl) hw
  · have hw := hw.2 hc
    refine tr_iload_n (k := 0) (x := v0) C hl 0 rfl dX1_isOfTest_59 ?_
    refine tr_iload_n (k := 2) (x := v2) C hl 2 rfl dX1_isOfTest_60 ?_
    refine lv_icmp_ge (tgt := 68) C.1.1 C.1.2.1 dX1_isOfTest_61 (by decide) (fun hc => ?_) (fun hc => ?_)
    · have hw := hw.1 hc
      exact s_X1_isOfTest_68 C hr hll post _ _ _ _ hW hS (tl_sub hl [] rfl) hw
    · have hw := hw.2 hc
      refine lv_iconst (v := (1 : Int32)) C.1.1 C.1.2.1 dX1_isOfTest_64 (by decide) ?_
      refine lv_goto (tgt := 69) C.1.1 C.1.2.1 dX1_isOfTest_65 (by decide) ?_
      exact s_X1_isOfTest_69 C hr hll post ((1 : Int32)) _ _ _ _ hW hS (tl_sub hl [] rfl) hw
end Z_X1_isOfTest
set_option maxHeartbeats 4000000 in
set_option maxRecDepth 100000 in
theorem c_X1_isOfTest (l : Launch) (hll : l.stackTraces = false) (K : tK) (post : Int32 → tG → Prop) (v0 : Int32) (v1 : Int32) (v2 : Int32) : Ct l yX1_isOfTest wz_X1_isOfTest ({ frames := 0, cells := 0, slots := 0, locals := 0 } : Room) 0 0 [.int v0, .int v1, .int v2] K (retI post) (fun G => w_X1_isOfTest K post v0 v1 v2 G) := by
  refine tc_of (cc := cX1_isOfTest) (maxL := 3) (ret := (some .boolean)) (own := RX1) (plainFor_of_name (by decide)) rfl rfl hll [.inl v0, .inl v1, .inl v2] rfl (Nat.le_of_ble_eq_true rfl) ?_
  intro p e s m args below meth c D A G ls C hr hn ht hl hW hS hw
  exact s_X1_isOfTest C hr hll post v0 v1 v2 _ _ _ _ hW hS hl hw

/-! X1_hasOneOfTest -/
def wz_X1_hasOneOfTest : List Cond := Cond.code yX1_hasOneOfTest cX1_hasOneOfTest 4 (some .boolean) :: w0
section Z_X1_hasOneOfTest
variable {p : Program} {l : Launch} {e : Env} {s : State} {m : MethodId} {args : Array Value} {below : List Frame} {meth : Method} {c : Code} {D : va_G} {A : Nat → Prop}
set_option maxHeartbeats 4000000 in
set_option maxRecDepth 100000 in
theorem s_X1_hasOneOfTest_2_b {K : tK} (C : tc_B p l s m args meth c D K A wz_X1_hasOneOfTest RX1 cX1_hasOneOfTest 4) (hr : meth.sig.returnType = (some .boolean)) (hll : l.stackTraces = false)  (post : Int32 → tG → Prop) (k2 : Option Nat → Int32 → Int32 → Int32 → tG → Prop) (hk2 : ∀ (v0 : Option Nat) (v1 : Int32) (v2 : Int32) (v3 : Int32) (G : tG) (H : Heap) (locs : List Loc) (ls : Array Slot), tg_W D A s H G → va_S A s.heap H locs → tl ls 4 [(0, .inr (.inr v0)), (1, .inl v1), (2, .inl v2), (3, .inl v3)] → k2 v0 v1 v2 v3 G → W p l e ({ frames := 1, cells := 0, slots := 0, locals := 22 } : Room) s m args below meth c H locs 0 0 (MQ below (tc_Qc D A (retI post)) args s 0 0 A) (F0 m 2 ls [])) : ∀ (v0 : Option Nat) (v1 : Int32) (v2 : Int32) (v3 : Int32) (G : tG) (H : Heap) (locs : List Loc) (ls : Array Slot), tg_W D A s H G → va_S A s.heap H locs → tl ls 4 [(0, .inr (.inr v0)), (1, .inl v1), (2, .inl v2), (3, .inl v3)] → w_X1_hasOneOfTest_2_b K post k2 v0 v1 v2 v3 G → W p l e ({ frames := 1, cells := 0, slots := 0, locals := 22 } : Room) s m args below meth c H locs 0 0 (MQ below (tc_Qc D A (retI post)) args s 0 0 A) (F0 m 2 ls []) := by
  intro v0 v1 v2 v3 G H locs ls hW hS hl hw
  unfold w_X1_hasOneOfTest_2_b at hw
  refine tr_iload_n (k := 3) (x := v3) C hl 3 rfl dX1_hasOneOfTest_2 ?_
  refine tr_aload_n (k := 0) (x := v0) C hl 0 rfl dX1_hasOneOfTest_3 ?_
  refine tr_gfI (C0 := RX0) (T := TX0) (N := 4) (ci := 2) (ref := "Twinrow$RowList") (k := 3) (r := v0) C (zh hw_X0) rfl (by decide) (zm kw_34) rfl dX1_hasOneOfTest_4 hW hw (fun x_4 hw => ?_)
  refine lv_icmp_ge (tgt := 31) C.1.1 C.1.2.1 dX1_hasOneOfTest_7 (by decide) (fun hc => ?_) (fun hc => ?_)
  · have hw := hw.1 hc
    refine lv_iconst (v := (0 : Int32)) C.1.1 C.1.2.1 dX1_hasOneOfTest_31 (by decide) ?_
    exact tr_zret C hr dX1_hasOneOfTest_32 (Nat.le_of_ble_eq_true rfl) (Nat.le_of_ble_eq_true rfl) hW hS hw
  · have hw := hw.2 hc
    refine tr_aload_n (k := 0) (x := v0) C hl 0 rfl dX1_hasOneOfTest_10 ?_
    refine tr_iload_n (k := 3) (x := v3) C hl 3 rfl dX1_hasOneOfTest_11 ?_
    refine tr_backI (tr_runV (r := v0) (As := [.int v3]) C hl.1 (c_X0_read l hll K _ v0 v3) (cwV 1 C.1.2.2.2.2 (gi_V (zm kw_27) (zm kw_28) (zm kw_29) (zm kw_10) (zm kw_26)) rfl rfl rfl (by decide +kernel) ⟨(Nat.le_of_ble_eq_true rfl), (Nat.le_of_ble_eq_true rfl)⟩) rfl rfl dX1_hasOneOfTest_12 ⟨(Nat.le_of_ble_eq_true rfl), (Nat.le_of_ble_eq_true rfl)⟩ [] rfl (Nat.le_of_ble_eq_true rfl) rfl hW hS hw) hS (fun x_12 G_12 H locs hw hW hS => ?_)
    refine tr_iload_n (k := 1) (x := v1) C hl 1 rfl dX1_hasOneOfTest_15 ?_
    refine tr_iload_n (k := 2) (x := v2) C hl 2 rfl dX1_hasOneOfTest_16 ?_
    refine tr_backI (tr_runS (As := [.int x_12, .int v1, .int v2]) C hl.1 (c_X1_isOfTest l hll K _ x_12 v1 v2) (va_cwS 3 C.1.2.2.2.2 (gi_S (zm kw_231) (zm kw_232) (zm kw_33) (zm kw_230)) rfl rfl rfl (by decide +kernel) ⟨(Nat.le_of_ble_eq_true rfl), (Nat.le_of_ble_eq_true rfl)⟩) rfl dX1_hasOneOfTest_17 ⟨(Nat.le_of_ble_eq_true rfl), (Nat.le_of_ble_eq_true rfl)⟩ [] rfl (Nat.le_of_ble_eq_true rfl) rfl hW hS hw) hS (fun x_17 G_17 H locs hw hW hS => ?_)
    refine lv_if_eq (tgt := 25) C.1.1 C.1.2.1 dX1_hasOneOfTest_20 (by decide) (fun hc => ?_) (fun hc => ?_)
    · have hw := hw.1 hc
      refine tr_iinc C hl 3 (v3 + (1 : Int32)) [(3, .inl (v3 + (1 : Int32))), (0, .inr (.inr v0)), (1, .inl v1), (2, .inl v2)] rfl rfl (by decide) rfl dX1_hasOneOfTest_25 (fun ls hl => ?_)
      refine lv_goto (tgt := 2) C.1.1 C.1.2.1 dX1_hasOneOfTest_28 (by decide) ?_
      exact hk2 v0 v1 v2 ((v3 + (1 : Int32))) _ _ _ _ hW hS (tl_sub hl [1, 2, 3, 0] rfl) hw
    · have hw := hw.2 hc
      refine lv_iconst (v := (1 : Int32)) C.1.1 C.1.2.1 dX1_hasOneOfTest_23 (by decide) ?_
      exact tr_zret C hr dX1_hasOneOfTest_24 (Nat.le_of_ble_eq_true rfl) (Nat.le_of_ble_eq_true rfl) hW hS hw
set_option maxHeartbeats 4000000 in
set_option maxRecDepth 100000 in
theorem s_X1_hasOneOfTest_2 {K : tK} (C : tc_B p l s m args meth c D K A wz_X1_hasOneOfTest RX1 cX1_hasOneOfTest 4) (hr : meth.sig.returnType = (some .boolean)) (hll : l.stackTraces = false)  (post : Int32 → tG → Prop) : ∀ (n : Nat) (v0 : Option Nat) (v1 : Int32) (v2 : Int32) (v3 : Int32) (G : tG) (H : Heap) (locs : List Loc) (ls : Array Slot), tg_W D A s H G → va_S A s.heap H locs → tl ls 4 [(0, .inr (.inr v0)), (1, .inl v1), (2, .inl v2), (3, .inl v3)] → w_X1_hasOneOfTest_2 K post n v0 v1 v2 v3 G → W p l e ({ frames := 1, cells := 0, slots := 0, locals := 22 } : Room) s m args below meth c H locs 0 0 (MQ below (tc_Qc D A (retI post)) args s 0 0 A) (F0 m 2 ls []) := by
  intro n
  induction n with
  | zero =>
    intro v0 v1 v2 v3 G H locs ls hW hS hl hw
    exact hw.elim
  | succ n ih => exact s_X1_hasOneOfTest_2_b C hr hll post _ ih
set_option maxHeartbeats 4000000 in
set_option maxRecDepth 100000 in
theorem s_X1_hasOneOfTest {K : tK} (C : tc_B p l s m args meth c D K A wz_X1_hasOneOfTest RX1 cX1_hasOneOfTest 4) (hr : meth.sig.returnType = (some .boolean)) (hll : l.stackTraces = false)  (post : Int32 → tG → Prop) (v0 : Option Nat) (v1 : Int32) (v2 : Int32) : ∀ (G : tG) (H : Heap) (locs : List Loc) (ls : Array Slot), tg_W D A s H G → va_S A s.heap H locs → tl ls 4 [(0, .inr (.inr v0)), (1, .inl v1), (2, .inl v2)] → w_X1_hasOneOfTest K post v0 v1 v2 G → W p l e ({ frames := 1, cells := 0, slots := 0, locals := 22 } : Room) s m args below meth c H locs 0 0 (MQ below (tc_Qc D A (retI post)) args s 0 0 A) (F0 m 0 ls []) := by
  intro G H locs ls hW hS hl hw
  unfold w_X1_hasOneOfTest at hw
  refine lv_iconst (v := (0 : Int32)) C.1.1 C.1.2.1 dX1_hasOneOfTest_0 (by decide) ?_
  refine tr_istore_n (k := 3) (x := (0 : Int32)) C hl [(3, .inl (0 : Int32)), (0, .inr (.inr v0)), (1, .inl v1), (2, .inl v2)] (by decide) rfl dX1_hasOneOfTest_1 (fun ls hl => ?_)
  obtain ⟨n2, hw⟩ := hw
  exact s_X1_hasOneOfTest_2 C hr hll post n2 v0 v1 v2 ((0 : Int32)) _ _ _ _ hW hS (tl_sub hl [1, 2, 3, 0] rfl) hw
end Z_X1_hasOneOfTest
set_option maxHeartbeats 4000000 in
set_option maxRecDepth 100000 in
theorem c_X1_hasOneOfTest (l : Launch) (hll : l.stackTraces = false) (K : tK) (post : Int32 → tG → Prop) (v0 : Option Nat) (v1 : Int32) (v2 : Int32) : Ct l yX1_hasOneOfTest wz_X1_hasOneOfTest ({ frames := 1, cells := 0, slots := 0, locals := 22 } : Room) 0 0 [va_rf v0, .int v1, .int v2] K (retI post) (fun G => w_X1_hasOneOfTest K post v0 v1 v2 G) := by
  refine tc_of (cc := cX1_hasOneOfTest) (maxL := 4) (ret := (some .boolean)) (own := RX1) (plainFor_of_name (by decide)) rfl rfl hll [.inr (.inr v0), .inl v1, .inl v2] rfl (Nat.le_of_ble_eq_true rfl) ?_
  intro p e s m args below meth c D A G ls C hr hn ht hl hW hS hw
  exact s_X1_hasOneOfTest C hr hll post v0 v1 v2 _ _ _ _ hW hS hl hw

/-! X1_removeIf -/
def wz_X1_removeIf : List Cond := Cond.code yX1_removeIf cX1_removeIf 5 (some .int) :: w0
section Z_X1_removeIf
variable {p : Program} {l : Launch} {e : Env} {s : State} {m : MethodId} {args : Array Value} {below : List Frame} {meth : Method} {c : Code} {D : va_G} {A : Nat → Prop}
set_option maxHeartbeats 4000000 in
set_option maxRecDepth 100000 in
theorem s_X1_removeIf {K : tK} (C : tc_B p l s m args meth c D K A wz_X1_removeIf RX1 cX1_removeIf 5) (hr : meth.sig.returnType = (some .int)) (ht : ∀ x ∈ c.exceptionTable.toList, False) (hll : l.stackTraces = false)  (post : Int32 → tG → Prop) (postX : String → tG → Prop) (v0 : Option Nat) (v1 : Int32) (v2 : Int32) (v3 : Int32) : ∀ (G : tG) (H : Heap) (locs : List Loc) (ls : Array Slot), tg_W D A s H G → va_S A s.heap H locs → tl ls 5 [(0, .inr (.inr v0)), (1, .inl v1), (2, .inl v2), (3, .inl v3)] → w_X1_removeIf K post postX v0 v1 v2 v3 G → W p l e ({ frames := 7, cells := 3, slots := 18, locals := 104 } : Room) s m args below meth c H locs 0 0 (vx_MQ below (tc_Qc D A (retI post)) (tc_XC D A postX) args s 3 18 A) (F0 m 0 ls []) := by
  intro G H locs ls hW hS hl hw
  unfold w_X1_removeIf at hw
  refine tr_aload_n (k := 0) (x := v0) C hl 0 rfl dX1_removeIf_0 ?_
  refine tr_iload_n (k := 1) (x := v1) C hl 1 rfl dX1_removeIf_1 ?_
  refine tx_backR (tx_runV (r := v0) (As := [.int v1]) C hl.1 (c_X1_listAt l hll K _ _ v0 v1) (cwV 1 C.1.2.2.2.2 (gi_V (zm kw_94) (zm kw_95) (zm kw_96) (zm kw_33) (zm kw_93)) rfl rfl rfl (by decide +kernel) ⟨(Nat.le_of_ble_eq_true rfl), (Nat.le_of_ble_eq_true rfl)⟩) rfl rfl dX1_removeIf_2 ⟨(Nat.le_of_ble_eq_true rfl), (Nat.le_of_ble_eq_true rfl)⟩ [] rfl (Nat.le_of_ble_eq_true rfl) rfl hW hS hw) hS C.2.1 ht (Nat.le_of_ble_eq_true rfl) (Nat.le_of_ble_eq_true rfl) (fun x_2 G_2 H locs hw hW hS => ?_)
  refine tr_astore (x := x_2) C hl [(4, .inr (.inr x_2)), (0, .inr (.inr v0)), (1, .inl v1), (2, .inl v2), (3, .inl v3)] (by decide) rfl dX1_removeIf_5 (fun ls hl => ?_)
  refine tr_iload_n (k := 2) (x := v2) C hl 3 rfl dX1_removeIf_7 ?_
  refine lv_iconst (v := (0 : Int32)) C.1.1 C.1.2.1 dX1_removeIf_8 (by decide) ?_
  refine lv_iconst (v := (2 : Int32)) C.1.1 C.1.2.1 dX1_removeIf_9 (by decide) ?_
  refine tx_backV (tx_runS (As := [.int v2, .int ((0 : Int32)), .int ((2 : Int32))]) C hl.1 (c_X1_checkNumber l hll K _ _ v2 ((0 : Int32)) ((2 : Int32))) (va_cwS 3 C.1.2.2.2.2 (gi_S (zm kw_89) (zm kw_90) (zm kw_33) (zm kw_88)) rfl rfl rfl (by decide +kernel) ⟨(Nat.le_of_ble_eq_true rfl), (Nat.le_of_ble_eq_true rfl)⟩) rfl dX1_removeIf_10 ⟨(Nat.le_of_ble_eq_true rfl), (Nat.le_of_ble_eq_true rfl)⟩ [] rfl (Nat.le_of_ble_eq_true rfl) rfl hW hS hw) hS C.2.1 ht (Nat.le_of_ble_eq_true rfl) (Nat.le_of_ble_eq_true rfl) (fun G_10 H locs hw hW hS => ?_)
  refine tr_iload_n (k := 3) (x := v3) C hl 4 rfl dX1_removeIf_13 ?_
  refine lv_bipush (v := (-99 : Int32)) C.1.1 C.1.2.1 dX1_removeIf_14 (by decide) ?_
  refine lv_bipush (v := (99 : Int32)) C.1.1 C.1.2.1 dX1_removeIf_16 (by decide) ?_
  refine tx_backV (tx_runS (As := [.int v3, .int ((-99 : Int32)), .int ((99 : Int32))]) C hl.1 (c_X1_checkNumber l hll K _ _ v3 ((-99 : Int32)) ((99 : Int32))) (va_cwS 3 C.1.2.2.2.2 (gi_S (zm kw_89) (zm kw_90) (zm kw_33) (zm kw_88)) rfl rfl rfl (by decide +kernel) ⟨(Nat.le_of_ble_eq_true rfl), (Nat.le_of_ble_eq_true rfl)⟩) rfl dX1_removeIf_18 ⟨(Nat.le_of_ble_eq_true rfl), (Nat.le_of_ble_eq_true rfl)⟩ [] rfl (Nat.le_of_ble_eq_true rfl) rfl hW hS hw) hS C.2.1 ht (Nat.le_of_ble_eq_true rfl) (Nat.le_of_ble_eq_true rfl) (fun G_18 H locs hw hW hS => ?_)
  refine tr_aload_n (k := 0) (x := v0) C hl 1 rfl dX1_removeIf_21 ?_
  refine tr_aload (x := x_2) C hl 0 rfl dX1_removeIf_22 ?_
  refine tr_iload_n (k := 2) (x := v2) C hl 3 rfl dX1_removeIf_24 ?_
  refine tr_iload_n (k := 3) (x := v3) C hl 4 rfl dX1_removeIf_25 ?_
  refine tr_backI (tr_runS (As := [va_rf x_2, .int v2, .int v3]) C hl.1 (c_X1_hasOneOfTest l hll K _ x_2 v2 v3) (va_cwS 3 C.1.2.2.2.2 (gi_S (zm kw_234) (zm kw_235) (zm kw_33) (zm kw_233)) rfl rfl rfl (by decide +kernel) ⟨(Nat.le_of_ble_eq_true rfl), (Nat.le_of_ble_eq_true rfl)⟩) rfl dX1_removeIf_26 ⟨(Nat.le_of_ble_eq_true rfl), (Nat.le_of_ble_eq_true rfl)⟩ [.inr (.inr v0)] rfl (Nat.le_of_ble_eq_true rfl) rfl hW hS hw) hS (fun x_26 G_26 H locs hw hW hS => ?_)
  refine tr_backI (tr_runV (r := v0) (As := [.int x_26]) C hl.1 (c_X1_refuseIf l hll K _ v0 x_26) (cwV 1 C.1.2.2.2.2 (gi_V (zm kw_202) (zm kw_203) (zm kw_204) (zm kw_33) (zm kw_201)) rfl rfl rfl (by decide +kernel) ⟨(Nat.le_of_ble_eq_true rfl), (Nat.le_of_ble_eq_true rfl)⟩) rfl rfl dX1_removeIf_29 ⟨(Nat.le_of_ble_eq_true rfl), (Nat.le_of_ble_eq_true rfl)⟩ [] rfl (Nat.le_of_ble_eq_true rfl) rfl hW hS hw) hS (fun x_29 G_29 H locs hw hW hS => ?_)
  exact vx_ret (tr_iret C hr dX1_removeIf_32 (Nat.le_of_ble_eq_true rfl) (Nat.le_of_ble_eq_true rfl) hW hS hw)
end Z_X1_removeIf
set_option maxHeartbeats 4000000 in
set_option maxRecDepth 100000 in
theorem c_X1_removeIf (l : Launch) (hll : l.stackTraces = false) (K : tK) (post : Int32 → tG → Prop) (postX : String → tG → Prop) (v0 : Option Nat) (v1 : Int32) (v2 : Int32) (v3 : Int32) : Cx l yX1_removeIf wz_X1_removeIf ({ frames := 7, cells := 3, slots := 18, locals := 104 } : Room) 3 18 [va_rf v0, .int v1, .int v2, .int v3] K (retI post) postX (fun G => w_X1_removeIf K post postX v0 v1 v2 v3 G) := by
  refine tx_of (cc := cX1_removeIf) (maxL := 5) (ret := (some .int)) (own := RX1) (by decide) rfl rfl hll [.inr (.inr v0), .inl v1, .inl v2, .inl v3] rfl (Nat.le_of_ble_eq_true rfl) ?_
  intro p e s m args below meth c D A G ls C hr hn ht hl hW hS hw
  exact s_X1_removeIf C hr ht hll post postX v0 v1 v2 v3 _ _ _ _ hW hS hl hw

/-! L_removeIf -/
def wz_L_removeIf : List Cond := Cond.codeWith yL_removeIf cL_removeIf 6 (some .int) [(0, 13, 16, 19), (0, 13, 20, 21)] :: w0
section Z_L_removeIf
variable {p : Program} {l : Launch} {e : Env} {s : State} {m : MethodId} {args : Array Value} {below : List Frame} {meth : Method} {c : Code} {D : va_G} {A : Nat → Prop}
set_option maxHeartbeats 4000000 in
set_option maxRecDepth 100000 in
theorem s_L_removeIf {K : tK} (C : tc_B p l s m args meth c D K A wz_L_removeIf RL cL_removeIf 6) (hr : meth.sig.returnType = (some .int)) (htab : c.exceptionTable.toList = tableOf [(0, 13, 16, 19), (0, 13, 20, 21)]) (hcC : kx_C s) (hll : l.stackTraces = false)  (post : Int32 → tG → Prop) (v0 : Option Nat) (v1 : Int32) (v2 : Int32) (v3 : Int32) (v4 : Option Nat) : ∀ (G : tG) (H : Heap) (locs : List Loc) (ls : Array Slot), tg_W D A s H G → va_S A s.heap H locs → tl ls 6 [(0, .inr (.inr v0)), (1, .inl v1), (2, .inl v2), (3, .inl v3), (4, .inr (.inr v4))] → w_L_removeIf K post v0 v1 v2 v3 v4 G → W p l e ({ frames := 8, cells := 3, slots := 18, locals := 128 } : Room) s m args below meth c H locs 0 0 (vx_MQ below (tc_Qc D A (retI post)) (tc_XC D A (fun _ _ => False)) args s 3 18 A) (F0 m 0 ls []) := by
  intro G H locs ls hW hS hl hw
  unfold w_L_removeIf at hw
  refine tr_aload (x := v4) C hl 4 rfl dL_removeIf_0 ?_
  refine tr_aload_n (k := 0) (x := v0) C hl 0 rfl dL_removeIf_2 ?_
  refine tr_iload_n (k := 1) (x := v1) C hl 1 rfl dL_removeIf_3 ?_
  refine tr_iload_n (k := 2) (x := v2) C hl 2 rfl dL_removeIf_4 ?_
  refine tr_iload_n (k := 3) (x := v3) C hl 3 rfl dL_removeIf_5 ?_
  refine tx_backCI (tx_runV (r := v0) (As := [.int v1, .int v2, .int v3]) C hl.1 (c_X1_removeIf l hll K _ _ v0 v1 v2 v3) (cwV 3 C.1.2.2.2.2 (gi_V (zm kw_237) (zm kw_238) (zm kw_239) (zm kw_33) (zm kw_236)) rfl rfl rfl (by decide +kernel) ⟨(Nat.le_of_ble_eq_true rfl), (Nat.le_of_ble_eq_true rfl)⟩) rfl rfl dL_removeIf_6 ⟨(Nat.le_of_ble_eq_true rfl), (Nat.le_of_ble_eq_true rfl)⟩ [.inr (.inr v4)] rfl (Nat.le_of_ble_eq_true rfl) rfl hW hS hw) hS (fun E ce q9 GX H locs hw hW hS hce hcv hcl => ?_) (fun x_6 G_6 H locs hw hW hS => ?_)
  · by_cases hq0 : E = "java/lang/IndexOutOfBoundsException"
    · replace hw := hw.1 hq0
      subst hq0
      refine vx_catch (name := "java/lang/IndexOutOfBoundsException") C.1.2.2.2.1 [] (⟨0, 13, 16, 19⟩ : ExceptionTableEntry) [(⟨0, 13, 20, 21⟩ : ExceptionTableEntry)] (by rw [htab]; rfl) (fun z hz => nomatch hz) (by decide) (by decide) (C.1.2.2.2.2 _ (zm kw_209)) hcC.2.2.1 hce hcv hcl ?_
      refine tr_astore (x := (some q9)) C hl [(5, .inr (.inr (some q9))), (0, .inr (.inr v0)), (1, .inl v1), (2, .inl v2), (3, .inl v3), (4, .inr (.inr v4))] (by decide) rfl dL_removeIf_16 (fun ls hl => ?_)
      refine lv_iconst (v := (1 : Int32)) C.1.1 C.1.2.1 dL_removeIf_18 (by decide) ?_
      exact vx_ret (tr_iret C hr dL_removeIf_19 (Nat.le_of_ble_eq_true rfl) (Nat.le_of_ble_eq_true rfl) hW hS hw)
    replace hw := hw.2 hq0
    by_cases hq1 : E = "java/lang/IllegalArgumentException"
    · replace hw := hw.1 hq1
      subst hq1
      refine vx_catch (name := "java/lang/IllegalArgumentException") C.1.2.2.2.1 [(⟨0, 13, 16, 19⟩ : ExceptionTableEntry)] (⟨0, 13, 20, 21⟩ : ExceptionTableEntry) [] (by rw [htab]; rfl) (kx_pass1 C hcC rfl (by decide) (zm kw_209)) (by decide) (by decide) (C.1.2.2.2.2 _ (zm kw_188)) hcC.2.2.2.1 hce hcv hcl ?_
      refine tr_astore (x := (some q9)) C hl [(5, .inr (.inr (some q9))), (0, .inr (.inr v0)), (1, .inl v1), (2, .inl v2), (3, .inl v3), (4, .inr (.inr v4))] (by decide) rfl dL_removeIf_20 (fun ls hl => ?_)
      refine lv_iconst (v := (2 : Int32)) C.1.1 C.1.2.1 dL_removeIf_22 (by decide) ?_
      exact vx_ret (tr_iret C hr dL_removeIf_23 (Nat.le_of_ble_eq_true rfl) (Nat.le_of_ble_eq_true rfl) hW hS hw)
    replace hw := hw.2 hq1
    exact hw.elim
  · refine lv_i2l (v := ((x_6).toInt64)) C.1.1 C.1.2.1 dL_removeIf_9 rfl ?_
    refine tr_pfN (C0 := RX2) (T := TX2) (N := 2) (ci := 4) (ref := "TwinrowLaw$Out") (host := "TwinrowLaw") (k := 0) (ty := .long) (v := .long (((x_6).toInt64))) (r := v4) C (zh hw_X2) tyX2 tyX2_ok nmX2 rfl (by decide) hcC.1 rfl rfl (by decide +kernel) rfl rfl dL_removeIf_10 hW hS hw (fun G_10 H locs hw hW hS => ?_)
    refine lv_goto (tgt := 24) C.1.1 C.1.2.1 dL_removeIf_13 (by decide) ?_
    refine lv_iconst (v := (0 : Int32)) C.1.1 C.1.2.1 dL_removeIf_24 (by decide) ?_
    exact vx_ret (tr_iret C hr dL_removeIf_25 (Nat.le_of_ble_eq_true rfl) (Nat.le_of_ble_eq_true rfl) hW hS hw)
end Z_L_removeIf
set_option maxHeartbeats 4000000 in
set_option maxRecDepth 100000 in
theorem c_L_removeIf (l : Launch) (hll : l.stackTraces = false) (K : tK) (post : Int32 → tG → Prop) (v0 : Option Nat) (v1 : Int32) (v2 : Int32) (v3 : Int32) (v4 : Option Nat) : Cx l yL_removeIf wz_L_removeIf ({ frames := 8, cells := 3, slots := 18, locals := 128 } : Room) 3 18 [va_rf v0, .int v1, .int v2, .int v3, va_rf v4] K (retI post) (fun _ _ => False) (fun G => w_L_removeIf K post v0 v1 v2 v3 v4 G) := by
  refine tx_ofH (cc := cL_removeIf) (maxL := 6) (ret := (some .int)) (own := RL) (hh := [(0, 13, 16, 19), (0, 13, 20, 21)]) (by decide) rfl rfl hll [.inr (.inr v0), .inl v1, .inl v2, .inl v3, .inr (.inr v4)] rfl (Nat.le_of_ble_eq_true rfl) ?_
  intro p e s m args below meth c D A G ls C hr htab hcC hl hW hS hw
  exact s_L_removeIf C hr htab hcC hll post v0 v1 v2 v3 v4 _ _ _ _ hW hS hl hw

/-! X3_tested -/
def wz_X3_tested : List Cond := Cond.code yX3_tested cX3_tested 3 (some .boolean) :: w0
section Z_X3_tested
variable {p : Program} {l : Launch} {e : Env} {s : State} {m : MethodId} {args : Array Value} {below : List Frame} {meth : Method} {c : Code} {D : va_G} {A : Nat → Prop}
set_option maxHeartbeats 4000000 in
set_option maxRecDepth 100000 in
theorem s_X3_tested_54 {K : tK} (C : tc_B p l s m args meth c D K A wz_X3_tested RX3 cX3_tested 3) (hr : meth.sig.returnType = (some .boolean)) (hll : l.stackTraces = false)  (post : Int32 → tG → Prop) : ∀ (u0 : Int32) (G : tG) (H : Heap) (locs : List Loc) (ls : Array Slot), tg_W D A s H G → va_S A s.heap H locs → tl ls 3 [] → w_X3_tested_54 K post u0 G → W p l e ({ frames := 0, cells := 0, slots := 0, locals := 0 } : Room) s m args below meth c H locs 0 0 (MQ below (tc_Qc D A (retI post)) args s 0 0 A) (F0 m 54 ls [.int u0]) := by
  intro u0 G H locs ls hW hS hl hw
  unfold w_X3_tested_54 at hw
  exact tr_zret C hr dX3_tested_54 (Nat.le_of_ble_eq_true rfl) (Nat.le_of_ble_eq_true rfl) hW hS hw
set_option maxHeartbeats 4000000 in
set_option maxRecDepth 100000 in
theorem s_X3_tested_53 {K : tK} (C : tc_B p l s m args meth c D K A wz_X3_tested RX3 cX3_tested 3) (hr : meth.sig.returnType = (some .boolean)) (hll : l.stackTraces = false)  (post : Int32 → tG → Prop) : ∀ (G : tG) (H : Heap) (locs : List Loc) (ls : Array Slot), tg_W D A s H G → va_S A s.heap H locs → tl ls 3 [] → w_X3_tested_53 K post G → W p l e ({ frames := 0, cells := 0, slots := 0, locals := 0 } : Room) s m args below meth c H locs 0 0 (MQ below (tc_Qc D A (retI post)) args s 0 0 A) (F0 m 53 ls []) := by
  intro G H locs ls hW hS hl hw
  unfold w_X3_tested_53 at hw
  refine lv_iconst (v := (0 : Int32)) C.1.1 C.1.2.1 dX3_tested_53 (by decide) ?_
  exact s_X3_tested_54 C hr hll post ((0 : Int32)) _ _ _ _ hW hS (tl_sub hl [] rfl) hw
set_option maxHeartbeats 4000000 in
set_option maxRecDepth 100000 in
theorem s_X3_tested {K : tK} (C : tc_B p l s m args meth c D K A wz_X3_tested RX3 cX3_tested 3) (hr : meth.sig.returnType = (some .boolean)) (hll : l.stackTraces = false)  (post : Int32 → tG → Prop) (v0 : Int32) (v1 : Int32) (v2 : Int32) : ∀ (G : tG) (H : Heap) (locs : List Loc) (ls : Array Slot), tg_W D A s H G → va_S A s.heap H locs → tl ls 3 [(0, .inl v0), (1, .inl v1), (2, .inl v2)] → w_X3_tested K post v0 v1 v2 G → W p l e ({ frames := 0, cells := 0, slots := 0, locals := 0 } : Room) s m args below meth c H locs 0 0 (MQ below (tc_Qc D A (retI post)) args s 0 0 A) (F0 m 0 ls []) := by
  intro G H locs ls hW hS hl hw
  unfold w_X3_tested at hw
  refine tr_iload_n (k := 0) (x := v0) C hl 0 rfl dX3_tested_0 ?_
  refine lv_if_ne (tgt := 19) C.1.1 C.1.2.1 dX3_tested_1 (by decide) (fun hc => ?_) (fun hc => ?_)
  · have hw := hw.1 hc
    refine tr_iload_n (k := 0) (x := v0) C hl 0 rfl dX3_tested_19 ?_
    refine lv_iconst (v := (1 : Int32)) C.1.1 C.1.2.1 dX3_tested_20 (by decide) ?_
    refine lv_icmp_ne (tgt := 37) C.1.1 C.1.2.1 dX3_tested_21 (by decide) (fun hc => ?_) (fun hc => ?_)
    · have hw := hw.1 hc
      refine tr_iload_n (k := 1) (x := v1) C hl 1 rfl dX3_tested_37 ?_
      refine lv_sipush (v := (-1000 : Int32)) C.1.1 C.1.2.1 dX3_tested_38 (by decide) ?_
      refine lv_icmp_eq (tgt := 53) C.1.1 C.1.2.1 dX3_tested_41 (by decide) (fun hc => ?_) (fun hc => ?_)
      · have hw := hw.1 hc
        exact s_X3_tested_53 C hr hll post _ _ _ _ hW hS (tl_sub hl [] rfl) hw
      · have hw := hw.2 hc
        refine tr_iload_n (k := 1) (x := v1) C hl 1 rfl dX3_tested_44 ?_
        refine tr_iload_n (k := 2) (x := v2) C hl 2 rfl dX3_tested_45 ?_
        refine lv_icmp_ge (tgt := 53) C.1.1 C.1.2.1 dX3_tested_46 (by decide) (fun hc => ?_) (fun hc => ?_)
        · have hw := hw.1 hc
          exact s_X3_tested_53 C hr hll post _ _ _ _ hW hS (tl_sub hl [] rfl) hw
        · have hw := hw.2 hc
          refine lv_iconst (v := (1 : Int32)) C.1.1 C.1.2.1 dX3_tested_49 (by decide) ?_
          refine lv_goto (tgt := 54) C.1.1 C.1.2.1 dX3_tested_50 (by decide) ?_
          exact s_X3_tested_54 C hr hll post ((1 : Int32)) _ _ _ _ hW hS (tl_sub hl [] rfl) hw
    · have hw := hw.2 hc
      refine tr_iload_n (k := 1) (x := v1) C hl 1 rfl dX3_tested_24 ?_
      refine tr_iload_n (k := 2) (x := v2) C hl 2 rfl dX3_tested_25 ?_
      refine lv_icmp_ne (tgt := 33) C.1.1 C.1.2.1 dX3_tested_26 (by decide) (fun hc => ?_) (fun hc => ?_)
      · have hw := hw.1 hc
        refine lv_iconst (v := (0 : Int32)) C.1.1 C.1.2.1 dX3_tested_33 (by decide) ?_
        refine lv_goto (tgt := 54) C.1.1 C.1.2.1 dX3_tested_34 (by decide) ?_
        exact s_X3_tested_54 C hr hll post ((0 : Int32)) _ _ _ _ hW hS (tl_sub hl [] rfl) hw
      · have hw := hw.2 hc
        refine lv_iconst (v := (1 : Int32)) C.1.1 C.1.2.1 dX3_tested_29 (by decide) ?_
        refine lv_goto (tgt := 54) C.1.1 C.1.2.1 dX3_tested_30 (by decide) ?_
        exact s_X3_tested_54 C hr hll post ((1 : Int32)) _ _ _ _ hW hS (tl_sub hl [] rfl) hw
  · have hw := hw.2 hc
    refine tr_iload_n (k := 1) (x := v1) C hl 1 rfl dX3_tested_4 ?_
    refine lv_sipush (v := (-1000 : Int32)) C.1.1 C.1.2.1 dX3_tested_5 (by decide) ?_
    refine lv_icmp_ne (tgt := 15) C.1.1 C.1.2.1 dX3_tested_8 (by decide) (fun hc => ?_) (fun hc => ?_)
    · have hw := hw.1 hc
      refine lv_iconst (v := (0 : Int32)) C.1.1 C.1.2.1 dX3_tested_15 (by decide) ?_
      refine lv_goto (tgt := 54) C.1.1 C.1.2.1 dX3_tested_16 (by decide) ?_
      exact s_X3_tested_54 C hr hll post ((0 : Int32)) _ _ _ _ hW hS (tl_sub hl [] rfl) hw
    · have hw := hw.2 hc
      refine lv_iconst (v := (1 : Int32)) C.1.1 C.1.2.1 dX3_tested_11 (by decide) ?_
      refine lv_goto (tgt := 54) C.1.1 C.1.2.1 dX3_tested_12 (by decide) ?_
      exact s_X3_tested_54 C hr hll post ((1 : Int32)) _ _ _ _ hW hS (tl_sub hl [] rfl) hw
end Z_X3_tested
set_option maxHeartbeats 4000000 in
set_option maxRecDepth 100000 in
theorem c_X3_tested (l : Launch) (hll : l.stackTraces = false) (K : tK) (post : Int32 → tG → Prop) (v0 : Int32) (v1 : Int32) (v2 : Int32) : Ct l yX3_tested wz_X3_tested ({ frames := 0, cells := 0, slots := 0, locals := 0 } : Room) 0 0 [.int v0, .int v1, .int v2] K (retI post) (fun G => w_X3_tested K post v0 v1 v2 G) := by
  refine tc_of (cc := cX3_tested) (maxL := 3) (ret := (some .boolean)) (own := RX3) (plainFor_of_name (by decide)) rfl rfl hll [.inl v0, .inl v1, .inl v2] rfl (Nat.le_of_ble_eq_true rfl) ?_
  intro p e s m args below meth c D A G ls C hr hn ht hl hW hS hw
  exact s_X3_tested C hr hll post v0 v1 v2 _ _ _ _ hW hS hl hw

/-! X3_removeIf -/
def wz_X3_removeIf : List Cond := Cond.code yX3_removeIf cX3_removeIf 9 (some .int) :: w0
section Z_X3_removeIf
variable {p : Program} {l : Launch} {e : Env} {s : State} {m : MethodId} {args : Array Value} {below : List Frame} {meth : Method} {c : Code} {D : va_G} {A : Nat → Prop}
set_option maxHeartbeats 4000000 in
set_option maxRecDepth 100000 in
theorem s_X3_removeIf_57_b {K : tK} (C : tc_B p l s m args meth c D K A wz_X3_removeIf RX3 cX3_removeIf 9) (hr : meth.sig.returnType = (some .int)) (hll : l.stackTraces = false)  (post : Int32 → tG → Prop) (k57 : Option Nat → Int32 → Int32 → Int32 → Option Nat → Int32 → Int32 → tG → Prop) (hk57 : ∀ (v0 : Option Nat) (v2 : Int32) (v3 : Int32) (v4 : Int32) (v5 : Option Nat) (v6 : Int32) (v7 : Int32) (G : tG) (H : Heap) (locs : List Loc) (ls : Array Slot), tg_W D A s H G → va_S A s.heap H locs → tl ls 9 [(0, .inr (.inr v0)), (2, .inl v2), (3, .inl v3), (4, .inl v4), (5, .inr (.inr v5)), (6, .inl v6), (7, .inl v7)] → k57 v0 v2 v3 v4 v5 v6 v7 G → W p l e ({ frames := 2, cells := 1, slots := 12, locals := 45 } : Room) s m args below meth c H locs 1 12 (MQ below (tc_Qc D A (retI post)) args s 1 12 A) (F0 m 57 ls [])) : ∀ (v0 : Option Nat) (v2 : Int32) (v3 : Int32) (v4 : Int32) (v5 : Option Nat) (v6 : Int32) (v7 : Int32) (G : tG) (H : Heap) (locs : List Loc) (ls : Array Slot), tg_W D A s H G → va_S A s.heap H locs → tl ls 9 [(0, .inr (.inr v0)), (2, .inl v2), (3, .inl v3), (4, .inl v4), (5, .inr (.inr v5)), (6, .inl v6), (7, .inl v7)] → w_X3_removeIf_57_b K post k57 v0 v2 v3 v4 v5 v6 v7 G → W p l e ({ frames := 2, cells := 1, slots := 12, locals := 45 } : Room) s m args below meth c H locs 1 12 (MQ below (tc_Qc D A (retI post)) args s 1 12 A) (F0 m 57 ls []) := by
  intro v0 v2 v3 v4 v5 v6 v7 G H locs ls hW hS hl hw
  unfold w_X3_removeIf_57_b at hw
  refine tr_iload (x := v7) C hl 6 rfl dX3_removeIf_57 ?_
  refine tr_iload (x := v6) C hl 5 rfl dX3_removeIf_59 ?_
  refine lv_icmp_ge (tgt := 89) C.1.1 C.1.2.1 dX3_removeIf_61 (by decide) (fun hc => ?_) (fun hc => ?_)
  · have hw := hw.1 hc
    refine tr_aload_n (k := 0) (x := v0) C hl 0 rfl dX3_removeIf_89 ?_
    refine tr_iload (x := v4) C hl 3 rfl dX3_removeIf_90 ?_
    refine tr_backI (tr_runV (r := v0) (As := [.int v4]) C hl.1 (c_X3_refusedIf l hll K _ v0 v4) (cwV 1 C.1.2.2.2.2 (gi_V (zm kw_227) (zm kw_228) (zm kw_229) (zm kw_155) (zm kw_226)) rfl rfl rfl (by decide +kernel) ⟨(Nat.le_of_ble_eq_true rfl), (Nat.le_of_ble_eq_true rfl)⟩) rfl rfl dX3_removeIf_92 ⟨(Nat.le_of_ble_eq_true rfl), (Nat.le_of_ble_eq_true rfl)⟩ [] rfl (Nat.le_of_ble_eq_true rfl) rfl hW hS hw) hS (fun x_92 G_92 H locs hw hW hS => ?_)
    exact tr_iret C hr dX3_removeIf_95 (Nat.le_of_ble_eq_true rfl) (Nat.le_of_ble_eq_true rfl) hW hS hw
  · have hw := hw.2 hc
    refine tr_aload (x := v5) C hl 4 rfl dX3_removeIf_64 ?_
    refine tr_iload (x := v7) C hl 6 rfl dX3_removeIf_66 ?_
    refine tr_alI (r := v5) C dX3_removeIf_68 hW hw (fun x_68 hw => ?_)
    refine tr_istore (x := x_68) C hl [(8, .inl x_68), (0, .inr (.inr v0)), (2, .inl v2), (3, .inl v3), (4, .inl v4), (5, .inr (.inr v5)), (6, .inl v6), (7, .inl v7)] (by decide) rfl dX3_removeIf_69 (fun ls hl => ?_)
    refine tr_iload (x := v4) C hl 4 rfl dX3_removeIf_71 ?_
    refine tr_iload_n (k := 2) (x := v2) C hl 2 rfl dX3_removeIf_73 ?_
    refine tr_iload (x := x_68) C hl 0 rfl dX3_removeIf_74 ?_
    refine tr_iload_n (k := 3) (x := v3) C hl 3 rfl dX3_removeIf_76 ?_
    refine tr_backI (tr_runS (As := [.int v2, .int x_68, .int v3]) C hl.1 (c_X3_tested l hll K _ v2 x_68 v3) (va_cwS 3 C.1.2.2.2.2 (gi_S (zm kw_241) (zm kw_242) (zm kw_155) (zm kw_240)) rfl rfl rfl (by decide +kernel) ⟨(Nat.le_of_ble_eq_true rfl), (Nat.le_of_ble_eq_true rfl)⟩) rfl dX3_removeIf_77 ⟨(Nat.le_of_ble_eq_true rfl), (Nat.le_of_ble_eq_true rfl)⟩ [.inl v4] rfl (Nat.le_of_ble_eq_true rfl) rfl hW hS hw) hS (fun x_77 G_77 H locs hw hW hS => ?_)
    refine lv_ior C.1.1 C.1.2.1 dX3_removeIf_80 ?_
    refine tr_istore (x := (v4 ||| x_77)) C hl [(4, .inl (v4 ||| x_77)), (8, .inl x_68), (0, .inr (.inr v0)), (2, .inl v2), (3, .inl v3), (5, .inr (.inr v5)), (6, .inl v6), (7, .inl v7)] (by decide) rfl dX3_removeIf_81 (fun ls hl => ?_)
    refine tr_iinc C hl 7 (v7 + (1 : Int32)) [(7, .inl (v7 + (1 : Int32))), (4, .inl (v4 ||| x_77)), (8, .inl x_68), (0, .inr (.inr v0)), (2, .inl v2), (3, .inl v3), (5, .inr (.inr v5)), (6, .inl v6)] rfl rfl (by decide) rfl dX3_removeIf_83 (fun ls hl => ?_)
    refine lv_goto (tgt := 57) C.1.1 C.1.2.1 dX3_removeIf_86 (by decide) ?_
    exact hk57 v0 v2 v3 ((v4 ||| x_77)) v5 v6 ((v7 + (1 : Int32))) _ _ _ _ hW hS (tl_sub hl [3, 4, 5, 1, 6, 7, 0] rfl) hw
set_option maxHeartbeats 4000000 in
set_option maxRecDepth 100000 in
theorem s_X3_removeIf_57 {K : tK} (C : tc_B p l s m args meth c D K A wz_X3_removeIf RX3 cX3_removeIf 9) (hr : meth.sig.returnType = (some .int)) (hll : l.stackTraces = false)  (post : Int32 → tG → Prop) : ∀ (n : Nat) (v0 : Option Nat) (v2 : Int32) (v3 : Int32) (v4 : Int32) (v5 : Option Nat) (v6 : Int32) (v7 : Int32) (G : tG) (H : Heap) (locs : List Loc) (ls : Array Slot), tg_W D A s H G → va_S A s.heap H locs → tl ls 9 [(0, .inr (.inr v0)), (2, .inl v2), (3, .inl v3), (4, .inl v4), (5, .inr (.inr v5)), (6, .inl v6), (7, .inl v7)] → w_X3_removeIf_57 K post n v0 v2 v3 v4 v5 v6 v7 G → W p l e ({ frames := 2, cells := 1, slots := 12, locals := 45 } : Room) s m args below meth c H locs 1 12 (MQ below (tc_Qc D A (retI post)) args s 1 12 A) (F0 m 57 ls []) := by
  intro n
  induction n with
  | zero =>
    intro v0 v2 v3 v4 v5 v6 v7 G H locs ls hW hS hl hw
    exact hw.elim
  | succ n ih => exact s_X3_removeIf_57_b C hr hll post _ ih
set_option maxHeartbeats 4000000 in
set_option maxRecDepth 100000 in
theorem s_X3_removeIf_31 {K : tK} (C : tc_B p l s m args meth c D K A wz_X3_removeIf RX3 cX3_removeIf 9) (hr : meth.sig.returnType = (some .int)) (hll : l.stackTraces = false)  (post : Int32 → tG → Prop) : ∀ (v0 : Option Nat) (v1 : Int32) (v2 : Int32) (v3 : Int32) (u0 : Option Nat) (u1 : Int32) (u2 : Int32) (G : tG) (H : Heap) (locs : List Loc) (ls : Array Slot), tg_W D A s H G → va_S A s.heap H locs → tl ls 9 [(0, .inr (.inr v0)), (1, .inl v1), (2, .inl v2), (3, .inl v3)] → w_X3_removeIf_31 K post v0 v1 v2 v3 u0 u1 u2 G → W p l e ({ frames := 2, cells := 1, slots := 12, locals := 45 } : Room) s m args below meth c H locs 0 0 (MQ below (tc_Qc D A (retI post)) args s 1 12 A) (F0 m 31 ls [.int u2, .int u1, va_rf u0]) := by
  intro v0 v1 v2 v3 u0 u1 u2 G H locs ls hW hS hl hw
  unfold w_X3_removeIf_31 at hw
  refine tr_backI (tr_runV (r := u0) (As := [.int u1, .int u2]) C hl.1 (c_X3_fails l hll K _ u0 u1 u2) (cwV 2 C.1.2.2.2.2 (gi_V (zm kw_190) (zm kw_191) (zm kw_192) (zm kw_155) (zm kw_189)) rfl rfl rfl (by decide +kernel) ⟨(Nat.le_of_ble_eq_true rfl), (Nat.le_of_ble_eq_true rfl)⟩) rfl rfl dX3_removeIf_31 ⟨(Nat.le_of_ble_eq_true rfl), (Nat.le_of_ble_eq_true rfl)⟩ [] rfl (Nat.le_of_ble_eq_true rfl) rfl hW hS hw) hS (fun x_31 G_31 H locs hw hW hS => ?_)
  refine lv_if_eq (tgt := 39) C.1.1 C.1.2.1 dX3_removeIf_34 (by decide) (fun hc => ?_) (fun hc => ?_)
  · have hw := hw.1 hc
    refine lv_iconst (v := (0 : Int32)) C.1.1 C.1.2.1 dX3_removeIf_39 (by decide) ?_
    refine tr_istore (x := (0 : Int32)) C hl [(4, .inl (0 : Int32)), (0, .inr (.inr v0)), (1, .inl v1), (2, .inl v2), (3, .inl v3)] (by decide) rfl dX3_removeIf_40 (fun ls hl => ?_)
    refine tr_aload_n (k := 0) (x := v0) C hl 1 rfl dX3_removeIf_42 ?_
    refine tr_iload_n (k := 1) (x := v1) C hl 2 rfl dX3_removeIf_43 ?_
    refine tr_backR (tr_runV (r := v0) (As := [.int v1]) C hl.1 (c_X3_all l hll K _ v0 v1) (cwV 1 C.1.2.2.2.2 (gi_V (zm kw_157) (zm kw_158) (zm kw_159) (zm kw_155) (zm kw_156)) rfl rfl rfl (by decide +kernel) ⟨(Nat.le_of_ble_eq_true rfl), (Nat.le_of_ble_eq_true rfl)⟩) rfl rfl dX3_removeIf_44 ⟨(Nat.le_of_ble_eq_true rfl), (Nat.le_of_ble_eq_true rfl)⟩ [] rfl (Nat.le_of_ble_eq_true rfl) rfl hW hS hw) hS (fun x_44 G_44 H locs hw hW hS => ?_)
    refine tr_astore (x := x_44) C hl [(5, .inr (.inr x_44)), (4, .inl (0 : Int32)), (0, .inr (.inr v0)), (1, .inl v1), (2, .inl v2), (3, .inl v3)] (by decide) rfl dX3_removeIf_47 (fun ls hl => ?_)
    refine tr_aload (x := x_44) C hl 0 rfl dX3_removeIf_49 ?_
    refine tr_len (r := x_44) C dX3_removeIf_51 hW hw (fun x_51 hw => ?_)
    refine tr_istore (x := x_51) C hl [(6, .inl x_51), (5, .inr (.inr x_44)), (4, .inl (0 : Int32)), (0, .inr (.inr v0)), (1, .inl v1), (2, .inl v2), (3, .inl v3)] (by decide) rfl dX3_removeIf_52 (fun ls hl => ?_)
    refine lv_iconst (v := (0 : Int32)) C.1.1 C.1.2.1 dX3_removeIf_54 (by decide) ?_
    refine tr_istore (x := (0 : Int32)) C hl [(7, .inl (0 : Int32)), (6, .inl x_51), (5, .inr (.inr x_44)), (4, .inl (0 : Int32)), (0, .inr (.inr v0)), (1, .inl v1), (2, .inl v2), (3, .inl v3)] (by decide) rfl dX3_removeIf_55 (fun ls hl => ?_)
    obtain ⟨n57, hw⟩ := hw
    exact s_X3_removeIf_57 C hr hll post n57 v0 v2 v3 ((0 : Int32)) x_44 x_51 ((0 : Int32)) _ _ _ _ hW hS (tl_sub hl [4, 6, 7, 3, 2, 1, 0] rfl) hw
  · have hw := hw.2 hc
    refine lv_iconst (v := (0 : Int32)) C.1.1 C.1.2.1 dX3_removeIf_37 (by decide) ?_
    exact tr_iret C hr dX3_removeIf_38 (Nat.le_of_ble_eq_true rfl) (Nat.le_of_ble_eq_true rfl) hW hS hw
set_option maxHeartbeats 4000000 in
set_option maxRecDepth 100000 in
theorem s_X3_removeIf_26 {K : tK} (C : tc_B p l s m args meth c D K A wz_X3_removeIf RX3 cX3_removeIf 9) (hr : meth.sig.returnType = (some .int)) (hll : l.stackTraces = false)  (post : Int32 → tG → Prop) : ∀ (v0 : Option Nat) (v1 : Int32) (v2 : Int32) (v3 : Int32) (u0 : Option Nat) (u1 : Int32) (G : tG) (H : Heap) (locs : List Loc) (ls : Array Slot), tg_W D A s H G → va_S A s.heap H locs → tl ls 9 [(0, .inr (.inr v0)), (1, .inl v1), (2, .inl v2), (3, .inl v3)] → w_X3_removeIf_26 K post v0 v1 v2 v3 u0 u1 G → W p l e ({ frames := 2, cells := 1, slots := 12, locals := 45 } : Room) s m args below meth c H locs 0 0 (MQ below (tc_Qc D A (retI post)) args s 1 12 A) (F0 m 26 ls [.int u1, va_rf u0]) := by
  intro v0 v1 v2 v3 u0 u1 G H locs ls hW hS hl hw
  unfold w_X3_removeIf_26 at hw
  refine lv_iconst (v := (1 : Int32)) C.1.1 C.1.2.1 dX3_removeIf_26 (by decide) ?_
  refine lv_goto (tgt := 31) C.1.1 C.1.2.1 dX3_removeIf_27 (by decide) ?_
  exact s_X3_removeIf_31 C hr hll post v0 v1 v2 v3 u0 u1 ((1 : Int32)) _ _ _ _ hW hS (tl_sub hl [0, 1, 2, 3] rfl) hw
set_option maxHeartbeats 4000000 in
set_option maxRecDepth 100000 in
theorem s_X3_removeIf {K : tK} (C : tc_B p l s m args meth c D K A wz_X3_removeIf RX3 cX3_removeIf 9) (hr : meth.sig.returnType = (some .int)) (hll : l.stackTraces = false)  (post : Int32 → tG → Prop) (v0 : Option Nat) (v1 : Int32) (v2 : Int32) (v3 : Int32) : ∀ (G : tG) (H : Heap) (locs : List Loc) (ls : Array Slot), tg_W D A s H G → va_S A s.heap H locs → tl ls 9 [(0, .inr (.inr v0)), (1, .inl v1), (2, .inl v2), (3, .inl v3)] → w_X3_removeIf K post v0 v1 v2 v3 G → W p l e ({ frames := 2, cells := 1, slots := 12, locals := 45 } : Room) s m args below meth c H locs 0 0 (MQ below (tc_Qc D A (retI post)) args s 1 12 A) (F0 m 0 ls []) := by
  intro G H locs ls hW hS hl hw
  unfold w_X3_removeIf at hw
  refine tr_aload_n (k := 0) (x := v0) C hl 0 rfl dX3_removeIf_0 ?_
  refine tr_aload_n (k := 0) (x := v0) C hl 0 rfl dX3_removeIf_1 ?_
  refine tr_iload_n (k := 1) (x := v1) C hl 1 rfl dX3_removeIf_2 ?_
  refine tr_backI (tr_runV (r := v0) (As := [.int v1]) C hl.1 (c_X3_isNoList l hll K _ v0 v1) (cwV 1 C.1.2.2.2.2 (gi_V (zm kw_211) (zm kw_212) (zm kw_213) (zm kw_155) (zm kw_210)) rfl rfl rfl (by decide +kernel) ⟨(Nat.le_of_ble_eq_true rfl), (Nat.le_of_ble_eq_true rfl)⟩) rfl rfl dX3_removeIf_3 ⟨(Nat.le_of_ble_eq_true rfl), (Nat.le_of_ble_eq_true rfl)⟩ [.inr (.inr v0)] rfl (Nat.le_of_ble_eq_true rfl) rfl hW hS hw) hS (fun x_3 G_3 H locs hw hW hS => ?_)
  refine tr_iload_n (k := 2) (x := v2) C hl 2 rfl dX3_removeIf_6 ?_
  refine lv_iconst (v := (0 : Int32)) C.1.1 C.1.2.1 dX3_removeIf_7 (by decide) ?_
  refine lv_iconst (v := (2 : Int32)) C.1.1 C.1.2.1 dX3_removeIf_8 (by decide) ?_
  refine tr_backI (tr_runS (As := [.int v2, .int ((0 : Int32)), .int ((2 : Int32))]) C hl.1 (c_X3_isIn l hll K _ v2 ((0 : Int32)) ((2 : Int32))) (va_cwS 3 C.1.2.2.2.2 (gi_S (zm kw_194) (zm kw_195) (zm kw_155) (zm kw_193)) rfl rfl rfl (by decide +kernel) ⟨(Nat.le_of_ble_eq_true rfl), (Nat.le_of_ble_eq_true rfl)⟩) rfl dX3_removeIf_9 ⟨(Nat.le_of_ble_eq_true rfl), (Nat.le_of_ble_eq_true rfl)⟩ [.inl x_3, .inr (.inr v0)] rfl (Nat.le_of_ble_eq_true rfl) rfl hW hS hw) hS (fun x_9 G_9 H locs hw hW hS => ?_)
  refine lv_if_eq (tgt := 26) C.1.1 C.1.2.1 dX3_removeIf_12 (by decide) (fun hc => ?_) (fun hc => ?_)
  · have hw := hw.1 hc
    exact s_X3_removeIf_26 C hr hll post v0 v1 v2 v3 v0 x_3 _ _ _ _ hW hS (tl_sub hl [0, 1, 2, 3] rfl) hw
  · have hw := hw.2 hc
    refine tr_iload_n (k := 3) (x := v3) C hl 3 rfl dX3_removeIf_15 ?_
    refine lv_bipush (v := (-99 : Int32)) C.1.1 C.1.2.1 dX3_removeIf_16 (by decide) ?_
    refine lv_bipush (v := (99 : Int32)) C.1.1 C.1.2.1 dX3_removeIf_18 (by decide) ?_
    refine tr_backI (tr_runS (As := [.int v3, .int ((-99 : Int32)), .int ((99 : Int32))]) C hl.1 (c_X3_isIn l hll K _ v3 ((-99 : Int32)) ((99 : Int32))) (va_cwS 3 C.1.2.2.2.2 (gi_S (zm kw_194) (zm kw_195) (zm kw_155) (zm kw_193)) rfl rfl rfl (by decide +kernel) ⟨(Nat.le_of_ble_eq_true rfl), (Nat.le_of_ble_eq_true rfl)⟩) rfl dX3_removeIf_20 ⟨(Nat.le_of_ble_eq_true rfl), (Nat.le_of_ble_eq_true rfl)⟩ [.inl x_3, .inr (.inr v0)] rfl (Nat.le_of_ble_eq_true rfl) rfl hW hS hw) hS (fun x_20 G_20 H locs hw hW hS => ?_)
    refine lv_if_ne (tgt := 30) C.1.1 C.1.2.1 dX3_removeIf_23 (by decide) (fun hc => ?_) (fun hc => ?_)
    · have hw := hw.1 hc
      refine lv_iconst (v := (0 : Int32)) C.1.1 C.1.2.1 dX3_removeIf_30 (by decide) ?_
      exact s_X3_removeIf_31 C hr hll post v0 v1 v2 v3 v0 x_3 ((0 : Int32)) _ _ _ _ hW hS (tl_sub hl [0, 1, 2, 3] rfl) hw
    · have hw := hw.2 hc
      exact s_X3_removeIf_26 C hr hll post v0 v1 v2 v3 v0 x_3 _ _ _ _ hW hS (tl_sub hl [0, 1, 2, 3] rfl) hw
end Z_X3_removeIf
set_option maxHeartbeats 4000000 in
set_option maxRecDepth 100000 in
theorem c_X3_removeIf (l : Launch) (hll : l.stackTraces = false) (K : tK) (post : Int32 → tG → Prop) (v0 : Option Nat) (v1 : Int32) (v2 : Int32) (v3 : Int32) : Ct l yX3_removeIf wz_X3_removeIf ({ frames := 2, cells := 1, slots := 12, locals := 45 } : Room) 1 12 [va_rf v0, .int v1, .int v2, .int v3] K (retI post) (fun G => w_X3_removeIf K post v0 v1 v2 v3 G) := by
  refine tc_of (cc := cX3_removeIf) (maxL := 9) (ret := (some .int)) (own := RX3) (plainFor_of_name (by decide)) rfl rfl hll [.inr (.inr v0), .inl v1, .inl v2, .inl v3] rfl (Nat.le_of_ble_eq_true rfl) ?_
  intro p e s m args below meth c D A G ls C hr hn ht hl hW hS hw
  exact s_X3_removeIf C hr hll post v0 v1 v2 v3 _ _ _ _ hW hS hl hw

/-! X1_stands -/
def wz_X1_stands : List Cond := Cond.code yX1_stands cX1_stands 2 (some .boolean) :: w0
section Z_X1_stands
variable {p : Program} {l : Launch} {e : Env} {s : State} {m : MethodId} {args : Array Value} {below : List Frame} {meth : Method} {c : Code} {D : va_G} {A : Nat → Prop}
set_option maxHeartbeats 4000000 in
set_option maxRecDepth 100000 in
theorem s_X1_stands_14 {K : tK} (C : tc_B p l s m args meth c D K A wz_X1_stands RX1 cX1_stands 2) (hr : meth.sig.returnType = (some .boolean)) (hll : l.stackTraces = false)  (post : Int32 → tG → Prop) : ∀ (u0 : Int32) (G : tG) (H : Heap) (locs : List Loc) (ls : Array Slot), tg_W D A s H G → va_S A s.heap H locs → tl ls 2 [] → w_X1_stands_14 K post u0 G → W p l e ({ frames := 2, cells := 0, slots := 0, locals := 44 } : Room) s m args below meth c H locs 0 0 (MQ below (tc_Qc D A (retI post)) args s 0 0 A) (F0 m 14 ls [.int u0]) := by
  intro u0 G H locs ls hW hS hl hw
  unfold w_X1_stands_14 at hw
  exact tr_zret C hr dX1_stands_14 (Nat.le_of_ble_eq_true rfl) (Nat.le_of_ble_eq_true rfl) hW hS hw
set_option maxHeartbeats 4000000 in
set_option maxRecDepth 100000 in
theorem s_X1_stands {K : tK} (C : tc_B p l s m args meth c D K A wz_X1_stands RX1 cX1_stands 2) (hr : meth.sig.returnType = (some .boolean)) (hll : l.stackTraces = false)  (post : Int32 → tG → Prop) (v0 : Option Nat) (v1 : Int32) : ∀ (G : tG) (H : Heap) (locs : List Loc) (ls : Array Slot), tg_W D A s H G → va_S A s.heap H locs → tl ls 2 [(0, .inr (.inr v0)), (1, .inl v1)] → w_X1_stands K post v0 v1 G → W p l e ({ frames := 2, cells := 0, slots := 0, locals := 44 } : Room) s m args below meth c H locs 0 0 (MQ below (tc_Qc D A (retI post)) args s 0 0 A) (F0 m 0 ls []) := by
  intro G H locs ls hW hS hl hw
  unfold w_X1_stands at hw
  refine tr_aload_n (k := 0) (x := v0) C hl 0 rfl dX1_stands_0 ?_
  refine tr_iload_n (k := 1) (x := v1) C hl 1 rfl dX1_stands_1 ?_
  refine tr_backI (tr_runS (As := [va_rf v0, .int v1]) C hl.1 (c_X1_firstPlace l hll K _ v0 v1) (va_cwS 2 C.1.2.2.2.2 (gi_S (zm kw_54) (zm kw_55) (zm kw_33) (zm kw_53)) rfl rfl rfl (by decide +kernel) ⟨(Nat.le_of_ble_eq_true rfl), (Nat.le_of_ble_eq_true rfl)⟩) rfl dX1_stands_2 ⟨(Nat.le_of_ble_eq_true rfl), (Nat.le_of_ble_eq_true rfl)⟩ [] rfl (Nat.le_of_ble_eq_true rfl) rfl hW hS hw) hS (fun x_2 G_2 H locs hw hW hS => ?_)
  refine lv_iconst (v := (-1 : Int32)) C.1.1 C.1.2.1 dX1_stands_5 (by decide) ?_
  refine lv_icmp_eq (tgt := 13) C.1.1 C.1.2.1 dX1_stands_6 (by decide) (fun hc => ?_) (fun hc => ?_)
  · have hw := hw.1 hc
    refine lv_iconst (v := (0 : Int32)) C.1.1 C.1.2.1 dX1_stands_13 (by decide) ?_
    exact s_X1_stands_14 C hr hll post ((0 : Int32)) _ _ _ _ hW hS (tl_sub hl [] rfl) hw
  · have hw := hw.2 hc
    refine lv_iconst (v := (1 : Int32)) C.1.1 C.1.2.1 dX1_stands_9 (by decide) ?_
    refine lv_goto (tgt := 14) C.1.1 C.1.2.1 dX1_stands_10 (by decide) ?_
    exact s_X1_stands_14 C hr hll post ((1 : Int32)) _ _ _ _ hW hS (tl_sub hl [] rfl) hw
end Z_X1_stands
set_option maxHeartbeats 4000000 in
set_option maxRecDepth 100000 in
theorem c_X1_stands (l : Launch) (hll : l.stackTraces = false) (K : tK) (post : Int32 → tG → Prop) (v0 : Option Nat) (v1 : Int32) : Ct l yX1_stands wz_X1_stands ({ frames := 2, cells := 0, slots := 0, locals := 44 } : Room) 0 0 [va_rf v0, .int v1] K (retI post) (fun G => w_X1_stands K post v0 v1 G) := by
  refine tc_of (cc := cX1_stands) (maxL := 2) (ret := (some .boolean)) (own := RX1) (plainFor_of_name (by decide)) rfl rfl hll [.inr (.inr v0), .inl v1] rfl (Nat.le_of_ble_eq_true rfl) ?_
  intro p e s m args below meth c D A G ls C hr hn ht hl hW hS hw
  exact s_X1_stands C hr hll post v0 v1 _ _ _ _ hW hS hl hw

/-! X1_hasOneThatStands -/
def wz_X1_hasOneThatStands : List Cond := Cond.code yX1_hasOneThatStands cX1_hasOneThatStands 4 (some .boolean) :: w0
section Z_X1_hasOneThatStands
variable {p : Program} {l : Launch} {e : Env} {s : State} {m : MethodId} {args : Array Value} {below : List Frame} {meth : Method} {c : Code} {D : va_G} {A : Nat → Prop}
set_option maxHeartbeats 4000000 in
set_option maxRecDepth 100000 in
theorem s_X1_hasOneThatStands_2_b {K : tK} (C : tc_B p l s m args meth c D K A wz_X1_hasOneThatStands RX1 cX1_hasOneThatStands 4) (hr : meth.sig.returnType = (some .boolean)) (hll : l.stackTraces = false)  (post : Int32 → tG → Prop) (k2 : Option Nat → Option Nat → Int32 → Int32 → tG → Prop) (hk2 : ∀ (v0 : Option Nat) (v1 : Option Nat) (v2 : Int32) (v3 : Int32) (G : tG) (H : Heap) (locs : List Loc) (ls : Array Slot), tg_W D A s H G → va_S A s.heap H locs → tl ls 4 [(0, .inr (.inr v0)), (1, .inr (.inr v1)), (2, .inl v2), (3, .inl v3)] → k2 v0 v1 v2 v3 G → W p l e ({ frames := 3, cells := 0, slots := 0, locals := 65 } : Room) s m args below meth c H locs 0 0 (MQ below (tc_Qc D A (retI post)) args s 0 0 A) (F0 m 2 ls [])) : ∀ (v0 : Option Nat) (v1 : Option Nat) (v2 : Int32) (v3 : Int32) (G : tG) (H : Heap) (locs : List Loc) (ls : Array Slot), tg_W D A s H G → va_S A s.heap H locs → tl ls 4 [(0, .inr (.inr v0)), (1, .inr (.inr v1)), (2, .inl v2), (3, .inl v3)] → w_X1_hasOneThatStands_2_b K post k2 v0 v1 v2 v3 G → W p l e ({ frames := 3, cells := 0, slots := 0, locals := 65 } : Room) s m args below meth c H locs 0 0 (MQ below (tc_Qc D A (retI post)) args s 0 0 A) (F0 m 2 ls []) := by
  intro v0 v1 v2 v3 G H locs ls hW hS hl hw
  unfold w_X1_hasOneThatStands_2_b at hw
  refine tr_iload_n (k := 3) (x := v3) C hl 3 rfl dX1_hasOneThatStands_2 ?_
  refine tr_aload_n (k := 0) (x := v0) C hl 0 rfl dX1_hasOneThatStands_3 ?_
  refine tr_gfI (C0 := RX0) (T := TX0) (N := 4) (ci := 2) (ref := "Twinrow$RowList") (k := 3) (r := v0) C (zh hw_X0) rfl (by decide) (zm kw_34) rfl dX1_hasOneThatStands_4 hW hw (fun x_4 hw => ?_)
  refine lv_icmp_ge (tgt := 31) C.1.1 C.1.2.1 dX1_hasOneThatStands_7 (by decide) (fun hc => ?_) (fun hc => ?_)
  · have hw := hw.1 hc
    refine lv_iconst (v := (0 : Int32)) C.1.1 C.1.2.1 dX1_hasOneThatStands_31 (by decide) ?_
    exact tr_zret C hr dX1_hasOneThatStands_32 (Nat.le_of_ble_eq_true rfl) (Nat.le_of_ble_eq_true rfl) hW hS hw
  · have hw := hw.2 hc
    refine tr_aload_n (k := 1) (x := v1) C hl 1 rfl dX1_hasOneThatStands_10 ?_
    refine tr_aload_n (k := 0) (x := v0) C hl 0 rfl dX1_hasOneThatStands_11 ?_
    refine tr_iload_n (k := 3) (x := v3) C hl 3 rfl dX1_hasOneThatStands_12 ?_
    refine tr_backI (tr_runV (r := v0) (As := [.int v3]) C hl.1 (c_X0_read l hll K _ v0 v3) (cwV 1 C.1.2.2.2.2 (gi_V (zm kw_27) (zm kw_28) (zm kw_29) (zm kw_10) (zm kw_26)) rfl rfl rfl (by decide +kernel) ⟨(Nat.le_of_ble_eq_true rfl), (Nat.le_of_ble_eq_true rfl)⟩) rfl rfl dX1_hasOneThatStands_13 ⟨(Nat.le_of_ble_eq_true rfl), (Nat.le_of_ble_eq_true rfl)⟩ [.inr (.inr v1)] rfl (Nat.le_of_ble_eq_true rfl) rfl hW hS hw) hS (fun x_13 G_13 H locs hw hW hS => ?_)
    refine tr_backI (tr_runS (As := [va_rf v1, .int x_13]) C hl.1 (c_X1_stands l hll K _ v1 x_13) (va_cwS 2 C.1.2.2.2.2 (gi_S (zm kw_244) (zm kw_245) (zm kw_33) (zm kw_243)) rfl rfl rfl (by decide +kernel) ⟨(Nat.le_of_ble_eq_true rfl), (Nat.le_of_ble_eq_true rfl)⟩) rfl dX1_hasOneThatStands_16 ⟨(Nat.le_of_ble_eq_true rfl), (Nat.le_of_ble_eq_true rfl)⟩ [] rfl (Nat.le_of_ble_eq_true rfl) rfl hW hS hw) hS (fun x_16 G_16 H locs hw hW hS => ?_)
    refine tr_iload_n (k := 2) (x := v2) C hl 2 rfl dX1_hasOneThatStands_19 ?_
    refine lv_icmp_ne (tgt := 25) C.1.1 C.1.2.1 dX1_hasOneThatStands_20 (by decide) (fun hc => ?_) (fun hc => ?_)
    · have hw := hw.1 hc
      refine tr_iinc C hl 3 (v3 + (1 : Int32)) [(3, .inl (v3 + (1 : Int32))), (0, .inr (.inr v0)), (1, .inr (.inr v1)), (2, .inl v2)] rfl rfl (by decide) rfl dX1_hasOneThatStands_25 (fun ls hl => ?_)
      refine lv_goto (tgt := 2) C.1.1 C.1.2.1 dX1_hasOneThatStands_28 (by decide) ?_
      exact hk2 v0 v1 v2 ((v3 + (1 : Int32))) _ _ _ _ hW hS (tl_sub hl [1, 2, 3, 0] rfl) hw
    · have hw := hw.2 hc
      refine lv_iconst (v := (1 : Int32)) C.1.1 C.1.2.1 dX1_hasOneThatStands_23 (by decide) ?_
      exact tr_zret C hr dX1_hasOneThatStands_24 (Nat.le_of_ble_eq_true rfl) (Nat.le_of_ble_eq_true rfl) hW hS hw
set_option maxHeartbeats 4000000 in
set_option maxRecDepth 100000 in
theorem s_X1_hasOneThatStands_2 {K : tK} (C : tc_B p l s m args meth c D K A wz_X1_hasOneThatStands RX1 cX1_hasOneThatStands 4) (hr : meth.sig.returnType = (some .boolean)) (hll : l.stackTraces = false)  (post : Int32 → tG → Prop) : ∀ (n : Nat) (v0 : Option Nat) (v1 : Option Nat) (v2 : Int32) (v3 : Int32) (G : tG) (H : Heap) (locs : List Loc) (ls : Array Slot), tg_W D A s H G → va_S A s.heap H locs → tl ls 4 [(0, .inr (.inr v0)), (1, .inr (.inr v1)), (2, .inl v2), (3, .inl v3)] → w_X1_hasOneThatStands_2 K post n v0 v1 v2 v3 G → W p l e ({ frames := 3, cells := 0, slots := 0, locals := 65 } : Room) s m args below meth c H locs 0 0 (MQ below (tc_Qc D A (retI post)) args s 0 0 A) (F0 m 2 ls []) := by
  intro n
  induction n with
  | zero =>
    intro v0 v1 v2 v3 G H locs ls hW hS hl hw
    exact hw.elim
  | succ n ih => exact s_X1_hasOneThatStands_2_b C hr hll post _ ih
set_option maxHeartbeats 4000000 in
set_option maxRecDepth 100000 in
theorem s_X1_hasOneThatStands {K : tK} (C : tc_B p l s m args meth c D K A wz_X1_hasOneThatStands RX1 cX1_hasOneThatStands 4) (hr : meth.sig.returnType = (some .boolean)) (hll : l.stackTraces = false)  (post : Int32 → tG → Prop) (v0 : Option Nat) (v1 : Option Nat) (v2 : Int32) : ∀ (G : tG) (H : Heap) (locs : List Loc) (ls : Array Slot), tg_W D A s H G → va_S A s.heap H locs → tl ls 4 [(0, .inr (.inr v0)), (1, .inr (.inr v1)), (2, .inl v2)] → w_X1_hasOneThatStands K post v0 v1 v2 G → W p l e ({ frames := 3, cells := 0, slots := 0, locals := 65 } : Room) s m args below meth c H locs 0 0 (MQ below (tc_Qc D A (retI post)) args s 0 0 A) (F0 m 0 ls []) := by
  intro G H locs ls hW hS hl hw
  unfold w_X1_hasOneThatStands at hw
  refine lv_iconst (v := (0 : Int32)) C.1.1 C.1.2.1 dX1_hasOneThatStands_0 (by decide) ?_
  refine tr_istore_n (k := 3) (x := (0 : Int32)) C hl [(3, .inl (0 : Int32)), (0, .inr (.inr v0)), (1, .inr (.inr v1)), (2, .inl v2)] (by decide) rfl dX1_hasOneThatStands_1 (fun ls hl => ?_)
  obtain ⟨n2, hw⟩ := hw
  exact s_X1_hasOneThatStands_2 C hr hll post n2 v0 v1 v2 ((0 : Int32)) _ _ _ _ hW hS (tl_sub hl [1, 2, 3, 0] rfl) hw
end Z_X1_hasOneThatStands
set_option maxHeartbeats 4000000 in
set_option maxRecDepth 100000 in
theorem c_X1_hasOneThatStands (l : Launch) (hll : l.stackTraces = false) (K : tK) (post : Int32 → tG → Prop) (v0 : Option Nat) (v1 : Option Nat) (v2 : Int32) : Ct l yX1_hasOneThatStands wz_X1_hasOneThatStands ({ frames := 3, cells := 0, slots := 0, locals := 65 } : Room) 0 0 [va_rf v0, va_rf v1, .int v2] K (retI post) (fun G => w_X1_hasOneThatStands K post v0 v1 v2 G) := by
  refine tc_of (cc := cX1_hasOneThatStands) (maxL := 4) (ret := (some .boolean)) (own := RX1) (plainFor_of_name (by decide)) rfl rfl hll [.inr (.inr v0), .inr (.inr v1), .inl v2] rfl (Nat.le_of_ble_eq_true rfl) ?_
  intro p e s m args below meth c D A G ls C hr hn ht hl hW hS hw
  exact s_X1_hasOneThatStands C hr hll post v0 v1 v2 _ _ _ _ hW hS hl hw
