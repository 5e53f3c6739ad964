/-! X0_init -/
def wz_X0_init : List Cond := Cond.code yX0_init cX0_init 5 none :: w0
section Z_X0_init
variable {p : Program} {l : Launch} {e : Env} {s : State} {m : MethodId} {args : Array Value} {below : List Frame} {meth : Method} {c : Code} {D : va_G} {A : Nat → Prop}
set_option maxHeartbeats 4000000 in
set_option maxRecDepth 100000 in
theorem s_X0_init {K : tK} (C : tc_B p l s m args meth c D K A wz_X0_init RX0 cX0_init 5) (hr : meth.sig.returnType = none) (hn : meth.name = "<init>") (hll : l.stackTraces = false)  (post : tG → Prop) (v0 : Option Nat) (v1 : Int32) (v2 : Option Nat) (v3 : Int32) (v4 : Int32) : ∀ (G : tG) (H : Heap) (locs : List Loc) (ls : Array Slot), tg_W D A s H G → va_S A s.heap H locs → tl ls 5 [(0, .inr (.inr v0)), (1, .inl v1), (2, .inr (.inr v2)), (3, .inl v3), (4, .inl v4)] → w_X0_init K post v0 v1 v2 v3 v4 G → W p l e ({ frames := 1, cells := 0, slots := 0, locals := 12 } : Room) s m args below meth c H locs 0 0 (MQ below (tc_Qc D A (retV post)) args s 0 0 A) (F0 m 0 ls []) := by
  intro G H locs ls hW hS hl hw
  unfold w_X0_init at hw
  refine tr_aload_n (k := 0) (x := v0) C hl 0 rfl dX0_init_0 ?_
  refine tr_objInit (r := v0) C hl.1 (zm kw_0) (zm kw_1) (zm kw_2) hw.1 dX0_init_1 (Nat.le_of_ble_eq_true rfl) (Nat.le_of_ble_eq_true rfl) ?_
  have hw := hw.2
  refine tr_aload_n (k := 0) (x := v0) C hl 0 rfl dX0_init_4 ?_
  refine tr_iload_n (k := 1) (x := v1) C hl 1 rfl dX0_init_5 ?_
  refine tr_pfF (C0 := RX0) (T := TX0) (N := 4) (ci := 2) (ref := "Twinrow$RowList") (k := 0) (ty := .int) (v := .int v1) (r := v0) C (zh hw_X0) tyX0 tyX0_ok nmX0 rfl (by decide) (zm kw_3) rfl rfl hn rfl (by decide +kernel) rfl rfl dX0_init_6 hW hS hw (fun G_6 H locs hw hW hS => ?_)
  refine tr_aload_n (k := 0) (x := v0) C hl 0 rfl dX0_init_9 ?_
  refine tr_aload_n (k := 2) (x := v2) C hl 2 rfl dX0_init_10 ?_
  refine tr_pfF (C0 := RX0) (T := TX0) (N := 4) (ci := 2) (ref := "Twinrow$RowList") (k := 1) (ty := .array .int) (v := va_rf v2) (r := v0) C (zh hw_X0) tyX0 tyX0_ok nmX0 rfl (by decide) (zm kw_4) rfl rfl hn rfl (by decide +kernel) (tv_nrA _ _) (tv_frA _ _) dX0_init_11 hW hS hw (fun G_11 H locs hw hW hS => ?_)
  refine tr_aload_n (k := 0) (x := v0) C hl 0 rfl dX0_init_14 ?_
  refine tr_iload_n (k := 3) (x := v3) C hl 3 rfl dX0_init_15 ?_
  refine tr_pfF (C0 := RX0) (T := TX0) (N := 4) (ci := 2) (ref := "Twinrow$RowList") (k := 2) (ty := .int) (v := .int v3) (r := v0) C (zh hw_X0) tyX0 tyX0_ok nmX0 rfl (by decide) (zm kw_5) rfl rfl hn rfl (by decide +kernel) rfl rfl dX0_init_16 hW hS hw (fun G_16 H locs hw hW hS => ?_)
  refine tr_aload_n (k := 0) (x := v0) C hl 0 rfl dX0_init_19 ?_
  refine tr_iload (x := v4) C hl 4 rfl dX0_init_20 ?_
  refine tr_pfF (C0 := RX0) (T := TX0) (N := 4) (ci := 2) (ref := "Twinrow$RowList") (k := 3) (ty := .int) (v := .int v4) (r := v0) C (zh hw_X0) tyX0 tyX0_ok nmX0 rfl (by decide) (zm kw_6) rfl rfl hn rfl (by decide +kernel) rfl rfl dX0_init_22 hW hS hw (fun G_22 H locs hw hW hS => ?_)
  exact tr_vret C hr dX0_init_25 (Nat.le_of_ble_eq_true rfl) (Nat.le_of_ble_eq_true rfl) hW hS hw
end Z_X0_init
set_option maxHeartbeats 4000000 in
set_option maxRecDepth 100000 in
theorem c_X0_init (l : Launch) (hll : l.stackTraces = false) (K : tK) (post : tG → Prop) (v0 : Option Nat) (v1 : Int32) (v2 : Option Nat) (v3 : Int32) (v4 : Int32) : Ct l yX0_init wz_X0_init ({ frames := 1, cells := 0, slots := 0, locals := 12 } : Room) 0 0 [va_rf v0, .int v1, va_rf v2, .int v3, .int v4] K (retV post) (fun G => w_X0_init K post v0 v1 v2 v3 v4 G) := by
  refine tc_of (cc := cX0_init) (maxL := 5) (ret := none) (own := RX0) (by decide) rfl rfl hll [.inr (.inr v0), .inl v1, .inr (.inr v2), .inl v3, .inl v4] rfl (Nat.le_of_ble_eq_true rfl) ?_
  intro p e s m args below meth c D A G ls C hr hn ht hl hW hS hw
  exact s_X0_init C hr hn hll post v0 v1 v2 v3 v4 _ _ _ _ hW hS hl hw
/-! X0_isPlace -/
def wz_X0_isPlace : List Cond := Cond.code yX0_isPlace cX0_isPlace 2 (some .boolean) :: w0
section Z_X0_isPlace
variable {p : Program} {l : Launch} {e : Env} {s : State} {m : MethodId} {args : Array Value} {below : List Frame} {meth : Method} {c : Code} {D : va_G} {A : Nat → Prop}
set_option maxHeartbeats 4000000 in
set_option maxRecDepth 100000 in
theorem s_X0_isPlace_17 {K : tK} (C : tc_B p l s m args meth c D K A wz_X0_isPlace RX0 cX0_isPlace 2) (hr : meth.sig.returnType = (some .boolean)) (hll : l.stackTraces = false)  (post : Int32 → tG → Prop) : ∀ (u0 : Int32) (G : tG) (H : Heap) (locs : List Loc) (ls : Array Slot), tg_W D A s H G → va_S A s.heap H locs → tl ls 2 [] → w_X0_isPlace_17 K post u0 G → W p l e ({ frames := 0, cells := 0, slots := 0, locals := 0 } : Room) s m args below meth c H locs 0 0 (MQ below (tc_Qc D A (retI post)) args s 0 0 A) (F0 m 17 ls [.int u0]) := by
  intro u0 G H locs ls hW hS hl hw
  unfold w_X0_isPlace_17 at hw
  exact tr_zret C hr dX0_isPlace_17 (Nat.le_of_ble_eq_true rfl) (Nat.le_of_ble_eq_true rfl) hW hS hw
set_option maxHeartbeats 4000000 in
set_option maxRecDepth 100000 in
theorem s_X0_isPlace_16 {K : tK} (C : tc_B p l s m args meth c D K A wz_X0_isPlace RX0 cX0_isPlace 2) (hr : meth.sig.returnType = (some .boolean)) (hll : l.stackTraces = false)  (post : Int32 → tG → Prop) : ∀ (G : tG) (H : Heap) (locs : List Loc) (ls : Array Slot), tg_W D A s H G → va_S A s.heap H locs → tl ls 2 [] → w_X0_isPlace_16 K post G → W p l e ({ frames := 0, cells := 0, slots := 0, locals := 0 } : Room) s m args below meth c H locs 0 0 (MQ below (tc_Qc D A (retI post)) args s 0 0 A) (F0 m 16 ls []) := by
  intro G H locs ls hW hS hl hw
  unfold w_X0_isPlace_16 at hw
  refine lv_iconst (v := (0 : Int32)) C.1.1 C.1.2.1 dX0_isPlace_16 (by decide) ?_
  exact s_X0_isPlace_17 C hr hll post ((0 : Int32)) _ _ _ _ hW hS (tl_sub hl [] rfl) hw
set_option maxHeartbeats 4000000 in
set_option maxRecDepth 100000 in
theorem s_X0_isPlace {K : tK} (C : tc_B p l s m args meth c D K A wz_X0_isPlace RX0 cX0_isPlace 2) (hr : meth.sig.returnType = (some .boolean)) (hll : l.stackTraces = false)  (post : Int32 → tG → Prop) (v0 : Option Nat) (v1 : Int32) : ∀ (G : tG) (H : Heap) (locs : List Loc) (ls : Array Slot), tg_W D A s H G → va_S A s.heap H locs → tl ls 2 [(0, .inr (.inr v0)), (1, .inl v1)] → w_X0_isPlace K post v0 v1 G → W p l e ({ frames := 0, cells := 0, slots := 0, locals := 0 } : Room) s m args below meth c H locs 0 0 (MQ below (tc_Qc D A (retI post)) args s 0 0 A) (F0 m 0 ls []) := by
  intro G H locs ls hW hS hl hw
  unfold w_X0_isPlace at hw
  refine tr_iload_n (k := 1) (x := v1) C hl 1 rfl dX0_isPlace_0 ?_
  refine lv_if_lt (tgt := 16) C.1.1 C.1.2.1 dX0_isPlace_1 (by decide) (fun hc => ?_) (fun hc => ?_)
  · have hw := hw.1 hc
    exact s_X0_isPlace_16 C hr hll post _ _ _ _ hW hS (tl_sub hl [] rfl) hw
  · have hw := hw.2 hc
    refine tr_iload_n (k := 1) (x := v1) C hl 1 rfl dX0_isPlace_4 ?_
    refine tr_aload_n (k := 0) (x := v0) C hl 0 rfl dX0_isPlace_5 ?_
    refine tr_gfI (C0 := RX0) (T := TX0) (N := 4) (ci := 2) (ref := "Twinrow$RowList") (k := 3) (r := v0) C (zh hw_X0) rfl (by decide) (zm kw_6) rfl dX0_isPlace_6 hW hw (fun x_6 hw => ?_)
    refine lv_icmp_ge (tgt := 16) C.1.1 C.1.2.1 dX0_isPlace_9 (by decide) (fun hc => ?_) (fun hc => ?_)
    · have hw := hw.1 hc
      exact s_X0_isPlace_16 C hr hll post _ _ _ _ hW hS (tl_sub hl [] rfl) hw
    · have hw := hw.2 hc
      refine lv_iconst (v := (1 : Int32)) C.1.1 C.1.2.1 dX0_isPlace_12 (by decide) ?_
      refine lv_goto (tgt := 17) C.1.1 C.1.2.1 dX0_isPlace_13 (by decide) ?_
      exact s_X0_isPlace_17 C hr hll post ((1 : Int32)) _ _ _ _ hW hS (tl_sub hl [] rfl) hw
end Z_X0_isPlace
set_option maxHeartbeats 4000000 in
set_option maxRecDepth 100000 in
theorem c_X0_isPlace (l : Launch) (hll : l.stackTraces = false) (K : tK) (post : Int32 → tG → Prop) (v0 : Option Nat) (v1 : Int32) : Ct l yX0_isPlace wz_X0_isPlace ({ frames := 0, cells := 0, slots := 0, locals := 0 } : Room) 0 0 [va_rf v0, .int v1] K (retI post) (fun G => w_X0_isPlace K post v0 v1 G) := by
  refine tc_of (cc := cX0_isPlace) (maxL := 2) (ret := (some .boolean)) (own := RX0) (by decide) rfl rfl hll [.inr (.inr v0), .inl v1] rfl (Nat.le_of_ble_eq_true rfl) ?_
  intro p e s m args below meth c D A G ls C hr hn ht hl hW hS hw
  exact s_X0_isPlace C hr hll post v0 v1 _ _ _ _ hW hS hl hw
/-! X0_read -/
def wz_X0_read : List Cond := Cond.code yX0_read cX0_read 3 (some .int) :: w0
section Z_X0_read
variable {p : Program} {l : Launch} {e : Env} {s : State} {m : MethodId} {args : Array Value} {below : List Frame} {meth : Method} {c : Code} {D : va_G} {A : Nat → Prop}
set_option maxHeartbeats 4000000 in
set_option maxRecDepth 100000 in
theorem s_X0_read_32 {K : tK} (C : tc_B p l s m args meth c D K A wz_X0_read RX0 cX0_read 3) (hr : meth.sig.returnType = (some .int)) (hll : l.stackTraces = false)  (post : Int32 → tG → Prop) : ∀ (u0 : Int32) (G : tG) (H : Heap) (locs : List Loc) (ls : Array Slot), tg_W D A s H G → va_S A s.heap H locs → tl ls 3 [] → w_X0_read_32 K post u0 G → W p l e ({ frames := 0, cells := 0, slots := 0, locals := 0 } : Room) s m args below meth c H locs 0 0 (MQ below (tc_Qc D A (retI post)) args s 0 0 A) (F0 m 32 ls [.int u0]) := by
  intro u0 G H locs ls hW hS hl hw
  unfold w_X0_read_32 at hw
  exact tr_iret C hr dX0_read_32 (Nat.le_of_ble_eq_true rfl) (Nat.le_of_ble_eq_true rfl) hW hS hw
set_option maxHeartbeats 4000000 in
set_option maxRecDepth 100000 in
theorem s_X0_read_29 {K : tK} (C : tc_B p l s m args meth c D K A wz_X0_read RX0 cX0_read 3) (hr : meth.sig.returnType = (some .int)) (hll : l.stackTraces = false)  (post : Int32 → tG → Prop) : ∀ (G : tG) (H : Heap) (locs : List Loc) (ls : Array Slot), tg_W D A s H G → va_S A s.heap H locs → tl ls 3 [] → w_X0_read_29 K post G → W p l e ({ frames := 0, cells := 0, slots := 0, locals := 0 } : Room) s m args below meth c H locs 0 0 (MQ below (tc_Qc D A (retI post)) args s 0 0 A) (F0 m 29 ls []) := by
  intro G H locs ls hW hS hl hw
  unfold w_X0_read_29 at hw
  refine lv_sipush (v := (-1000 : Int32)) C.1.1 C.1.2.1 dX0_read_29 (by decide) ?_
  exact s_X0_read_32 C hr hll post ((-1000 : Int32)) _ _ _ _ hW hS (tl_sub hl [] rfl) hw
set_option maxHeartbeats 4000000 in
set_option maxRecDepth 100000 in
theorem s_X0_read {K : tK} (C : tc_B p l s m args meth c D K A wz_X0_read RX0 cX0_read 3) (hr : meth.sig.returnType = (some .int)) (hll : l.stackTraces = false)  (post : Int32 → tG → Prop) (v0 : Option Nat) (v1 : Int32) : ∀ (G : tG) (H : Heap) (locs : List Loc) (ls : Array Slot), tg_W D A s H G → va_S A s.heap H locs → tl ls 3 [(0, .inr (.inr v0)), (1, .inl v1)] → w_X0_read K post v0 v1 G → W p l e ({ frames := 0, cells := 0, slots := 0, locals := 0 } : Room) s m args below meth c H locs 0 0 (MQ below (tc_Qc D A (retI post)) args s 0 0 A) (F0 m 0 ls []) := by
  intro G H locs ls hW hS hl hw
  unfold w_X0_read at hw
  refine tr_aload_n (k := 0) (x := v0) C hl 0 rfl dX0_read_0 ?_
  refine tr_gfI (C0 := RX0) (T := TX0) (N := 4) (ci := 2) (ref := "Twinrow$RowList") (k := 2) (r := v0) C (zh hw_X0) rfl (by decide) (zm kw_5) rfl dX0_read_1 hW hw (fun x_1 hw => ?_)
  refine tr_iload_n (k := 1) (x := v1) C hl 1 rfl dX0_read_4 ?_
  refine lv_iadd C.1.1 C.1.2.1 dX0_read_5 ?_
  refine tr_istore_n (k := 2) (x := (x_1 + v1)) C hl [(2, .inl (x_1 + v1)), (0, .inr (.inr v0)), (1, .inl v1)] (by decide) rfl dX0_read_6 (fun ls hl => ?_)
  refine tr_iload_n (k := 2) (x := (x_1 + v1)) C hl 0 rfl dX0_read_7 ?_
  refine lv_if_lt (tgt := 29) C.1.1 C.1.2.1 dX0_read_8 (by decide) (fun hc => ?_) (fun hc => ?_)
  · have hw := hw.1 hc
    exact s_X0_read_29 C hr hll post _ _ _ _ hW hS (tl_sub hl [] rfl) hw
  · have hw := hw.2 hc
    refine tr_iload_n (k := 2) (x := (x_1 + v1)) C hl 0 rfl dX0_read_11 ?_
    refine tr_aload_n (k := 0) (x := v0) C hl 1 rfl dX0_read_12 ?_
    refine tr_gfR (C0 := RX0) (T := TX0) (N := 4) (ci := 2) (ref := "Twinrow$RowList") (k := 1) (r := v0) C (zh hw_X0) rfl (by decide) (zm kw_4) rfl dX0_read_13 hW hw (fun x_13 hw => ?_)
    refine tr_len (r := x_13) C dX0_read_16 hW hw (fun x_16 hw => ?_)
    refine lv_icmp_ge (tgt := 29) C.1.1 C.1.2.1 dX0_read_17 (by decide) (fun hc => ?_) (fun hc => ?_)
    · have hw := hw.1 hc
      exact s_X0_read_29 C hr hll post _ _ _ _ hW hS (tl_sub hl [] rfl) hw
    · have hw := hw.2 hc
      refine tr_aload_n (k := 0) (x := v0) C hl 1 rfl dX0_read_20 ?_
      refine tr_gfR (C0 := RX0) (T := TX0) (N := 4) (ci := 2) (ref := "Twinrow$RowList") (k := 1) (r := v0) C (zh hw_X0) rfl (by decide) (zm kw_4) rfl dX0_read_21 hW hw (fun x_21 hw => ?_)
      refine tr_iload_n (k := 2) (x := (x_1 + v1)) C hl 0 rfl dX0_read_24 ?_
      refine tr_alI (r := x_21) C dX0_read_25 hW hw (fun x_25 hw => ?_)
      refine lv_goto (tgt := 32) C.1.1 C.1.2.1 dX0_read_26 (by decide) ?_
      exact s_X0_read_32 C hr hll post x_25 _ _ _ _ hW hS (tl_sub hl [] rfl) hw
end Z_X0_read
set_option maxHeartbeats 4000000 in
set_option maxRecDepth 100000 in
theorem c_X0_read (l : Launch) (hll : l.stackTraces = false) (K : tK) (post : Int32 → tG → Prop) (v0 : Option Nat) (v1 : Int32) : Ct l yX0_read wz_X0_read ({ frames := 0, cells := 0, slots := 0, locals := 0 } : Room) 0 0 [va_rf v0, .int v1] K (retI post) (fun G => w_X0_read K post v0 v1 G) := by
  refine tc_of (cc := cX0_read) (maxL := 3) (ret := (some .int)) (own := RX0) (by decide) rfl rfl hll [.inr (.inr v0), .inl v1] rfl (Nat.le_of_ble_eq_true rfl) ?_
  intro p e s m args below meth c D A G ls C hr hn ht hl hW hS hw
  exact s_X0_read C hr hll post v0 v1 _ _ _ _ hW hS hl hw
/-! X0_write -/
def wz_X0_write : List Cond := Cond.code yX0_write cX0_write 5 (some .int) :: w0
section Z_X0_write
variable {p : Program} {l : Launch} {e : Env} {s : State} {m : MethodId} {args : Array Value} {below : List Frame} {meth : Method} {c : Code} {D : va_G} {A : Nat → Prop}
set_option maxHeartbeats 4000000 in
set_option maxRecDepth 100000 in
theorem s_X0_write_37 {K : tK} (C : tc_B p l s m args meth c D K A wz_X0_write RX0 cX0_write 5) (hr : meth.sig.returnType = (some .int)) (hll : l.stackTraces = false)  (post : Int32 → tG → Prop) : ∀ (v3 : Int32) (G : tG) (H : Heap) (locs : List Loc) (ls : Array Slot), tg_W D A s H G → va_S A s.heap H locs → tl ls 5 [(3, .inl v3)] → w_X0_write_37 K post v3 G → W p l e ({ frames := 1, cells := 0, slots := 0, locals := 22 } : Room) s m args below meth c H locs 0 0 (MQ below (tc_Qc D A (retI post)) args s 0 0 A) (F0 m 37 ls []) := by
  intro v3 G H locs ls hW hS hl hw
  unfold w_X0_write_37 at hw
  refine tr_iload_n (k := 3) (x := v3) C hl 0 rfl dX0_write_37 ?_
  exact tr_iret C hr dX0_write_38 (Nat.le_of_ble_eq_true rfl) (Nat.le_of_ble_eq_true rfl) hW hS hw
set_option maxHeartbeats 4000000 in
set_option maxRecDepth 100000 in
theorem s_X0_write {K : tK} (C : tc_B p l s m args meth c D K A wz_X0_write RX0 cX0_write 5) (hr : meth.sig.returnType = (some .int)) (hll : l.stackTraces = false)  (post : Int32 → tG → Prop) (v0 : Option Nat) (v1 : Int32) (v2 : Int32) : ∀ (G : tG) (H : Heap) (locs : List Loc) (ls : Array Slot), tg_W D A s H G → va_S A s.heap H locs → tl ls 5 [(0, .inr (.inr v0)), (1, .inl v1), (2, .inl v2)] → w_X0_write K post v0 v1 v2 G → W p l e ({ frames := 1, cells := 0, slots := 0, locals := 22 } : Room) s m args below meth c H locs 0 0 (MQ below (tc_Qc D A (retI post)) args s 0 0 A) (F0 m 0 ls []) := by
  intro G H locs ls hW hS hl hw
  unfold w_X0_write at hw
  refine tr_aload_n (k := 0) (x := v0) C hl 0 rfl dX0_write_0 ?_
  refine tr_iload_n (k := 1) (x := v1) C hl 1 rfl dX0_write_1 ?_
  refine tr_backI (tr_runV (r := v0) (As := [.int v1]) C hl.1 (c_X0_read l hll K _ v0 v1) (cwV 1 C.1.2.2.2.2 (gi_V (zm kw_42) (zm kw_28) (zm kw_29) (zm kw_10) (zm kw_26)) rfl rfl rfl (by decide +kernel) ⟨(Nat.le_of_ble_eq_true rfl), (Nat.le_of_ble_eq_true rfl)⟩) rfl rfl dX0_write_2 ⟨(Nat.le_of_ble_eq_true rfl), (Nat.le_of_ble_eq_true rfl)⟩ [] rfl (Nat.le_of_ble_eq_true rfl) rfl hW hS hw) hS (fun x_2 G_2 H locs hw hW hS => ?_)
  refine tr_istore_n (k := 3) (x := x_2) C hl [(3, .inl x_2), (0, .inr (.inr v0)), (1, .inl v1), (2, .inl v2)] (by decide) rfl dX0_write_5 (fun ls hl => ?_)
  refine tr_aload_n (k := 0) (x := v0) C hl 1 rfl dX0_write_6 ?_
  refine tr_gfI (C0 := RX0) (T := TX0) (N := 4) (ci := 2) (ref := "Twinrow$RowList") (k := 2) (r := v0) C (zh hw_X0) rfl (by decide) (zm kw_5) rfl dX0_write_7 hW hw (fun x_7 hw => ?_)
  refine tr_iload_n (k := 1) (x := v1) C hl 2 rfl dX0_write_10 ?_
  refine lv_iadd C.1.1 C.1.2.1 dX0_write_11 ?_
  refine tr_istore (x := (x_7 + v1)) C hl [(4, .inl (x_7 + v1)), (3, .inl x_2), (0, .inr (.inr v0)), (1, .inl v1), (2, .inl v2)] (by decide) rfl dX0_write_12 (fun ls hl => ?_)
  refine tr_iload (x := (x_7 + v1)) C hl 0 rfl dX0_write_14 ?_
  refine lv_if_lt (tgt := 37) C.1.1 C.1.2.1 dX0_write_16 (by decide) (fun hc => ?_) (fun hc => ?_)
  · have hw := hw.1 hc
    exact s_X0_write_37 C hr hll post x_2 _ _ _ _ hW hS (tl_sub hl [1] rfl) hw
  · have hw := hw.2 hc
    refine tr_iload (x := (x_7 + v1)) C hl 0 rfl dX0_write_19 ?_
    refine tr_aload_n (k := 0) (x := v0) C hl 2 rfl dX0_write_21 ?_
    refine tr_gfR (C0 := RX0) (T := TX0) (N := 4) (ci := 2) (ref := "Twinrow$RowList") (k := 1) (r := v0) C (zh hw_X0) rfl (by decide) (zm kw_4) rfl dX0_write_22 hW hw (fun x_22 hw => ?_)
    refine tr_len (r := x_22) C dX0_write_25 hW hw (fun x_25 hw => ?_)
    refine lv_icmp_ge (tgt := 37) C.1.1 C.1.2.1 dX0_write_26 (by decide) (fun hc => ?_) (fun hc => ?_)
    · have hw := hw.1 hc
      exact s_X0_write_37 C hr hll post x_2 _ _ _ _ hW hS (tl_sub hl [1] rfl) hw
    · have hw := hw.2 hc
      refine tr_aload_n (k := 0) (x := v0) C hl 2 rfl dX0_write_29 ?_
      refine tr_gfR (C0 := RX0) (T := TX0) (N := 4) (ci := 2) (ref := "Twinrow$RowList") (k := 1) (r := v0) C (zh hw_X0) rfl (by decide) (zm kw_4) rfl dX0_write_30 hW hw (fun x_30 hw => ?_)
      refine tr_iload (x := (x_7 + v1)) C hl 0 rfl dX0_write_33 ?_
      refine tr_iload_n (k := 2) (x := v2) C hl 4 rfl dX0_write_35 ?_
      refine tr_asI (r := x_30) C dX0_write_36 hW hS hw (fun G_36 H locs hw hW hS => ?_)
      exact s_X0_write_37 C hr hll post x_2 _ _ _ _ hW hS (tl_sub hl [1] rfl) hw
end Z_X0_write
set_option maxHeartbeats 4000000 in
set_option maxRecDepth 100000 in
theorem c_X0_write (l : Launch) (hll : l.stackTraces = false) (K : tK) (post : Int32 → tG → Prop) (v0 : Option Nat) (v1 : Int32) (v2 : Int32) : Ct l yX0_write wz_X0_write ({ frames := 1, cells := 0, slots := 0, locals := 22 } : Room) 0 0 [va_rf v0, .int v1, .int v2] K (retI post) (fun G => w_X0_write K post v0 v1 v2 G) := by
  refine tc_of (cc := cX0_write) (maxL := 5) (ret := (some .int)) (own := RX0) (by decide) rfl rfl hll [.inr (.inr v0), .inl v1, .inl v2] rfl (Nat.le_of_ble_eq_true rfl) ?_
  intro p e s m args below meth c D A G ls C hr hn ht hl hW hS hw
  exact s_X0_write C hr hll post v0 v1 v2 _ _ _ _ hW hS hl hw
/-! X0_exchange -/
def wz_X0_exchange : List Cond := Cond.code yX0_exchange cX0_exchange 3 none :: w0
section Z_X0_exchange
variable {p : Program} {l : Launch} {e : Env} {s : State} {m : MethodId} {args : Array Value} {below : List Frame} {meth : Method} {c : Code} {D : va_G} {A : Nat → Prop}
set_option maxHeartbeats 4000000 in
set_option maxRecDepth 100000 in
theorem s_X0_exchange {K : tK} (C : tc_B p l s m args meth c D K A wz_X0_exchange RX0 cX0_exchange 3) (hr : meth.sig.returnType = none) (hll : l.stackTraces = false)  (post : tG → Prop) (v0 : Option Nat) (v1 : Int32) (v2 : Int32) : ∀ (G : tG) (H : Heap) (locs : List Loc) (ls : Array Slot), tg_W D A s H G → va_S A s.heap H locs → tl ls 3 [(0, .inr (.inr v0)), (1, .inl v1), (2, .inl v2)] → w_X0_exchange K post v0 v1 v2 G → W p l e ({ frames := 2, cells := 0, slots := 0, locals := 46 } : Room) s m args below meth c H locs 0 0 (MQ below (tc_Qc D A (retV post)) args s 0 0 A) (F0 m 0 ls []) := by
  intro G H locs ls hW hS hl hw
  unfold w_X0_exchange at hw
  refine tr_aload_n (k := 0) (x := v0) C hl 0 rfl dX0_exchange_0 ?_
  refine tr_iload_n (k := 2) (x := v2) C hl 2 rfl dX0_exchange_1 ?_
  refine tr_aload_n (k := 0) (x := v0) C hl 0 rfl dX0_exchange_2 ?_
  refine tr_iload_n (k := 1) (x := v1) C hl 1 rfl dX0_exchange_3 ?_
  refine tr_aload_n (k := 0) (x := v0) C hl 0 rfl dX0_exchange_4 ?_
  refine tr_iload_n (k := 2) (x := v2) C hl 2 rfl dX0_exchange_5 ?_
  refine tr_backI (tr_runV (r := v0) (As := [.int v2]) C hl.1 (c_X0_read l hll K _ v0 v2) (cwV 1 C.1.2.2.2.2 (gi_V (zm kw_42) (zm kw_28) (zm kw_29) (zm kw_10) (zm kw_26)) rfl rfl rfl (by decide +kernel) ⟨(Nat.le_of_ble_eq_true rfl), (Nat.le_of_ble_eq_true rfl)⟩) rfl rfl dX0_exchange_6 ⟨(Nat.le_of_ble_eq_true rfl), (Nat.le_of_ble_eq_true rfl)⟩ [.inl v1, .inr (.inr v0), .inl v2, .inr (.inr v0)] rfl (Nat.le_of_ble_eq_true rfl) rfl hW hS hw) hS (fun x_6 G_6 H locs hw hW hS => ?_)
  refine tr_backI (tr_runV (r := v0) (As := [.int v1, .int x_6]) C hl.1 (c_X0_write l hll K _ v0 v1 x_6) (cwV 2 C.1.2.2.2.2 (gi_V (zm kw_298) (zm kw_48) (zm kw_49) (zm kw_10) (zm kw_46)) rfl rfl rfl (by decide +kernel) ⟨(Nat.le_of_ble_eq_true rfl), (Nat.le_of_ble_eq_true rfl)⟩) rfl rfl dX0_exchange_9 ⟨(Nat.le_of_ble_eq_true rfl), (Nat.le_of_ble_eq_true rfl)⟩ [.inl v2, .inr (.inr v0)] rfl (Nat.le_of_ble_eq_true rfl) rfl hW hS hw) hS (fun x_9 G_9 H locs hw hW hS => ?_)
  refine tr_backI (tr_runV (r := v0) (As := [.int v2, .int x_9]) C hl.1 (c_X0_write l hll K _ v0 v2 x_9) (cwV 2 C.1.2.2.2.2 (gi_V (zm kw_298) (zm kw_48) (zm kw_49) (zm kw_10) (zm kw_46)) rfl rfl rfl (by decide +kernel) ⟨(Nat.le_of_ble_eq_true rfl), (Nat.le_of_ble_eq_true rfl)⟩) rfl rfl dX0_exchange_12 ⟨(Nat.le_of_ble_eq_true rfl), (Nat.le_of_ble_eq_true rfl)⟩ [] rfl (Nat.le_of_ble_eq_true rfl) rfl hW hS hw) hS (fun x_12 G_12 H locs hw hW hS => ?_)
  refine lv_pop C.1.1 C.1.2.1 dX0_exchange_15 rfl ?_
  exact tr_vret C hr dX0_exchange_16 (Nat.le_of_ble_eq_true rfl) (Nat.le_of_ble_eq_true rfl) hW hS hw
end Z_X0_exchange
set_option maxHeartbeats 4000000 in
set_option maxRecDepth 100000 in
theorem c_X0_exchange (l : Launch) (hll : l.stackTraces = false) (K : tK) (post : tG → Prop) (v0 : Option Nat) (v1 : Int32) (v2 : Int32) : Ct l yX0_exchange wz_X0_exchange ({ frames := 2, cells := 0, slots := 0, locals := 46 } : Room) 0 0 [va_rf v0, .int v1, .int v2] K (retV post) (fun G => w_X0_exchange K post v0 v1 v2 G) := by
  refine tc_of (cc := cX0_exchange) (maxL := 3) (ret := none) (own := RX0) (by decide) rfl rfl hll [.inr (.inr v0), .inl v1, .inl v2] rfl (Nat.le_of_ble_eq_true rfl) ?_
  intro p e s m args below meth c D A G ls C hr hn ht hl hW hS hw
  exact s_X0_exchange C hr hll post v0 v1 v2 _ _ _ _ hW hS hl hw
/-! X0_pieceOf -/
def wz_X0_pieceOf : List Cond := Cond.code yX0_pieceOf cX0_pieceOf 3 (some (.object "Twinrow$RowList")) :: w0
section Z_X0_pieceOf
variable {p : Program} {l : Launch} {e : Env} {s : State} {m : MethodId} {args : Array Value} {below : List Frame} {meth : Method} {c : Code} {D : va_G} {A : Nat → Prop}
set_option maxHeartbeats 4000000 in
set_option maxRecDepth 100000 in
theorem s_X0_pieceOf {K : tK} (C : tc_B p l s m args meth c D K A wz_X0_pieceOf RX0 cX0_pieceOf 3) (hr : meth.sig.returnType = (some (.object "Twinrow$RowList"))) (hll : l.stackTraces = false)  (post : Option Nat → tG → Prop) (v0 : Option Nat) (v1 : Int32) (v2 : Int32) : ∀ (G : tG) (H : Heap) (locs : List Loc) (ls : Array Slot), tg_W D A s H G → va_S A s.heap H locs → tl ls 3 [(0, .inr (.inr v0)), (1, .inl v1), (2, .inl v2)] → w_X0_pieceOf K post v0 v1 v2 G → W p l e ({ frames := 2, cells := 1, slots := 4, locals := 36 } : Room) s m args below meth c H locs 0 0 (MQ below (tc_Qc D A (retR post)) args s 1 4 A) (F0 m 0 ls []) := by
  intro G H locs ls hW hS hl hw
  unfold w_X0_pieceOf at hw
  refine tr_new (C0 := RX0) (T := TX0) (N := 4) (ci := 2) (fs := [.int 0, .null, .int 0, .int 0]) C (zh hw_X0) tyX0 tyX0_ok (zm kw_633) (zm kw_9) (zm kw_10) rfl df_X0 (Nat.le_of_ble_eq_true rfl) (Nat.le_of_ble_eq_true rfl) dX0_pieceOf_0 hW hS hw (fun r_0 G_0 H hw hW hS => ?_)
  refine lv_dup C.1.1 C.1.2.1 dX0_pieceOf_3 (va_rf_cat _) ?_
  refine tr_aload_n (k := 0) (x := v0) C hl 0 rfl dX0_pieceOf_4 ?_
  refine tr_gfI (C0 := RX0) (T := TX0) (N := 4) (ci := 2) (ref := "Twinrow$RowList") (k := 0) (r := v0) C (zh hw_X0) rfl (by decide) (zm kw_3) rfl dX0_pieceOf_5 hW hw (fun x_5 hw => ?_)
  refine tr_aload_n (k := 0) (x := v0) C hl 0 rfl dX0_pieceOf_8 ?_
  refine tr_gfR (C0 := RX0) (T := TX0) (N := 4) (ci := 2) (ref := "Twinrow$RowList") (k := 1) (r := v0) C (zh hw_X0) rfl (by decide) (zm kw_4) rfl dX0_pieceOf_9 hW hw (fun x_9 hw => ?_)
  refine tr_aload_n (k := 0) (x := v0) C hl 0 rfl dX0_pieceOf_12 ?_
  refine tr_gfI (C0 := RX0) (T := TX0) (N := 4) (ci := 2) (ref := "Twinrow$RowList") (k := 2) (r := v0) C (zh hw_X0) rfl (by decide) (zm kw_5) rfl dX0_pieceOf_13 hW hw (fun x_13 hw => ?_)
  refine tr_iload_n (k := 1) (x := v1) C hl 1 rfl dX0_pieceOf_16 ?_
  refine lv_iadd C.1.1 C.1.2.1 dX0_pieceOf_17 ?_
  refine tr_iload_n (k := 2) (x := v2) C hl 2 rfl dX0_pieceOf_18 ?_
  refine tr_iload_n (k := 1) (x := v1) C hl 1 rfl dX0_pieceOf_19 ?_
  refine lv_isub C.1.1 C.1.2.1 dX0_pieceOf_20 ?_
  refine tr_backV (tr_runI (r := r_0) (As := [.int x_5, va_rf x_9, .int ((x_13 + v1)), .int ((v2 - v1))]) C hl.1 (c_X0_init l hll K _ r_0 x_5 x_9 ((x_13 + v1)) ((v2 - v1))) (cwI 4 C.1.2.2.2.2 (gi_I  (zm kw_12)) rfl rfl rfl (C.1.2.2.2.2 _ (zm kw_10)) (C.1.2.2.2.2 _ (zm kw_634)) (C.1.2.2.2.2 _ (zm kw_14)) rfl (by decide +kernel) ⟨(Nat.le_of_ble_eq_true rfl), (Nat.le_of_ble_eq_true rfl)⟩) rfl dX0_pieceOf_21 ⟨(Nat.le_of_ble_eq_true rfl), (Nat.le_of_ble_eq_true rfl)⟩ [.inr (.inr r_0)] rfl (Nat.le_of_ble_eq_true rfl) rfl hW hS hw) hS (fun G_21 H locs hw hW hS => ?_)
  exact tr_aret (x := r_0) C hr (Or.inl ⟨_, rfl⟩) dX0_pieceOf_24 (Nat.le_of_ble_eq_true rfl) (Nat.le_of_ble_eq_true rfl) hW hS hw
end Z_X0_pieceOf
set_option maxHeartbeats 4000000 in
set_option maxRecDepth 100000 in
theorem c_X0_pieceOf (l : Launch) (hll : l.stackTraces = false) (K : tK) (post : Option Nat → tG → Prop) (v0 : Option Nat) (v1 : Int32) (v2 : Int32) : Ct l yX0_pieceOf wz_X0_pieceOf ({ frames := 2, cells := 1, slots := 4, locals := 36 } : Room) 1 4 [va_rf v0, .int v1, .int v2] K (retR post) (fun G => w_X0_pieceOf K post v0 v1 v2 G) := by
  refine tc_of (cc := cX0_pieceOf) (maxL := 3) (ret := (some (.object "Twinrow$RowList"))) (own := RX0) (by decide) rfl rfl hll [.inr (.inr v0), .inl v1, .inl v2] rfl (Nat.le_of_ble_eq_true rfl) ?_
  intro p e s m args below meth c D A G ls C hr hn ht hl hW hS hw
  exact s_X0_pieceOf C hr hll post v0 v1 v2 _ _ _ _ hW hS hl hw
/-! X1_numberOf -/
def wz_X1_numberOf : List Cond := Cond.code yX1_numberOf cX1_numberOf 1 (some .int) :: w0
section Z_X1_numberOf
variable {p : Program} {l : Launch} {e : Env} {s : State} {m : MethodId} {args : Array Value} {below : List Frame} {meth : Method} {c : Code} {D : va_G} {A : Nat → Prop}
set_option maxHeartbeats 4000000 in
set_option maxRecDepth 100000 in
theorem s_X1_numberOf_12 {K : tK} (C : tc_B p l s m args meth c D K A wz_X1_numberOf RX1 cX1_numberOf 1) (hr : meth.sig.returnType = (some .int)) (hll : l.stackTraces = false)  (post : Int32 → tG → Prop) : ∀ (u0 : Int32) (G : tG) (H : Heap) (locs : List Loc) (ls : Array Slot), tg_W D A s H G → va_S A s.heap H locs → tl ls 1 [] → w_X1_numberOf_12 K post u0 G → W p l e ({ frames := 0, cells := 0, slots := 0, locals := 0 } : Room) s m args below meth c H locs 0 0 (MQ below (tc_Qc D A (retI post)) args s 0 0 A) (F0 m 12 ls [.int u0]) := by
  intro u0 G H locs ls hW hS hl hw
  unfold w_X1_numberOf_12 at hw
  exact tr_iret C hr dX1_numberOf_12 (Nat.le_of_ble_eq_true rfl) (Nat.le_of_ble_eq_true rfl) hW hS hw
set_option maxHeartbeats 4000000 in
set_option maxRecDepth 100000 in
theorem s_X1_numberOf {K : tK} (C : tc_B p l s m args meth c D K A wz_X1_numberOf RX1 cX1_numberOf 1) (hr : meth.sig.returnType = (some .int)) (hll : l.stackTraces = false)  (post : Int32 → tG → Prop) (v0 : Int32) : ∀ (G : tG) (H : Heap) (locs : List Loc) (ls : Array Slot), tg_W D A s H G → va_S A s.heap H locs → tl ls 1 [(0, .inl v0)] → w_X1_numberOf K post v0 G → W p l e ({ frames := 0, cells := 0, slots := 0, locals := 0 } : Room) s m args below meth c H locs 0 0 (MQ below (tc_Qc D A (retI post)) args s 0 0 A) (F0 m 0 ls []) := by
  intro G H locs ls hW hS hl hw
  unfold w_X1_numberOf at hw
  refine tr_iload_n (k := 0) (x := v0) C hl 0 rfl dX1_numberOf_0 ?_
  refine lv_sipush (v := (-1000 : Int32)) C.1.1 C.1.2.1 dX1_numberOf_1 (by decide) ?_
  refine lv_icmp_ne (tgt := 11) C.1.1 C.1.2.1 dX1_numberOf_4 (by decide) (fun hc => ?_) (fun hc => ?_)
  · have hw := hw.1 hc
    refine tr_iload_n (k := 0) (x := v0) C hl 0 rfl dX1_numberOf_11 ?_
    exact s_X1_numberOf_12 C hr hll post v0 _ _ _ _ hW hS (tl_sub hl [] rfl) hw
  · have hw := hw.2 hc
    refine lv_iconst (v := (0 : Int32)) C.1.1 C.1.2.1 dX1_numberOf_7 (by decide) ?_
    refine lv_goto (tgt := 12) C.1.1 C.1.2.1 dX1_numberOf_8 (by decide) ?_
    exact s_X1_numberOf_12 C hr hll post ((0 : Int32)) _ _ _ _ hW hS (tl_sub hl [] rfl) hw
end Z_X1_numberOf
set_option maxHeartbeats 4000000 in
set_option maxRecDepth 100000 in
theorem c_X1_numberOf (l : Launch) (hll : l.stackTraces = false) (K : tK) (post : Int32 → tG → Prop) (v0 : Int32) : Ct l yX1_numberOf wz_X1_numberOf ({ frames := 0, cells := 0, slots := 0, locals := 0 } : Room) 0 0 [.int v0] K (retI post) (fun G => w_X1_numberOf K post v0 G) := by
  refine tc_of (cc := cX1_numberOf) (maxL := 1) (ret := (some .int)) (own := RX1) (by decide) rfl rfl hll [.inl v0] rfl (Nat.le_of_ble_eq_true rfl) ?_
  intro p e s m args below meth c D A G ls C hr hn ht hl hW hS hw
  exact s_X1_numberOf C hr hll post v0 _ _ _ _ hW hS hl hw
/-! X1_codeOf -/
def wz_X1_codeOf : List Cond := Cond.code yX1_codeOf cX1_codeOf 5 (some .int) :: w0
section Z_X1_codeOf
variable {p : Program} {l : Launch} {e : Env} {s : State} {m : MethodId} {args : Array Value} {below : List Frame} {meth : Method} {c : Code} {D : va_G} {A : Nat → Prop}
set_option maxHeartbeats 4000000 in
set_option maxRecDepth 100000 in
theorem s_X1_codeOf_5_b {K : tK} (C : tc_B p l s m args meth c D K A wz_X1_codeOf RX1 cX1_codeOf 5) (hr : meth.sig.returnType = (some .int)) (hll : l.stackTraces = false)  (post : Int32 → tG → Prop) (k5 : Option Nat → Int32 → Int32 → Int32 → tG → Prop) (hk5 : ∀ (v0 : Option Nat) (v2 : Int32) (v3 : Int32) (v4 : Int32) (G : tG) (H : Heap) (locs : List Loc) (ls : Array Slot), tg_W D A s H G → va_S A s.heap H locs → tl ls 5 [(0, .inr (.inr v0)), (2, .inl v2), (3, .inl v3), (4, .inl v4)] → k5 v0 v2 v3 v4 G → W p l e ({ frames := 1, cells := 0, slots := 0, locals := 22 } : Room) s m args below meth c H locs 0 0 (MQ below (tc_Qc D A (retI post)) args s 0 0 A) (F0 m 5 ls [])) : ∀ (v0 : Option Nat) (v2 : Int32) (v3 : Int32) (v4 : Int32) (G : tG) (H : Heap) (locs : List Loc) (ls : Array Slot), tg_W D A s H G → va_S A s.heap H locs → tl ls 5 [(0, .inr (.inr v0)), (2, .inl v2), (3, .inl v3), (4, .inl v4)] → w_X1_codeOf_5_b K post k5 v0 v2 v3 v4 G → W p l e ({ frames := 1, cells := 0, slots := 0, locals := 22 } : Room) s m args below meth c H locs 0 0 (MQ below (tc_Qc D A (retI post)) args s 0 0 A) (F0 m 5 ls []) := by
  intro v0 v2 v3 v4 G H locs ls hW hS hl hw
  unfold w_X1_codeOf_5_b at hw
  refine tr_iload (x := v4) C hl 3 rfl dX1_codeOf_5 ?_
  refine tr_iload_n (k := 2) (x := v2) C hl 1 rfl dX1_codeOf_7 ?_
  refine lv_icmp_ge (tgt := 32) C.1.1 C.1.2.1 dX1_codeOf_8 (by decide) (fun hc => ?_) (fun hc => ?_)
  · have hw := hw.1 hc
    refine tr_iload_n (k := 3) (x := v3) C hl 2 rfl dX1_codeOf_32 ?_
    exact tr_iret C hr dX1_codeOf_33 (Nat.le_of_ble_eq_true rfl) (Nat.le_of_ble_eq_true rfl) hW hS hw
  · have hw := hw.2 hc
    refine lv_bipush (v := (31 : Int32)) C.1.1 C.1.2.1 dX1_codeOf_11 (by decide) ?_
    refine tr_iload_n (k := 3) (x := v3) C hl 2 rfl dX1_codeOf_13 ?_
    refine lv_imul C.1.1 C.1.2.1 dX1_codeOf_14 ?_
    refine tr_aload_n (k := 0) (x := v0) C hl 0 rfl dX1_codeOf_15 ?_
    refine tr_iload (x := v4) C hl 3 rfl dX1_codeOf_16 ?_
    refine tr_backI (tr_runV (r := v0) (As := [.int v4]) C hl.1 (c_X0_read l hll K _ v0 v4) (cwV 1 C.1.2.2.2.2 (gi_V (zm kw_27) (zm kw_28) (zm kw_29) (zm kw_10) (zm kw_26)) rfl rfl rfl (by decide +kernel) ⟨(Nat.le_of_ble_eq_true rfl), (Nat.le_of_ble_eq_true rfl)⟩) rfl rfl dX1_codeOf_18 ⟨(Nat.le_of_ble_eq_true rfl), (Nat.le_of_ble_eq_true rfl)⟩ [.inl (((31 : Int32) * v3))] rfl (Nat.le_of_ble_eq_true rfl) rfl hW hS hw) hS (fun x_18 G_18 H locs hw hW hS => ?_)
    refine tr_backI (tr_runS (As := [.int x_18]) C hl.1 (c_X1_numberOf l hll K _ x_18) (va_cwS 1 C.1.2.2.2.2 (gi_S (zm kw_31) (zm kw_32) (zm kw_33) (zm kw_30)) rfl rfl rfl (by decide +kernel) ⟨(Nat.le_of_ble_eq_true rfl), (Nat.le_of_ble_eq_true rfl)⟩) rfl dX1_codeOf_21 ⟨(Nat.le_of_ble_eq_true rfl), (Nat.le_of_ble_eq_true rfl)⟩ [.inl (((31 : Int32) * v3))] rfl (Nat.le_of_ble_eq_true rfl) rfl hW hS hw) hS (fun x_21 G_21 H locs hw hW hS => ?_)
    refine lv_iadd C.1.1 C.1.2.1 dX1_codeOf_24 ?_
    refine tr_istore_n (k := 3) (x := (((31 : Int32) * v3) + x_21)) C hl [(3, .inl (((31 : Int32) * v3) + x_21)), (0, .inr (.inr v0)), (2, .inl v2), (4, .inl v4)] (by decide) rfl dX1_codeOf_25 (fun ls hl => ?_)
    refine tr_iinc C hl 3 (v4 + (1 : Int32)) [(4, .inl (v4 + (1 : Int32))), (3, .inl (((31 : Int32) * v3) + x_21)), (0, .inr (.inr v0)), (2, .inl v2)] rfl rfl (by decide) rfl dX1_codeOf_26 (fun ls hl => ?_)
    refine lv_goto (tgt := 5) C.1.1 C.1.2.1 dX1_codeOf_29 (by decide) ?_
    exact hk5 v0 v2 ((((31 : Int32) * v3) + x_21)) ((v4 + (1 : Int32))) _ _ _ _ hW hS (tl_sub hl [2, 3, 1, 0] rfl) hw
theorem s_X1_codeOf_5 {K : tK} (C : tc_B p l s m args meth c D K A wz_X1_codeOf RX1 cX1_codeOf 5) (hr : meth.sig.returnType = (some .int)) (hll : l.stackTraces = false)  (post : Int32 → tG → Prop) : ∀ (n : Nat) (v0 : Option Nat) (v2 : Int32) (v3 : Int32) (v4 : Int32) (G : tG) (H : Heap) (locs : List Loc) (ls : Array Slot), tg_W D A s H G → va_S A s.heap H locs → tl ls 5 [(0, .inr (.inr v0)), (2, .inl v2), (3, .inl v3), (4, .inl v4)] → w_X1_codeOf_5 K post n v0 v2 v3 v4 G → W p l e ({ frames := 1, cells := 0, slots := 0, locals := 22 } : Room) s m args below meth c H locs 0 0 (MQ below (tc_Qc D A (retI post)) args s 0 0 A) (F0 m 5 ls []) := by
  intro n
  induction n with
  | zero =>
    intro v0 v2 v3 v4 G H locs ls hW hS hl hw
    exact hw.elim
  | succ n ih => exact s_X1_codeOf_5_b C hr hll post _ ih
set_option maxHeartbeats 4000000 in
set_option maxRecDepth 100000 in
theorem s_X1_codeOf {K : tK} (C : tc_B p l s m args meth c D K A wz_X1_codeOf RX1 cX1_codeOf 5) (hr : meth.sig.returnType = (some .int)) (hll : l.stackTraces = false)  (post : Int32 → tG → Prop) (v0 : Option Nat) (v1 : Int32) (v2 : Int32) : ∀ (G : tG) (H : Heap) (locs : List Loc) (ls : Array Slot), tg_W D A s H G → va_S A s.heap H locs → tl ls 5 [(0, .inr (.inr v0)), (1, .inl v1), (2, .inl v2)] → w_X1_codeOf K post v0 v1 v2 G → W p l e ({ frames := 1, cells := 0, slots := 0, locals := 22 } : Room) s m args below meth c H locs 0 0 (MQ below (tc_Qc D A (retI post)) args s 0 0 A) (F0 m 0 ls []) := by
  intro G H locs ls hW hS hl hw
  unfold w_X1_codeOf at hw
  refine lv_iconst (v := (1 : Int32)) C.1.1 C.1.2.1 dX1_codeOf_0 (by decide) ?_
  refine tr_istore_n (k := 3) (x := (1 : Int32)) C hl [(3, .inl (1 : Int32)), (0, .inr (.inr v0)), (1, .inl v1), (2, .inl v2)] (by decide) rfl dX1_codeOf_1 (fun ls hl => ?_)
  refine tr_iload_n (k := 1) (x := v1) C hl 2 rfl dX1_codeOf_2 ?_
  refine tr_istore (x := v1) C hl [(4, .inl v1), (3, .inl (1 : Int32)), (0, .inr (.inr v0)), (1, .inl v1), (2, .inl v2)] (by decide) rfl dX1_codeOf_3 (fun ls hl => ?_)
  obtain ⟨n5, hw⟩ := hw
  exact s_X1_codeOf_5 C hr hll post n5 v0 v2 ((1 : Int32)) v1 _ _ _ _ hW hS (tl_sub hl [2, 4, 1, 0] rfl) hw
end Z_X1_codeOf
set_option maxHeartbeats 4000000 in
set_option maxRecDepth 100000 in
theorem c_X1_codeOf (l : Launch) (hll : l.stackTraces = false) (K : tK) (post : Int32 → tG → Prop) (v0 : Option Nat) (v1 : Int32) (v2 : Int32) : Ct l yX1_codeOf wz_X1_codeOf ({ frames := 1, cells := 0, slots := 0, locals := 22 } : Room) 0 0 [va_rf v0, .int v1, .int v2] K (retI post) (fun G => w_X1_codeOf K post v0 v1 v2 G) := by
  refine tc_of (cc := cX1_codeOf) (maxL := 5) (ret := (some .int)) (own := RX1) (by decide) rfl rfl hll [.inr (.inr v0), .inl v1, .inl v2] rfl (Nat.le_of_ble_eq_true rfl) ?_
  intro p e s m args below meth c D A G ls C hr hn ht hl hW hS hw
  exact s_X1_codeOf C hr hll post v0 v1 v2 _ _ _ _ hW hS hl hw
/-! X1_firstPlace -/
def wz_X1_firstPlace : List Cond := Cond.code yX1_firstPlace cX1_firstPlace 3 (some .int) :: w0
section Z_X1_firstPlace
variable {p : Program} {l : Launch} {e : Env} {s : State} {m : MethodId} {args : Array Value} {below : List Frame} {meth : Method} {c : Code} {D : va_G} {A : Nat → Prop}
set_option maxHeartbeats 4000000 in
set_option maxRecDepth 100000 in
theorem s_X1_firstPlace_2_b {K : tK} (C : tc_B p l s m args meth c D K A wz_X1_firstPlace RX1 cX1_firstPlace 3) (hr : meth.sig.returnType = (some .int)) (hll : l.stackTraces = false)  (post : Int32 → tG → Prop) (k2 : Option Nat → Int32 → Int32 → tG → Prop) (hk2 : ∀ (v0 : Option Nat) (v1 : Int32) (v2 : Int32) (G : tG) (H : Heap) (locs : List Loc) (ls : Array Slot), tg_W D A s H G → va_S A s.heap H locs → tl ls 3 [(0, .inr (.inr v0)), (1, .inl v1), (2, .inl v2)] → k2 v0 v1 v2 G → W p l e ({ frames := 1, cells := 0, slots := 0, locals := 22 } : Room) s m args below meth c H locs 0 0 (MQ below (tc_Qc D A (retI post)) args s 0 0 A) (F0 m 2 ls [])) : ∀ (v0 : Option Nat) (v1 : Int32) (v2 : Int32) (G : tG) (H : Heap) (locs : List Loc) (ls : Array Slot), tg_W D A s H G → va_S A s.heap H locs → tl ls 3 [(0, .inr (.inr v0)), (1, .inl v1), (2, .inl v2)] → w_X1_firstPlace_2_b K post k2 v0 v1 v2 G → W p l e ({ frames := 1, cells := 0, slots := 0, locals := 22 } : Room) s m args below meth c H locs 0 0 (MQ below (tc_Qc D A (retI post)) args s 0 0 A) (F0 m 2 ls []) := by
  intro v0 v1 v2 G H locs ls hW hS hl hw
  unfold w_X1_firstPlace_2_b at hw
  refine tr_iload_n (k := 2) (x := v2) C hl 2 rfl dX1_firstPlace_2 ?_
  refine tr_aload_n (k := 0) (x := v0) C hl 0 rfl dX1_firstPlace_3 ?_
  refine tr_gfI (C0 := RX0) (T := TX0) (N := 4) (ci := 2) (ref := "Twinrow$RowList") (k := 3) (r := v0) C (zh hw_X0) rfl (by decide) (zm kw_34) rfl dX1_firstPlace_4 hW hw (fun x_4 hw => ?_)
  refine lv_icmp_ge (tgt := 27) C.1.1 C.1.2.1 dX1_firstPlace_7 (by decide) (fun hc => ?_) (fun hc => ?_)
  · have hw := hw.1 hc
    refine lv_iconst (v := (-1 : Int32)) C.1.1 C.1.2.1 dX1_firstPlace_27 (by decide) ?_
    exact tr_iret C hr dX1_firstPlace_28 (Nat.le_of_ble_eq_true rfl) (Nat.le_of_ble_eq_true rfl) hW hS hw
  · have hw := hw.2 hc
    refine tr_aload_n (k := 0) (x := v0) C hl 0 rfl dX1_firstPlace_10 ?_
    refine tr_iload_n (k := 2) (x := v2) C hl 2 rfl dX1_firstPlace_11 ?_
    refine tr_backI (tr_runV (r := v0) (As := [.int v2]) C hl.1 (c_X0_read l hll K _ v0 v2) (cwV 1 C.1.2.2.2.2 (gi_V (zm kw_27) (zm kw_28) (zm kw_29) (zm kw_10) (zm kw_26)) rfl rfl rfl (by decide +kernel) ⟨(Nat.le_of_ble_eq_true rfl), (Nat.le_of_ble_eq_true rfl)⟩) rfl rfl dX1_firstPlace_12 ⟨(Nat.le_of_ble_eq_true rfl), (Nat.le_of_ble_eq_true rfl)⟩ [] rfl (Nat.le_of_ble_eq_true rfl) rfl hW hS hw) hS (fun x_12 G_12 H locs hw hW hS => ?_)
    refine tr_iload_n (k := 1) (x := v1) C hl 1 rfl dX1_firstPlace_15 ?_
    refine lv_icmp_ne (tgt := 21) C.1.1 C.1.2.1 dX1_firstPlace_16 (by decide) (fun hc => ?_) (fun hc => ?_)
    · have hw := hw.1 hc
      refine tr_iinc C hl 2 (v2 + (1 : Int32)) [(2, .inl (v2 + (1 : Int32))), (0, .inr (.inr v0)), (1, .inl v1)] rfl rfl (by decide) rfl dX1_firstPlace_21 (fun ls hl => ?_)
      refine lv_goto (tgt := 2) C.1.1 C.1.2.1 dX1_firstPlace_24 (by decide) ?_
      exact hk2 v0 v1 ((v2 + (1 : Int32))) _ _ _ _ hW hS (tl_sub hl [1, 2, 0] rfl) hw
    · have hw := hw.2 hc
      refine tr_iload_n (k := 2) (x := v2) C hl 2 rfl dX1_firstPlace_19 ?_
      exact tr_iret C hr dX1_firstPlace_20 (Nat.le_of_ble_eq_true rfl) (Nat.le_of_ble_eq_true rfl) hW hS hw
theorem s_X1_firstPlace_2 {K : tK} (C : tc_B p l s m args meth c D K A wz_X1_firstPlace RX1 cX1_firstPlace 3) (hr : meth.sig.returnType = (some .int)) (hll : l.stackTraces = false)  (post : Int32 → tG → Prop) : ∀ (n : Nat) (v0 : Option Nat) (v1 : Int32) (v2 : Int32) (G : tG) (H : Heap) (locs : List Loc) (ls : Array Slot), tg_W D A s H G → va_S A s.heap H locs → tl ls 3 [(0, .inr (.inr v0)), (1, .inl v1), (2, .inl v2)] → w_X1_firstPlace_2 K post n v0 v1 v2 G → W p l e ({ frames := 1, cells := 0, slots := 0, locals := 22 } : Room) s m args below meth c H locs 0 0 (MQ below (tc_Qc D A (retI post)) args s 0 0 A) (F0 m 2 ls []) := by
  intro n
  induction n with
  | zero =>
    intro v0 v1 v2 G H locs ls hW hS hl hw
    exact hw.elim
  | succ n ih => exact s_X1_firstPlace_2_b C hr hll post _ ih
set_option maxHeartbeats 4000000 in
set_option maxRecDepth 100000 in
theorem s_X1_firstPlace {K : tK} (C : tc_B p l s m args meth c D K A wz_X1_firstPlace RX1 cX1_firstPlace 3) (hr : meth.sig.returnType = (some .int)) (hll : l.stackTraces = false)  (post : Int32 → tG → Prop) (v0 : Option Nat) (v1 : Int32) : ∀ (G : tG) (H : Heap) (locs : List Loc) (ls : Array Slot), tg_W D A s H G → va_S A s.heap H locs → tl ls 3 [(0, .inr (.inr v0)), (1, .inl v1)] → w_X1_firstPlace K post v0 v1 G → W p l e ({ frames := 1, cells := 0, slots := 0, locals := 22 } : Room) s m args below meth c H locs 0 0 (MQ below (tc_Qc D A (retI post)) args s 0 0 A) (F0 m 0 ls []) := by
  intro G H locs ls hW hS hl hw
  unfold w_X1_firstPlace at hw
  refine lv_iconst (v := (0 : Int32)) C.1.1 C.1.2.1 dX1_firstPlace_0 (by decide) ?_
  refine tr_istore_n (k := 2) (x := (0 : Int32)) C hl [(2, .inl (0 : Int32)), (0, .inr (.inr v0)), (1, .inl v1)] (by decide) rfl dX1_firstPlace_1 (fun ls hl => ?_)
  obtain ⟨n2, hw⟩ := hw
  exact s_X1_firstPlace_2 C hr hll post n2 v0 v1 ((0 : Int32)) _ _ _ _ hW hS (tl_sub hl [1, 2, 0] rfl) hw
end Z_X1_firstPlace
set_option maxHeartbeats 4000000 in
set_option maxRecDepth 100000 in
theorem c_X1_firstPlace (l : Launch) (hll : l.stackTraces = false) (K : tK) (post : Int32 → tG → Prop) (v0 : Option Nat) (v1 : Int32) : Ct l yX1_firstPlace wz_X1_firstPlace ({ frames := 1, cells := 0, slots := 0, locals := 22 } : Room) 0 0 [va_rf v0, .int v1] K (retI post) (fun G => w_X1_firstPlace K post v0 v1 G) := by
  refine tc_of (cc := cX1_firstPlace) (maxL := 3) (ret := (some .int)) (own := RX1) (by decide) rfl rfl hll [.inr (.inr v0), .inl v1] rfl (Nat.le_of_ble_eq_true rfl) ?_
  intro p e s m args below meth c D A G ls C hr hn ht hl hW hS hw
  exact s_X1_firstPlace C hr hll post v0 v1 _ _ _ _ hW hS hl hw
