/-! X0_init -/
def wz_X0_init : List Cond := Cond.code yX0_init cX0_init 5 none :: w0
section Z_X0_init
variable {p : Program} {l : Launch} {e : Env} {s : State} {m : MethodId} {args : Array Value} {below : List Frame} {meth : Method} {c : Code} {D : va_G} {A : Nat → Prop}
set_option maxHeartbeats 4000000 in
set_option maxRecDepth 100000 in
theorem s_X0_init {K : tK} (C : tc_B p l s m args meth c D K A wz_X0_init RX0 cX0_init 5) (hr : meth.sig.returnType = none) (hn : meth.name = "<init>") (hll : l.stackTraces = false)  (post : tG → Prop) (v0 : Option Nat) (v1 : Int32) (v2 : Option Nat) (v3 : Int32) (v4 : Int32) : ∀ (G : tG) (H : Heap) (locs : List Loc) (ls : Array Slot), tg_W D A s H G → va_S A s.heap H locs → tl ls 5 [(0, .inr (.inr v0)), (1, .inl v1), (2, .inr (.inr v2)), (3, .inl v3), (4, .inl v4)] → w_X0_init K post v0 v1 v2 v3 v4 G → W p l e ({ frames := 1, cells := 0, slots := 0, locals := 12 } : Room) s m args below meth c H locs 0 0 (MQ below (tc_Qc D A (retV post)) args s 0 0 A) (F0 m 0 ls []) := by
  intro G H locs ls hW hS hl hw
  unfold w_X0_init at hw
  refine tr_aload_n (k := 0) (x := v0) C hl 0 rfl dX0_init_0 ?_
  refine tr_objInit (r := v0) C hl.1 (zm kw_0) (zm kw_1) (zm kw_2) hw.1 dX0_init_1 (Nat.le_of_ble_eq_true rfl) (Nat.le_of_ble_eq_true rfl) ?_
  have hw := hw.2
  refine tr_aload_n (k := 0) (x := v0) C hl 0 rfl dX0_init_4 ?_
  refine tr_iload_n (k := 1) (x := v1) C hl 1 rfl dX0_init_5 ?_
  refine tr_pfF (C0 := RX0) (T := TX0) (N := 4) (ci := 2) (ref := "Twinrow$RowList") (k := 0) (ty := .int) (v := .int v1) (r := v0) C (zh hw_X0) tyX0 tyX0_ok nmX0 rfl (by decide) (zm kw_3) rfl rfl hn rfl (by decide +kernel) rfl rfl dX0_init_6 hW hS hw (fun G_6 H locs hw hW hS => ?_)
  refine tr_aload_n (k := 0) (x := v0) C hl 0 rfl dX0_init_9 ?_
  refine tr_aload_n (k := 2) (x := v2) C hl 2 rfl dX0_init_10 ?_
  refine tr_pfF (C0 := RX0) (T := TX0) (N := 4) (ci := 2) (ref := "Twinrow$RowList") (k := 1) (ty := .array .int) (v := va_rf v2) (r := v0) C (zh hw_X0) tyX0 tyX0_ok nmX0 rfl (by decide) (zm kw_4) rfl rfl hn rfl (by decide +kernel) (tv_nrA _ _) (tv_frA _ _) dX0_init_11 hW hS hw (fun G_11 H locs hw hW hS => ?_)
  refine tr_aload_n (k := 0) (x := v0) C hl 0 rfl dX0_init_14 ?_
  refine tr_iload_n (k := 3) (x := v3) C hl 3 rfl dX0_init_15 ?_
  refine tr_pfF (C0 := RX0) (T := TX0) (N := 4) (ci := 2) (ref := "Twinrow$RowList") (k := 2) (ty := .int) (v := .int v3) (r := v0) C (zh hw_X0) tyX0 tyX0_ok nmX0 rfl (by decide) (zm kw_5) rfl rfl hn rfl (by decide +kernel) rfl rfl dX0_init_16 hW hS hw (fun G_16 H locs hw hW hS => ?_)
  refine tr_aload_n (k := 0) (x := v0) C hl 0 rfl dX0_init_19 ?_
  refine tr_iload (x := v4) C hl 4 rfl dX0_init_20 ?_
  refine tr_pfF (C0 := RX0) (T := TX0) (N := 4) (ci := 2) (ref := "Twinrow$RowList") (k := 3) (ty := .int) (v := .int v4) (r := v0) C (zh hw_X0) tyX0 tyX0_ok nmX0 rfl (by decide) (zm kw_6) rfl rfl hn rfl (by decide +kernel) rfl rfl dX0_init_22 hW hS hw (fun G_22 H locs hw hW hS => ?_)
  exact tr_vret C hr dX0_init_25 (Nat.le_of_ble_eq_true rfl) (Nat.le_of_ble_eq_true rfl) hW hS hw
end Z_X0_init
set_option maxHeartbeats 4000000 in
set_option maxRecDepth 100000 in
theorem c_X0_init (l : Launch) (hll : l.stackTraces = false) (K : tK) (post : tG → Prop) (v0 : Option Nat) (v1 : Int32) (v2 : Option Nat) (v3 : Int32) (v4 : Int32) : Ct l yX0_init wz_X0_init ({ frames := 1, cells := 0, slots := 0, locals := 12 } : Room) 0 0 [va_rf v0, .int v1, va_rf v2, .int v3, .int v4] K (retV post) (fun G => w_X0_init K post v0 v1 v2 v3 v4 G) := by
  refine tc_of (cc := cX0_init) (maxL := 5) (ret := none) (own := RX0) (plainFor_of_name (by decide)) rfl rfl hll [.inr (.inr v0), .inl v1, .inr (.inr v2), .inl v3, .inl v4] rfl (Nat.le_of_ble_eq_true rfl) ?_
  intro p e s m args below meth c D A G ls C hr hn ht hl hW hS hw
  exact s_X0_init C hr hn hll post v0 v1 v2 v3 v4 _ _ _ _ hW hS hl hw

/-! X1_init -/
def wz_X1_init : List Cond := Cond.code yX1_init cX1_init 2 none :: w0
section Z_X1_init
variable {p : Program} {l : Launch} {e : Env} {s : State} {m : MethodId} {args : Array Value} {below : List Frame} {meth : Method} {c : Code} {D : va_G} {A : Nat → Prop}
set_option maxHeartbeats 4000000 in
set_option maxRecDepth 100000 in
theorem s_X1_init_73 {K : tK} (C : tc_B p l s m args meth c D K A wz_X1_init RX1 cX1_init 2) (hr : meth.sig.returnType = none) (hn : meth.name = "<init>") (hll : l.stackTraces = false)  (post : tG → Prop) : ∀ (nc ns : Nat) (G : tG) (H : Heap) (locs : List Loc) (ls : Array Slot), nc ≤ 8 ∧ ns ≤ 67 → tg_W D A s H G → va_S A s.heap H locs → tl ls 2 [] → w_X1_init_73 K post nc ns G → W p l e ({ frames := 2, cells := 8, slots := 67, locals := 36 } : Room) s m args below meth c H locs nc ns (MQ below (tc_Qc D A (retV post)) args s 8 67 A) (F0 m 73 ls []) := by
  intro nc ns G H locs ls hcn hW hS hl hw
  unfold w_X1_init_73 at hw
  exact tr_vret C hr dX1_init_73 (show nc ≤ 8 by omega) (show ns ≤ 67 by omega) hW hS hw
set_option maxHeartbeats 4000000 in
set_option maxRecDepth 100000 in
theorem s_X1_init_33_b {K : tK} (C : tc_B p l s m args meth c D K A wz_X1_init RX1 cX1_init 2) (hr : meth.sig.returnType = none) (hn : meth.name = "<init>") (hll : l.stackTraces = false)  (post : tG → Prop) (k33 : Nat → Nat → Option Nat → Int32 → tG → Prop) (hk33 : ∀ (nc ns : Nat) (v0 : Option Nat) (v1 : Int32) (G : tG) (H : Heap) (locs : List Loc) (ls : Array Slot), nc ≤ 8 ∧ ns ≤ 67 → tg_W D A s H G → va_S A s.heap H locs → tl ls 2 [(0, .inr (.inr v0)), (1, .inl v1)] → k33 nc ns v0 v1 G → W p l e ({ frames := 2, cells := 8, slots := 67, locals := 36 } : Room) s m args below meth c H locs nc ns (MQ below (tc_Qc D A (retV post)) args s 8 67 A) (F0 m 33 ls [])) : ∀ (nc ns : Nat) (v0 : Option Nat) (v1 : Int32) (G : tG) (H : Heap) (locs : List Loc) (ls : Array Slot), nc ≤ 8 ∧ ns ≤ 67 → tg_W D A s H G → va_S A s.heap H locs → tl ls 2 [(0, .inr (.inr v0)), (1, .inl v1)] → w_X1_init_33_b K post k33 nc ns v0 v1 G → W p l e ({ frames := 2, cells := 8, slots := 67, locals := 36 } : Room) s m args below meth c H locs nc ns (MQ below (tc_Qc D A (retV post)) args s 8 67 A) (F0 m 33 ls []) := by
  intro nc ns v0 v1 G H locs ls hcn hW hS hl hw
  unfold w_X1_init_33_b at hw
  refine tr_iload_n (k := 1) (x := v1) C hl 1 rfl dX1_init_33 ?_
  refine lv_iconst (v := (3 : Int32)) C.1.1 C.1.2.1 dX1_init_34 (by decide) ?_
  refine lv_icmp_ge (tgt := 73) C.1.1 C.1.2.1 dX1_init_35 (by decide) (fun hc => ?_) (fun hc => ?_)
  · have hw := hw.1 hc
    exact s_X1_init_73 C hr hn hll post nc ns _ _ _ _ (show nc ≤ 8 ∧ ns ≤ 67 by omega) hW hS (tl_sub hl [] rfl) hw
  · have hw := hw.2 hc
    refine tr_iload_n (k := 1) (x := v1) C hl 1 rfl dX1_init_38 ?_
    refine tr_aload_n (k := 0) (x := v0) C hl 0 rfl dX1_init_39 ?_
    refine tr_gfR (C0 := RX1) (T := TX1) (N := 4) (ci := 3) (ref := "Twinrow") (k := 0) (r := v0) C (zh hw_X1) rfl (by decide) (zm kw_7) rfl dX1_init_40 hW hw (fun x_40 hw => ?_)
    refine tr_len (r := x_40) C dX1_init_43 hW hw (fun x_43 hw => ?_)
    refine lv_icmp_ge (tgt := 73) C.1.1 C.1.2.1 dX1_init_44 (by decide) (fun hc => ?_) (fun hc => ?_)
    · have hw := hw.1 hc
      exact s_X1_init_73 C hr hn hll post nc ns _ _ _ _ (show nc ≤ 8 ∧ ns ≤ 67 by omega) hW hS (tl_sub hl [] rfl) hw
    · have hw := hw.2 hc
      refine tr_aload_n (k := 0) (x := v0) C hl 0 rfl dX1_init_47 ?_
      refine tr_gfR (C0 := RX1) (T := TX1) (N := 4) (ci := 3) (ref := "Twinrow") (k := 0) (r := v0) C (zh hw_X1) rfl (by decide) (zm kw_7) rfl dX1_init_48 hW hw (fun x_48 hw => ?_)
      refine tr_iload_n (k := 1) (x := v1) C hl 1 rfl dX1_init_51 ?_
      have hq1 := hw.1
      have hw := hw.2
      refine tr_new (C0 := RX0) (T := TX0) (N := 4) (ci := 2) (fs := [.int 0, .null, .int 0, .int 0]) C (zh hw_X0) tyX0 tyX0_ok (zm kw_8) (zm kw_9) (zm kw_10) rfl df_X0 hq1.1 hq1.2 dX1_init_52 hW hS hw (fun r_52 G_52 H hw hW hS => ?_)
      refine lv_dup C.1.1 C.1.2.1 dX1_init_55 (va_rf_cat _) ?_
      refine tr_iload_n (k := 1) (x := v1) C hl 1 rfl dX1_init_56 ?_
      refine lv_bipush (v := (12 : Int32)) C.1.1 C.1.2.1 dX1_init_57 (by decide) ?_
      have hq2 := hw.1
      have hw := hw.2
      refine tr_newarr (atype := .int) (ty := .int) (lim := 12) (z := (.inl (fun _ => 0))) C (zm kw_11) rfl (fun _ h => h) (fun _ _ => rfl) (Nat.le_of_ble_eq_true rfl) hq2.1 hq2.2 dX1_init_59 hW hS hw (fun r_59 G_59 H hw hW hS => ?_)
      refine lv_iconst (v := (0 : Int32)) C.1.1 C.1.2.1 dX1_init_61 (by decide) ?_
      refine lv_iconst (v := (4 : Int32)) C.1.1 C.1.2.1 dX1_init_62 (by decide) ?_
      refine tr_backV (tr_runI (r := r_52) (As := [.int v1, va_rf r_59, .int ((0 : Int32)), .int ((4 : Int32))]) C hl.1 (c_X0_init l hll K _ r_52 v1 r_59 ((0 : Int32)) ((4 : Int32))) (cwI 4 C.1.2.2.2.2 (gi_I  (zm kw_12)) rfl rfl rfl (C.1.2.2.2.2 _ (zm kw_10)) (C.1.2.2.2.2 _ (zm kw_13)) (C.1.2.2.2.2 _ (zm kw_14)) rfl (by decide +kernel) ⟨(Nat.le_of_ble_eq_true rfl), (Nat.le_of_ble_eq_true rfl)⟩) rfl dX1_init_63 ⟨(show ((nc + 1) + 1) + 0 ≤ 8 by omega), (show ((ns + 4) + 12) + 0 ≤ 67 by omega)⟩ [.inr (.inr r_52), .inl v1, .inr (.inr x_48)] rfl (Nat.le_of_ble_eq_true rfl) rfl hW hS hw) hS (fun G_63 H locs hw hW hS => ?_)
      refine tr_asR (C0 := "Twinrow$RowList") (r := x_48) (v := r_52) C dX1_init_66 hW hS rfl hw (fun G_66 H locs hw hW hS => ?_)
      refine tr_iinc C hl 1 (v1 + (1 : Int32)) [(1, .inl (v1 + (1 : Int32))), (0, .inr (.inr v0))] rfl rfl (by decide) rfl dX1_init_67 (fun ls hl => ?_)
      refine lv_goto (tgt := 33) C.1.1 C.1.2.1 dX1_init_70 (by decide) ?_
      exact hk33 (((nc + 1) + 1)) (((ns + 4) + 12)) v0 ((v1 + (1 : Int32))) _ _ _ _ (show ((nc + 1) + 1) ≤ 8 ∧ ((ns + 4) + 12) ≤ 67 by omega) hW hS (tl_sub hl [1, 0] rfl) hw
set_option maxHeartbeats 4000000 in
set_option maxRecDepth 100000 in
theorem s_X1_init_33 {K : tK} (C : tc_B p l s m args meth c D K A wz_X1_init RX1 cX1_init 2) (hr : meth.sig.returnType = none) (hn : meth.name = "<init>") (hll : l.stackTraces = false)  (post : tG → Prop) : ∀ (n : Nat) (nc ns : Nat) (v0 : Option Nat) (v1 : Int32) (G : tG) (H : Heap) (locs : List Loc) (ls : Array Slot), nc ≤ 8 ∧ ns ≤ 67 → tg_W D A s H G → va_S A s.heap H locs → tl ls 2 [(0, .inr (.inr v0)), (1, .inl v1)] → w_X1_init_33 K post n nc ns v0 v1 G → W p l e ({ frames := 2, cells := 8, slots := 67, locals := 36 } : Room) s m args below meth c H locs nc ns (MQ below (tc_Qc D A (retV post)) args s 8 67 A) (F0 m 33 ls []) := by
  intro n
  induction n with
  | zero =>
    intro nc ns v0 v1 G H locs ls hcn hW hS hl hw
    exact hw.elim
  | succ n ih => exact s_X1_init_33_b C hr hn hll post _ ih
set_option maxHeartbeats 4000000 in
set_option maxRecDepth 100000 in
theorem s_X1_init {K : tK} (C : tc_B p l s m args meth c D K A wz_X1_init RX1 cX1_init 2) (hr : meth.sig.returnType = none) (hn : meth.name = "<init>") (hll : l.stackTraces = false)  (post : tG → Prop) (v0 : Option Nat) : ∀ (G : tG) (H : Heap) (locs : List Loc) (ls : Array Slot), tg_W D A s H G → va_S A s.heap H locs → tl ls 2 [(0, .inr (.inr v0))] → w_X1_init K post v0 G → W p l e ({ frames := 2, cells := 8, slots := 67, locals := 36 } : Room) s m args below meth c H locs 0 0 (MQ below (tc_Qc D A (retV post)) args s 8 67 A) (F0 m 0 ls []) := by
  intro G H locs ls hW hS hl hw
  unfold w_X1_init at hw
  refine tr_aload_n (k := 0) (x := v0) C hl 0 rfl dX1_init_0 ?_
  refine tr_objInit (r := v0) C hl.1 (zm kw_15) (zm kw_1) (zm kw_2) hw.1 dX1_init_1 (Nat.le_of_ble_eq_true rfl) (Nat.le_of_ble_eq_true rfl) ?_
  have hw := hw.2
  refine tr_aload_n (k := 0) (x := v0) C hl 0 rfl dX1_init_4 ?_
  refine lv_bipush (v := (7 : Int32)) C.1.1 C.1.2.1 dX1_init_5 (by decide) ?_
  have hq3 := hw.1
  have hw := hw.2
  refine tr_anew (lim := 7) C (zm kw_8) (Nat.le_of_ble_eq_true rfl) hq3.1 hq3.2 dX1_init_7 hW hS hw (fun r_7 G_7 H hw hW hS => ?_)
  refine tr_pfF (C0 := RX1) (T := TX1) (N := 4) (ci := 3) (ref := "Twinrow") (k := 0) (ty := .array (.object "Twinrow$RowList")) (v := va_rf r_7) (r := v0) C (zh hw_X1) tyX1 tyX1_ok nmX1 rfl (by decide) (zm kw_7) rfl rfl hn rfl (by decide +kernel) (tv_nrA _ _) (tv_frA _ _) dX1_init_10 hW hS hw (fun G_10 H locs hw hW hS => ?_)
  refine tr_aload_n (k := 0) (x := v0) C hl 0 rfl dX1_init_13 ?_
  refine lv_bipush (v := (12 : Int32)) C.1.1 C.1.2.1 dX1_init_14 (by decide) ?_
  have hq4 := hw.1
  have hw := hw.2
  refine tr_newarr (atype := .int) (ty := .int) (lim := 12) (z := (.inl (fun _ => 0))) C (zm kw_11) rfl (fun _ h => h) (fun _ _ => rfl) (Nat.le_of_ble_eq_true rfl) hq4.1 hq4.2 dX1_init_16 hW hS hw (fun r_16 G_16 H hw hW hS => ?_)
  refine tr_pfF (C0 := RX1) (T := TX1) (N := 4) (ci := 3) (ref := "Twinrow") (k := 1) (ty := .array .int) (v := va_rf r_16) (r := v0) C (zh hw_X1) tyX1 tyX1_ok nmX1 rfl (by decide) (zm kw_16) rfl rfl hn rfl (by decide +kernel) (tv_nrA _ _) (tv_frA _ _) dX1_init_18 hW hS hw (fun G_18 H locs hw hW hS => ?_)
  refine tr_aload_n (k := 0) (x := v0) C hl 0 rfl dX1_init_21 ?_
  refine lv_iconst (v := (0 : Int32)) C.1.1 C.1.2.1 dX1_init_22 (by decide) ?_
  refine tr_pf (C0 := RX1) (T := TX1) (N := 4) (ci := 3) (ref := "Twinrow") (k := 2) (ty := .int) (v := .int ((0 : Int32))) (r := v0) C (zh hw_X1) tyX1 tyX1_ok nmX1 rfl (by decide) (zm kw_17) rfl rfl (by decide +kernel) rfl rfl dX1_init_23 hW hS hw (fun G_23 H locs hw hW hS => ?_)
  refine tr_aload_n (k := 0) (x := v0) C hl 0 rfl dX1_init_26 ?_
  refine lv_iconst (v := (0 : Int32)) C.1.1 C.1.2.1 dX1_init_27 (by decide) ?_
  refine tr_pf (C0 := RX1) (T := TX1) (N := 4) (ci := 3) (ref := "Twinrow") (k := 3) (ty := .int) (v := .int ((0 : Int32))) (r := v0) C (zh hw_X1) tyX1 tyX1_ok nmX1 rfl (by decide) (zm kw_18) rfl rfl (by decide +kernel) rfl rfl dX1_init_28 hW hS hw (fun G_28 H locs hw hW hS => ?_)
  refine lv_iconst (v := (0 : Int32)) C.1.1 C.1.2.1 dX1_init_31 (by decide) ?_
  refine tr_istore_n (k := 1) (x := (0 : Int32)) C hl [(1, .inl (0 : Int32)), (0, .inr (.inr v0))] (by decide) rfl dX1_init_32 (fun ls hl => ?_)
  obtain ⟨n33, hw⟩ := hw
  exact s_X1_init_33 C hr hn hll post n33 (((0 + 1) + 1)) (((0 + 7) + 12)) v0 ((0 : Int32)) _ _ _ _ (show ((0 + 1) + 1) ≤ 8 ∧ ((0 + 7) + 12) ≤ 67 by omega) hW hS (tl_sub hl [1, 0] rfl) hw
end Z_X1_init
set_option maxHeartbeats 4000000 in
set_option maxRecDepth 100000 in
theorem c_X1_init (l : Launch) (hll : l.stackTraces = false) (K : tK) (post : tG → Prop) (v0 : Option Nat) : Ct l yX1_init wz_X1_init ({ frames := 2, cells := 8, slots := 67, locals := 36 } : Room) 8 67 [va_rf v0] K (retV post) (fun G => w_X1_init K post v0 G) := by
  refine tc_of (cc := cX1_init) (maxL := 2) (ret := none) (own := RX1) (plainFor_of_name (by decide)) rfl rfl hll [.inr (.inr v0)] rfl (Nat.le_of_ble_eq_true rfl) ?_
  intro p e s m args below meth c D A G ls C hr hn ht hl hW hS hw
  exact s_X1_init C hr hn hll post v0 _ _ _ _ hW hS hl hw

/-! X3_init -/
def wz_X3_init : List Cond := Cond.code yX3_init cX3_init 1 none :: w0
section Z_X3_init
variable {p : Program} {l : Launch} {e : Env} {s : State} {m : MethodId} {args : Array Value} {below : List Frame} {meth : Method} {c : Code} {D : va_G} {A : Nat → Prop}
set_option maxHeartbeats 4000000 in
set_option maxRecDepth 100000 in
theorem s_X3_init {K : tK} (C : tc_B p l s m args meth c D K A wz_X3_init RX3 cX3_init 1) (hr : meth.sig.returnType = none) (hn : meth.name = "<init>") (hll : l.stackTraces = false)  (post : tG → Prop) (v0 : Option Nat) : ∀ (G : tG) (H : Heap) (locs : List Loc) (ls : Array Slot), tg_W D A s H G → va_S A s.heap H locs → tl ls 1 [(0, .inr (.inr v0))] → w_X3_init K post v0 G → W p l e ({ frames := 1, cells := 7, slots := 36, locals := 12 } : Room) s m args below meth c H locs 0 0 (MQ below (tc_Qc D A (retV post)) args s 7 36 A) (F0 m 0 ls []) := by
  intro G H locs ls hW hS hl hw
  unfold w_X3_init at hw
  refine tr_aload_n (k := 0) (x := v0) C hl 0 rfl dX3_init_0 ?_
  refine tr_objInit (r := v0) C hl.1 (zm kw_19) (zm kw_1) (zm kw_2) hw.1 dX3_init_1 (Nat.le_of_ble_eq_true rfl) (Nat.le_of_ble_eq_true rfl) ?_
  have hw := hw.2
  refine tr_aload_n (k := 0) (x := v0) C hl 0 rfl dX3_init_4 ?_
  refine lv_iconst (v := (3 : Int32)) C.1.1 C.1.2.1 dX3_init_5 (by decide) ?_
  refine tr_anewA (lim := 3) C (by decide +kernel) (zm kw_20) (Nat.le_of_ble_eq_true rfl) (Nat.le_of_ble_eq_true rfl) (Nat.le_of_ble_eq_true rfl) dX3_init_6 hW hS hw (fun r_6 G_6 H hw hW hS => ?_)
  refine lv_dup C.1.1 C.1.2.1 dX3_init_9 (va_rf_cat _) ?_
  refine lv_iconst (v := (0 : Int32)) C.1.1 C.1.2.1 dX3_init_10 (by decide) ?_
  refine lv_iconst (v := (4 : Int32)) C.1.1 C.1.2.1 dX3_init_11 (by decide) ?_
  refine tr_newarr (atype := .int) (ty := .int) (lim := 4) (z := (.inl (fun _ => 0))) C (zm kw_11) rfl (fun _ h => h) (fun _ _ => rfl) (Nat.le_of_ble_eq_true rfl) (Nat.le_of_ble_eq_true rfl) (Nat.le_of_ble_eq_true rfl) dX3_init_12 hW hS hw (fun r_12 G_12 H hw hW hS => ?_)
  have hv0 := hw.1
  have hw := hw.2
  refine tr_asA (r := r_6) (v := r_12) C dX3_init_14 hW hS hw hv0 (fun G_14 H locs hw hW hS => ?_)
  refine lv_dup C.1.1 C.1.2.1 dX3_init_15 (va_rf_cat _) ?_
  refine lv_iconst (v := (1 : Int32)) C.1.1 C.1.2.1 dX3_init_16 (by decide) ?_
  refine lv_iconst (v := (4 : Int32)) C.1.1 C.1.2.1 dX3_init_17 (by decide) ?_
  refine tr_newarr (atype := .int) (ty := .int) (lim := 4) (z := (.inl (fun _ => 0))) C (zm kw_11) rfl (fun _ h => h) (fun _ _ => rfl) (Nat.le_of_ble_eq_true rfl) (Nat.le_of_ble_eq_true rfl) (Nat.le_of_ble_eq_true rfl) dX3_init_18 hW hS hw (fun r_18 G_18 H hw hW hS => ?_)
  have hv0 := hw.1
  have hw := hw.2
  refine tr_asA (r := r_6) (v := r_18) C dX3_init_20 hW hS hw hv0 (fun G_20 H locs hw hW hS => ?_)
  refine lv_dup C.1.1 C.1.2.1 dX3_init_21 (va_rf_cat _) ?_
  refine lv_iconst (v := (2 : Int32)) C.1.1 C.1.2.1 dX3_init_22 (by decide) ?_
  refine lv_iconst (v := (4 : Int32)) C.1.1 C.1.2.1 dX3_init_23 (by decide) ?_
  refine tr_newarr (atype := .int) (ty := .int) (lim := 4) (z := (.inl (fun _ => 0))) C (zm kw_11) rfl (fun _ h => h) (fun _ _ => rfl) (Nat.le_of_ble_eq_true rfl) (Nat.le_of_ble_eq_true rfl) (Nat.le_of_ble_eq_true rfl) dX3_init_24 hW hS hw (fun r_24 G_24 H hw hW hS => ?_)
  have hv0 := hw.1
  have hw := hw.2
  refine tr_asA (r := r_6) (v := r_24) C dX3_init_26 hW hS hw hv0 (fun G_26 H locs hw hW hS => ?_)
  refine tr_pfF (C0 := RX3) (T := TX3) (N := 8) (ci := 5) (ref := "TwinrowModel") (k := 0) (ty := .array (.array .int)) (v := va_rf r_6) (r := v0) C (zh hw_X3) tyX3 tyX3_ok nmX3 rfl (by decide) (zm kw_21) rfl rfl hn rfl (by decide +kernel) (tv_nrA _ _) (tv_frA _ _) dX3_init_27 hW hS hw (fun G_27 H locs hw hW hS => ?_)
  refine tr_aload_n (k := 0) (x := v0) C hl 0 rfl dX3_init_30 ?_
  refine lv_bipush (v := (7 : Int32)) C.1.1 C.1.2.1 dX3_init_31 (by decide) ?_
  refine tr_newarr (atype := .int) (ty := .int) (lim := 7) (z := (.inl (fun _ => 0))) C (zm kw_11) rfl (fun _ h => h) (fun _ _ => rfl) (Nat.le_of_ble_eq_true rfl) (Nat.le_of_ble_eq_true rfl) (Nat.le_of_ble_eq_true rfl) dX3_init_33 hW hS hw (fun r_33 G_33 H hw hW hS => ?_)
  refine lv_dup C.1.1 C.1.2.1 dX3_init_35 (va_rf_cat _) ?_
  refine lv_iconst (v := (0 : Int32)) C.1.1 C.1.2.1 dX3_init_36 (by decide) ?_
  refine lv_iconst (v := (0 : Int32)) C.1.1 C.1.2.1 dX3_init_37 (by decide) ?_
  refine tr_asI (r := r_33) C dX3_init_38 hW hS hw (fun G_38 H locs hw hW hS => ?_)
  refine lv_dup C.1.1 C.1.2.1 dX3_init_39 (va_rf_cat _) ?_
  refine lv_iconst (v := (1 : Int32)) C.1.1 C.1.2.1 dX3_init_40 (by decide) ?_
  refine lv_iconst (v := (1 : Int32)) C.1.1 C.1.2.1 dX3_init_41 (by decide) ?_
  refine tr_asI (r := r_33) C dX3_init_42 hW hS hw (fun G_42 H locs hw hW hS => ?_)
  refine lv_dup C.1.1 C.1.2.1 dX3_init_43 (va_rf_cat _) ?_
  refine lv_iconst (v := (2 : Int32)) C.1.1 C.1.2.1 dX3_init_44 (by decide) ?_
  refine lv_iconst (v := (2 : Int32)) C.1.1 C.1.2.1 dX3_init_45 (by decide) ?_
  refine tr_asI (r := r_33) C dX3_init_46 hW hS hw (fun G_46 H locs hw hW hS => ?_)
  refine lv_dup C.1.1 C.1.2.1 dX3_init_47 (va_rf_cat _) ?_
  refine lv_iconst (v := (3 : Int32)) C.1.1 C.1.2.1 dX3_init_48 (by decide) ?_
  refine lv_iconst (v := (-1 : Int32)) C.1.1 C.1.2.1 dX3_init_49 (by decide) ?_
  refine tr_asI (r := r_33) C dX3_init_50 hW hS hw (fun G_50 H locs hw hW hS => ?_)
  refine lv_dup C.1.1 C.1.2.1 dX3_init_51 (va_rf_cat _) ?_
  refine lv_iconst (v := (4 : Int32)) C.1.1 C.1.2.1 dX3_init_52 (by decide) ?_
  refine lv_iconst (v := (-1 : Int32)) C.1.1 C.1.2.1 dX3_init_53 (by decide) ?_
  refine tr_asI (r := r_33) C dX3_init_54 hW hS hw (fun G_54 H locs hw hW hS => ?_)
  refine lv_dup C.1.1 C.1.2.1 dX3_init_55 (va_rf_cat _) ?_
  refine lv_iconst (v := (5 : Int32)) C.1.1 C.1.2.1 dX3_init_56 (by decide) ?_
  refine lv_iconst (v := (-1 : Int32)) C.1.1 C.1.2.1 dX3_init_57 (by decide) ?_
  refine tr_asI (r := r_33) C dX3_init_58 hW hS hw (fun G_58 H locs hw hW hS => ?_)
  refine lv_dup C.1.1 C.1.2.1 dX3_init_59 (va_rf_cat _) ?_
  refine lv_bipush (v := (6 : Int32)) C.1.1 C.1.2.1 dX3_init_60 (by decide) ?_
  refine lv_iconst (v := (-1 : Int32)) C.1.1 C.1.2.1 dX3_init_62 (by decide) ?_
  refine tr_asI (r := r_33) C dX3_init_63 hW hS hw (fun G_63 H locs hw hW hS => ?_)
  refine tr_pfF (C0 := RX3) (T := TX3) (N := 8) (ci := 5) (ref := "TwinrowModel") (k := 1) (ty := .array .int) (v := va_rf r_33) (r := v0) C (zh hw_X3) tyX3 tyX3_ok nmX3 rfl (by decide) (zm kw_22) rfl rfl hn rfl (by decide +kernel) (tv_nrA _ _) (tv_frA _ _) dX3_init_64 hW hS hw (fun G_64 H locs hw hW hS => ?_)
  refine tr_aload_n (k := 0) (x := v0) C hl 0 rfl dX3_init_67 ?_
  refine lv_bipush (v := (7 : Int32)) C.1.1 C.1.2.1 dX3_init_68 (by decide) ?_
  refine tr_newarr (atype := .int) (ty := .int) (lim := 7) (z := (.inl (fun _ => 0))) C (zm kw_11) rfl (fun _ h => h) (fun _ _ => rfl) (Nat.le_of_ble_eq_true rfl) (Nat.le_of_ble_eq_true rfl) (Nat.le_of_ble_eq_true rfl) dX3_init_70 hW hS hw (fun r_70 G_70 H hw hW hS => ?_)
  refine tr_pfF (C0 := RX3) (T := TX3) (N := 8) (ci := 5) (ref := "TwinrowModel") (k := 2) (ty := .array .int) (v := va_rf r_70) (r := v0) C (zh hw_X3) tyX3 tyX3_ok nmX3 rfl (by decide) (zm kw_23) rfl rfl hn rfl (by decide +kernel) (tv_nrA _ _) (tv_frA _ _) dX3_init_72 hW hS hw (fun G_72 H locs hw hW hS => ?_)
  refine tr_aload_n (k := 0) (x := v0) C hl 0 rfl dX3_init_75 ?_
  refine lv_bipush (v := (7 : Int32)) C.1.1 C.1.2.1 dX3_init_76 (by decide) ?_
  refine tr_newarr (atype := .int) (ty := .int) (lim := 7) (z := (.inl (fun _ => 0))) C (zm kw_11) rfl (fun _ h => h) (fun _ _ => rfl) (Nat.le_of_ble_eq_true rfl) (Nat.le_of_ble_eq_true rfl) (Nat.le_of_ble_eq_true rfl) dX3_init_78 hW hS hw (fun r_78 G_78 H hw hW hS => ?_)
  refine lv_dup C.1.1 C.1.2.1 dX3_init_80 (va_rf_cat _) ?_
  refine lv_iconst (v := (0 : Int32)) C.1.1 C.1.2.1 dX3_init_81 (by decide) ?_
  refine lv_iconst (v := (4 : Int32)) C.1.1 C.1.2.1 dX3_init_82 (by decide) ?_
  refine tr_asI (r := r_78) C dX3_init_83 hW hS hw (fun G_83 H locs hw hW hS => ?_)
  refine lv_dup C.1.1 C.1.2.1 dX3_init_84 (va_rf_cat _) ?_
  refine lv_iconst (v := (1 : Int32)) C.1.1 C.1.2.1 dX3_init_85 (by decide) ?_
  refine lv_iconst (v := (4 : Int32)) C.1.1 C.1.2.1 dX3_init_86 (by decide) ?_
  refine tr_asI (r := r_78) C dX3_init_87 hW hS hw (fun G_87 H locs hw hW hS => ?_)
  refine lv_dup C.1.1 C.1.2.1 dX3_init_88 (va_rf_cat _) ?_
  refine lv_iconst (v := (2 : Int32)) C.1.1 C.1.2.1 dX3_init_89 (by decide) ?_
  refine lv_iconst (v := (4 : Int32)) C.1.1 C.1.2.1 dX3_init_90 (by decide) ?_
  refine tr_asI (r := r_78) C dX3_init_91 hW hS hw (fun G_91 H locs hw hW hS => ?_)
  refine lv_dup C.1.1 C.1.2.1 dX3_init_92 (va_rf_cat _) ?_
  refine lv_iconst (v := (3 : Int32)) C.1.1 C.1.2.1 dX3_init_93 (by decide) ?_
  refine lv_iconst (v := (0 : Int32)) C.1.1 C.1.2.1 dX3_init_94 (by decide) ?_
  refine tr_asI (r := r_78) C dX3_init_95 hW hS hw (fun G_95 H locs hw hW hS => ?_)
  refine lv_dup C.1.1 C.1.2.1 dX3_init_96 (va_rf_cat _) ?_
  refine lv_iconst (v := (4 : Int32)) C.1.1 C.1.2.1 dX3_init_97 (by decide) ?_
  refine lv_iconst (v := (0 : Int32)) C.1.1 C.1.2.1 dX3_init_98 (by decide) ?_
  refine tr_asI (r := r_78) C dX3_init_99 hW hS hw (fun G_99 H locs hw hW hS => ?_)
  refine lv_dup C.1.1 C.1.2.1 dX3_init_100 (va_rf_cat _) ?_
  refine lv_iconst (v := (5 : Int32)) C.1.1 C.1.2.1 dX3_init_101 (by decide) ?_
  refine lv_iconst (v := (0 : Int32)) C.1.1 C.1.2.1 dX3_init_102 (by decide) ?_
  refine tr_asI (r := r_78) C dX3_init_103 hW hS hw (fun G_103 H locs hw hW hS => ?_)
  refine lv_dup C.1.1 C.1.2.1 dX3_init_104 (va_rf_cat _) ?_
  refine lv_bipush (v := (6 : Int32)) C.1.1 C.1.2.1 dX3_init_105 (by decide) ?_
  refine lv_iconst (v := (0 : Int32)) C.1.1 C.1.2.1 dX3_init_107 (by decide) ?_
  refine tr_asI (r := r_78) C dX3_init_108 hW hS hw (fun G_108 H locs hw hW hS => ?_)
  refine tr_pfF (C0 := RX3) (T := TX3) (N := 8) (ci := 5) (ref := "TwinrowModel") (k := 3) (ty := .array .int) (v := va_rf r_78) (r := v0) C (zh hw_X3) tyX3 tyX3_ok nmX3 rfl (by decide) (zm kw_24) rfl rfl hn rfl (by decide +kernel) (tv_nrA _ _) (tv_frA _ _) dX3_init_109 hW hS hw (fun G_109 H locs hw hW hS => ?_)
  exact tr_vret C hr dX3_init_112 (Nat.le_of_ble_eq_true rfl) (Nat.le_of_ble_eq_true rfl) hW hS hw
end Z_X3_init
set_option maxHeartbeats 4000000 in
set_option maxRecDepth 100000 in
theorem c_X3_init (l : Launch) (hll : l.stackTraces = false) (K : tK) (post : tG → Prop) (v0 : Option Nat) : Ct l yX3_init wz_X3_init ({ frames := 1, cells := 7, slots := 36, locals := 12 } : Room) 7 36 [va_rf v0] K (retV post) (fun G => w_X3_init K post v0 G) := by
  refine tc_of (cc := cX3_init) (maxL := 1) (ret := none) (own := RX3) (plainFor_of_name (by decide)) rfl rfl hll [.inr (.inr v0)] rfl (Nat.le_of_ble_eq_true rfl) ?_
  intro p e s m args below meth c D A G ls C hr hn ht hl hW hS hw
  exact s_X3_init C hr hn hll post v0 _ _ _ _ hW hS hl hw

/-! X2_init -/
def wz_X2_init : List Cond := Cond.code yX2_init cX2_init 1 none :: w0
section Z_X2_init
variable {p : Program} {l : Launch} {e : Env} {s : State} {m : MethodId} {args : Array Value} {below : List Frame} {meth : Method} {c : Code} {D : va_G} {A : Nat → Prop}
set_option maxHeartbeats 4000000 in
set_option maxRecDepth 100000 in
theorem s_X2_init {K : tK} (C : tc_B p l s m args meth c D K A wz_X2_init RX2 cX2_init 1) (hr : meth.sig.returnType = none) (hn : meth.name = "<init>") (hll : l.stackTraces = false)  (post : tG → Prop) (v0 : Option Nat) : ∀ (G : tG) (H : Heap) (locs : List Loc) (ls : Array Slot), tg_W D A s H G → va_S A s.heap H locs → tl ls 1 [(0, .inr (.inr v0))] → w_X2_init K post v0 G → W p l e ({ frames := 1, cells := 0, slots := 0, locals := 12 } : Room) s m args below meth c H locs 0 0 (MQ below (tc_Qc D A (retV post)) args s 0 0 A) (F0 m 0 ls []) := by
  intro G H locs ls hW hS hl hw
  unfold w_X2_init at hw
  refine tr_aload_n (k := 0) (x := v0) C hl 0 rfl dX2_init_0 ?_
  refine tr_objInit (r := v0) C hl.1 (zm kw_25) (zm kw_1) (zm kw_2) hw.1 dX2_init_1 (Nat.le_of_ble_eq_true rfl) (Nat.le_of_ble_eq_true rfl) ?_
  have hw := hw.2
  exact tr_vret C hr dX2_init_4 (Nat.le_of_ble_eq_true rfl) (Nat.le_of_ble_eq_true rfl) hW hS hw
end Z_X2_init
set_option maxHeartbeats 4000000 in
set_option maxRecDepth 100000 in
theorem c_X2_init (l : Launch) (hll : l.stackTraces = false) (K : tK) (post : tG → Prop) (v0 : Option Nat) : Ct l yX2_init wz_X2_init ({ frames := 1, cells := 0, slots := 0, locals := 12 } : Room) 0 0 [va_rf v0] K (retV post) (fun G => w_X2_init K post v0 G) := by
  refine tc_of (cc := cX2_init) (maxL := 1) (ret := none) (own := RX2) (plainFor_of_name (by decide)) rfl rfl hll [.inr (.inr v0)] rfl (Nat.le_of_ble_eq_true rfl) ?_
  intro p e s m args below meth c D A G ls C hr hn ht hl hW hS hw
  exact s_X2_init C hr hn hll post v0 _ _ _ _ hW hS hl hw

/-! X1_listOrNull -/
def wz_X1_listOrNull : List Cond := Cond.code yX1_listOrNull cX1_listOrNull 2 (some (.object "Twinrow$RowList")) :: w0
section Z_X1_listOrNull
variable {p : Program} {l : Launch} {e : Env} {s : State} {m : MethodId} {args : Array Value} {below : List Frame} {meth : Method} {c : Code} {D : va_G} {A : Nat → Prop}
set_option maxHeartbeats 4000000 in
set_option maxRecDepth 100000 in
theorem s_X1_listOrNull_23 {K : tK} (C : tc_B p l s m args meth c D K A wz_X1_listOrNull RX1 cX1_listOrNull 2) (hr : meth.sig.returnType = (some (.object "Twinrow$RowList"))) (hll : l.stackTraces = false)  (post : Option Nat → tG → Prop) : ∀ (u0 : Option Nat) (G : tG) (H : Heap) (locs : List Loc) (ls : Array Slot), tg_W D A s H G → va_S A s.heap H locs → tl ls 2 [] → w_X1_listOrNull_23 K post u0 G → W p l e ({ frames := 0, cells := 0, slots := 0, locals := 0 } : Room) s m args below meth c H locs 0 0 (MQ below (tc_Qc D A (retR post)) args s 0 0 A) (F0 m 23 ls [va_rf u0]) := by
  intro u0 G H locs ls hW hS hl hw
  unfold w_X1_listOrNull_23 at hw
  exact tr_aret (x := u0) C hr (Or.inl ⟨_, rfl⟩) dX1_listOrNull_23 (Nat.le_of_ble_eq_true rfl) (Nat.le_of_ble_eq_true rfl) hW hS hw
set_option maxHeartbeats 4000000 in
set_option maxRecDepth 100000 in
theorem s_X1_listOrNull_22 {K : tK} (C : tc_B p l s m args meth c D K A wz_X1_listOrNull RX1 cX1_listOrNull 2) (hr : meth.sig.returnType = (some (.object "Twinrow$RowList"))) (hll : l.stackTraces = false)  (post : Option Nat → tG → Prop) : ∀ (G : tG) (H : Heap) (locs : List Loc) (ls : Array Slot), tg_W D A s H G → va_S A s.heap H locs → tl ls 2 [] → w_X1_listOrNull_22 K post G → W p l e ({ frames := 0, cells := 0, slots := 0, locals := 0 } : Room) s m args below meth c H locs 0 0 (MQ below (tc_Qc D A (retR post)) args s 0 0 A) (F0 m 22 ls []) := by
  intro G H locs ls hW hS hl hw
  unfold w_X1_listOrNull_22 at hw
  refine tr_null C dX1_listOrNull_22 ?_
  exact s_X1_listOrNull_23 C hr hll post none _ _ _ _ hW hS (tl_sub hl [] rfl) hw
set_option maxHeartbeats 4000000 in
set_option maxRecDepth 100000 in
theorem s_X1_listOrNull {K : tK} (C : tc_B p l s m args meth c D K A wz_X1_listOrNull RX1 cX1_listOrNull 2) (hr : meth.sig.returnType = (some (.object "Twinrow$RowList"))) (hll : l.stackTraces = false)  (post : Option Nat → tG → Prop) (v0 : Option Nat) (v1 : Int32) : ∀ (G : tG) (H : Heap) (locs : List Loc) (ls : Array Slot), tg_W D A s H G → va_S A s.heap H locs → tl ls 2 [(0, .inr (.inr v0)), (1, .inl v1)] → w_X1_listOrNull K post v0 v1 G → W p l e ({ frames := 0, cells := 0, slots := 0, locals := 0 } : Room) s m args below meth c H locs 0 0 (MQ below (tc_Qc D A (retR post)) args s 0 0 A) (F0 m 0 ls []) := by
  intro G H locs ls hW hS hl hw
  unfold w_X1_listOrNull at hw
  refine tr_iload_n (k := 1) (x := v1) C hl 1 rfl dX1_listOrNull_0 ?_
  refine lv_if_lt (tgt := 22) C.1.1 C.1.2.1 dX1_listOrNull_1 (by decide) (fun hc => ?_) (fun hc => ?_)
  · have hw := hw.1 hc
    exact s_X1_listOrNull_22 C hr hll post _ _ _ _ hW hS (tl_sub hl [] rfl) hw
  · have hw := hw.2 hc
    refine tr_iload_n (k := 1) (x := v1) C hl 1 rfl dX1_listOrNull_4 ?_
    refine tr_aload_n (k := 0) (x := v0) C hl 0 rfl dX1_listOrNull_5 ?_
    refine tr_gfR (C0 := RX1) (T := TX1) (N := 4) (ci := 3) (ref := "Twinrow") (k := 0) (r := v0) C (zh hw_X1) rfl (by decide) (zm kw_7) rfl dX1_listOrNull_6 hW hw (fun x_6 hw => ?_)
    refine tr_len (r := x_6) C dX1_listOrNull_9 hW hw (fun x_9 hw => ?_)
    refine lv_icmp_ge (tgt := 22) C.1.1 C.1.2.1 dX1_listOrNull_10 (by decide) (fun hc => ?_) (fun hc => ?_)
    · have hw := hw.1 hc
      exact s_X1_listOrNull_22 C hr hll post _ _ _ _ hW hS (tl_sub hl [] rfl) hw
    · have hw := hw.2 hc
      refine tr_aload_n (k := 0) (x := v0) C hl 0 rfl dX1_listOrNull_13 ?_
      refine tr_gfR (C0 := RX1) (T := TX1) (N := 4) (ci := 3) (ref := "Twinrow") (k := 0) (r := v0) C (zh hw_X1) rfl (by decide) (zm kw_7) rfl dX1_listOrNull_14 hW hw (fun x_14 hw => ?_)
      refine tr_iload_n (k := 1) (x := v1) C hl 1 rfl dX1_listOrNull_17 ?_
      refine tr_alR (ty := .object "Twinrow$RowList") C dX1_listOrNull_18 hW rfl hw (fun x_18 hw => ?_)
      refine lv_goto (tgt := 23) C.1.1 C.1.2.1 dX1_listOrNull_19 (by decide) ?_
      exact s_X1_listOrNull_23 C hr hll post x_18 _ _ _ _ hW hS (tl_sub hl [] rfl) hw
end Z_X1_listOrNull
set_option maxHeartbeats 4000000 in
set_option maxRecDepth 100000 in
theorem c_X1_listOrNull (l : Launch) (hll : l.stackTraces = false) (K : tK) (post : Option Nat → tG → Prop) (v0 : Option Nat) (v1 : Int32) : Ct l yX1_listOrNull wz_X1_listOrNull ({ frames := 0, cells := 0, slots := 0, locals := 0 } : Room) 0 0 [va_rf v0, .int v1] K (retR post) (fun G => w_X1_listOrNull K post v0 v1 G) := by
  refine tc_of (cc := cX1_listOrNull) (maxL := 2) (ret := (some (.object "Twinrow$RowList"))) (own := RX1) (plainFor_of_name (by decide)) rfl rfl hll [.inr (.inr v0), .inl v1] rfl (Nat.le_of_ble_eq_true rfl) ?_
  intro p e s m args below meth c D A G ls C hr hn ht hl hW hS hw
  exact s_X1_listOrNull C hr hll post v0 v1 _ _ _ _ hW hS hl hw

/-! X0_read -/
def wz_X0_read : List Cond := Cond.code yX0_read cX0_read 3 (some .int) :: w0
section Z_X0_read
variable {p : Program} {l : Launch} {e : Env} {s : State} {m : MethodId} {args : Array Value} {below : List Frame} {meth : Method} {c : Code} {D : va_G} {A : Nat → Prop}
set_option maxHeartbeats 4000000 in
set_option maxRecDepth 100000 in
theorem s_X0_read_32 {K : tK} (C : tc_B p l s m args meth c D K A wz_X0_read RX0 cX0_read 3) (hr : meth.sig.returnType = (some .int)) (hll : l.stackTraces = false)  (post : Int32 → tG → Prop) : ∀ (u0 : Int32) (G : tG) (H : Heap) (locs : List Loc) (ls : Array Slot), tg_W D A s H G → va_S A s.heap H locs → tl ls 3 [] → w_X0_read_32 K post u0 G → W p l e ({ frames := 0, cells := 0, slots := 0, locals := 0 } : Room) s m args below meth c H locs 0 0 (MQ below (tc_Qc D A (retI post)) args s 0 0 A) (F0 m 32 ls [.int u0]) := by
  intro u0 G H locs ls hW hS hl hw
  unfold w_X0_read_32 at hw
  exact tr_iret C hr dX0_read_32 (Nat.le_of_ble_eq_true rfl) (Nat.le_of_ble_eq_true rfl) hW hS hw
set_option maxHeartbeats 4000000 in
set_option maxRecDepth 100000 in
theorem s_X0_read_29 {K : tK} (C : tc_B p l s m args meth c D K A wz_X0_read RX0 cX0_read 3) (hr : meth.sig.returnType = (some .int)) (hll : l.stackTraces = false)  (post : Int32 → tG → Prop) : ∀ (G : tG) (H : Heap) (locs : List Loc) (ls : Array Slot), tg_W D A s H G → va_S A s.heap H locs → tl ls 3 [] → w_X0_read_29 K post G → W p l e ({ frames := 0, cells := 0, slots := 0, locals := 0 } : Room) s m args below meth c H locs 0 0 (MQ below (tc_Qc D A (retI post)) args s 0 0 A) (F0 m 29 ls []) := by
  intro G H locs ls hW hS hl hw
  unfold w_X0_read_29 at hw
  refine lv_sipush (v := (-1000 : Int32)) C.1.1 C.1.2.1 dX0_read_29 (by decide) ?_
  exact s_X0_read_32 C hr hll post ((-1000 : Int32)) _ _ _ _ hW hS (tl_sub hl [] rfl) hw
set_option maxHeartbeats 4000000 in
set_option maxRecDepth 100000 in
theorem s_X0_read {K : tK} (C : tc_B p l s m args meth c D K A wz_X0_read RX0 cX0_read 3) (hr : meth.sig.returnType = (some .int)) (hll : l.stackTraces = false)  (post : Int32 → tG → Prop) (v0 : Option Nat) (v1 : Int32) : ∀ (G : tG) (H : Heap) (locs : List Loc) (ls : Array Slot), tg_W D A s H G → va_S A s.heap H locs → tl ls 3 [(0, .inr (.inr v0)), (1, .inl v1)] → w_X0_read K post v0 v1 G → W p l e ({ frames := 0, cells := 0, slots := 0, locals := 0 } : Room) s m args below meth c H locs 0 0 (MQ below (tc_Qc D A (retI post)) args s 0 0 A) (F0 m 0 ls []) := by
  intro G H locs ls hW hS hl hw
  unfold w_X0_read at hw
  refine tr_aload_n (k := 0) (x := v0) C hl 0 rfl dX0_read_0 ?_
  refine tr_gfI (C0 := RX0) (T := TX0) (N := 4) (ci := 2) (ref := "Twinrow$RowList") (k := 2) (r := v0) C (zh hw_X0) rfl (by decide) (zm kw_5) rfl dX0_read_1 hW hw (fun x_1 hw => ?_)
  refine tr_iload_n (k := 1) (x := v1) C hl 1 rfl dX0_read_4 ?_
  refine lv_iadd C.1.1 C.1.2.1 dX0_read_5 ?_
  refine tr_istore_n (k := 2) (x := (x_1 + v1)) C hl [(2, .inl (x_1 + v1)), (0, .inr (.inr v0)), (1, .inl v1)] (by decide) rfl dX0_read_6 (fun ls hl => ?_)
  refine tr_iload_n (k := 2) (x := (x_1 + v1)) C hl 0 rfl dX0_read_7 ?_
  refine lv_if_lt (tgt := 29) C.1.1 C.1.2.1 dX0_read_8 (by decide) (fun hc => ?_) (fun hc => ?_)
  · have hw := hw.1 hc
    exact s_X0_read_29 C hr hll post _ _ _ _ hW hS (tl_sub hl [] rfl) hw
  · have hw := hw.2 hc
    refine tr_iload_n (k := 2) (x := (x_1 + v1)) C hl 0 rfl dX0_read_11 ?_
    refine tr_aload_n (k := 0) (x := v0) C hl 1 rfl dX0_read_12 ?_
    refine tr_gfR (C0 := RX0) (T := TX0) (N := 4) (ci := 2) (ref := "Twinrow$RowList") (k := 1) (r := v0) C (zh hw_X0) rfl (by decide) (zm kw_4) rfl dX0_read_13 hW hw (fun x_13 hw => ?_)
    refine tr_len (r := x_13) C dX0_read_16 hW hw (fun x_16 hw => ?_)
    refine lv_icmp_ge (tgt := 29) C.1.1 C.1.2.1 dX0_read_17 (by decide) (fun hc => ?_) (fun hc => ?_)
    · have hw := hw.1 hc
      exact s_X0_read_29 C hr hll post _ _ _ _ hW hS (tl_sub hl [] rfl) hw
    · have hw := hw.2 hc
      refine tr_aload_n (k := 0) (x := v0) C hl 1 rfl dX0_read_20 ?_
      refine tr_gfR (C0 := RX0) (T := TX0) (N := 4) (ci := 2) (ref := "Twinrow$RowList") (k := 1) (r := v0) C (zh hw_X0) rfl (by decide) (zm kw_4) rfl dX0_read_21 hW hw (fun x_21 hw => ?_)
      refine tr_iload_n (k := 2) (x := (x_1 + v1)) C hl 0 rfl dX0_read_24 ?_
      refine tr_alI (r := x_21) C dX0_read_25 hW hw (fun x_25 hw => ?_)
      refine lv_goto (tgt := 32) C.1.1 C.1.2.1 dX0_read_26 (by decide) ?_
      exact s_X0_read_32 C hr hll post x_25 _ _ _ _ hW hS (tl_sub hl [] rfl) hw
end Z_X0_read
set_option maxHeartbeats 4000000 in
set_option maxRecDepth 100000 in
theorem c_X0_read (l : Launch) (hll : l.stackTraces = false) (K : tK) (post : Int32 → tG → Prop) (v0 : Option Nat) (v1 : Int32) : Ct l yX0_read wz_X0_read ({ frames := 0, cells := 0, slots := 0, locals := 0 } : Room) 0 0 [va_rf v0, .int v1] K (retI post) (fun G => w_X0_read K post v0 v1 G) := by
  refine tc_of (cc := cX0_read) (maxL := 3) (ret := (some .int)) (own := RX0) (plainFor_of_name (by decide)) rfl rfl hll [.inr (.inr v0), .inl v1] rfl (Nat.le_of_ble_eq_true rfl) ?_
  intro p e s m args below meth c D A G ls C hr hn ht hl hW hS hw
  exact s_X0_read C hr hll post v0 v1 _ _ _ _ hW hS hl hw

/-! X1_numberOf -/
def wz_X1_numberOf : List Cond := Cond.code yX1_numberOf cX1_numberOf 1 (some .int) :: w0
section Z_X1_numberOf
variable {p : Program} {l : Launch} {e : Env} {s : State} {m : MethodId} {args : Array Value} {below : List Frame} {meth : Method} {c : Code} {D : va_G} {A : Nat → Prop}
set_option maxHeartbeats 4000000 in
set_option maxRecDepth 100000 in
theorem s_X1_numberOf_12 {K : tK} (C : tc_B p l s m args meth c D K A wz_X1_numberOf RX1 cX1_numberOf 1) (hr : meth.sig.returnType = (some .int)) (hll : l.stackTraces = false)  (post : Int32 → tG → Prop) : ∀ (u0 : Int32) (G : tG) (H : Heap) (locs : List Loc) (ls : Array Slot), tg_W D A s H G → va_S A s.heap H locs → tl ls 1 [] → w_X1_numberOf_12 K post u0 G → W p l e ({ frames := 0, cells := 0, slots := 0, locals := 0 } : Room) s m args below meth c H locs 0 0 (MQ below (tc_Qc D A (retI post)) args s 0 0 A) (F0 m 12 ls [.int u0]) := by
  intro u0 G H locs ls hW hS hl hw
  unfold w_X1_numberOf_12 at hw
  exact tr_iret C hr dX1_numberOf_12 (Nat.le_of_ble_eq_true rfl) (Nat.le_of_ble_eq_true rfl) hW hS hw
set_option maxHeartbeats 4000000 in
set_option maxRecDepth 100000 in
theorem s_X1_numberOf {K : tK} (C : tc_B p l s m args meth c D K A wz_X1_numberOf RX1 cX1_numberOf 1) (hr : meth.sig.returnType = (some .int)) (hll : l.stackTraces = false)  (post : Int32 → tG → Prop) (v0 : Int32) : ∀ (G : tG) (H : Heap) (locs : List Loc) (ls : Array Slot), tg_W D A s H G → va_S A s.heap H locs → tl ls 1 [(0, .inl v0)] → w_X1_numberOf K post v0 G → W p l e ({ frames := 0, cells := 0, slots := 0, locals := 0 } : Room) s m args below meth c H locs 0 0 (MQ below (tc_Qc D A (retI post)) args s 0 0 A) (F0 m 0 ls []) := by
  intro G H locs ls hW hS hl hw
  unfold w_X1_numberOf at hw
  refine tr_iload_n (k := 0) (x := v0) C hl 0 rfl dX1_numberOf_0 ?_
  refine lv_sipush (v := (-1000 : Int32)) C.1.1 C.1.2.1 dX1_numberOf_1 (by decide) ?_
  refine lv_icmp_ne (tgt := 11) C.1.1 C.1.2.1 dX1_numberOf_4 (by decide) (fun hc => ?_) (fun hc => ?_)
  · have hw := hw.1 hc
    refine tr_iload_n (k := 0) (x := v0) C hl 0 rfl dX1_numberOf_11 ?_
    exact s_X1_numberOf_12 C hr hll post v0 _ _ _ _ hW hS (tl_sub hl [] rfl) hw
  · have hw := hw.2 hc
    refine lv_iconst (v := (0 : Int32)) C.1.1 C.1.2.1 dX1_numberOf_7 (by decide) ?_
    refine lv_goto (tgt := 12) C.1.1 C.1.2.1 dX1_numberOf_8 (by decide) ?_
    exact s_X1_numberOf_12 C hr hll post ((0 : Int32)) _ _ _ _ hW hS (tl_sub hl [] rfl) hw
end Z_X1_numberOf
set_option maxHeartbeats 4000000 in
set_option maxRecDepth 100000 in
theorem c_X1_numberOf (l : Launch) (hll : l.stackTraces = false) (K : tK) (post : Int32 → tG → Prop) (v0 : Int32) : Ct l yX1_numberOf wz_X1_numberOf ({ frames := 0, cells := 0, slots := 0, locals := 0 } : Room) 0 0 [.int v0] K (retI post) (fun G => w_X1_numberOf K post v0 G) := by
  refine tc_of (cc := cX1_numberOf) (maxL := 1) (ret := (some .int)) (own := RX1) (plainFor_of_name (by decide)) rfl rfl hll [.inl v0] rfl (Nat.le_of_ble_eq_true rfl) ?_
  intro p e s m args below meth c D A G ls C hr hn ht hl hW hS hw
  exact s_X1_numberOf C hr hll post v0 _ _ _ _ hW hS hl hw

/-! X1_codeOf -/
def wz_X1_codeOf : List Cond := Cond.code yX1_codeOf cX1_codeOf 5 (some .int) :: w0
section Z_X1_codeOf
variable {p : Program} {l : Launch} {e : Env} {s : State} {m : MethodId} {args : Array Value} {below : List Frame} {meth : Method} {c : Code} {D : va_G} {A : Nat → Prop}
set_option maxHeartbeats 4000000 in
set_option maxRecDepth 100000 in
theorem s_X1_codeOf_5_b {K : tK} (C : tc_B p l s m args meth c D K A wz_X1_codeOf RX1 cX1_codeOf 5) (hr : meth.sig.returnType = (some .int)) (hll : l.stackTraces = false)  (post : Int32 → tG → Prop) (k5 : Option Nat → Int32 → Int32 → Int32 → tG → Prop) (hk5 : ∀ (v0 : Option Nat) (v2 : Int32) (v3 : Int32) (v4 : Int32) (G : tG) (H : Heap) (locs : List Loc) (ls : Array Slot), tg_W D A s H G → va_S A s.heap H locs → tl ls 5 [(0, .inr (.inr v0)), (2, .inl v2), (3, .inl v3), (4, .inl v4)] → k5 v0 v2 v3 v4 G → W p l e ({ frames := 1, cells := 0, slots := 0, locals := 22 } : Room) s m args below meth c H locs 0 0 (MQ below (tc_Qc D A (retI post)) args s 0 0 A) (F0 m 5 ls [])) : ∀ (v0 : Option Nat) (v2 : Int32) (v3 : Int32) (v4 : Int32) (G : tG) (H : Heap) (locs : List Loc) (ls : Array Slot), tg_W D A s H G → va_S A s.heap H locs → tl ls 5 [(0, .inr (.inr v0)), (2, .inl v2), (3, .inl v3), (4, .inl v4)] → w_X1_codeOf_5_b K post k5 v0 v2 v3 v4 G → W p l e ({ frames := 1, cells := 0, slots := 0, locals := 22 } : Room) s m args below meth c H locs 0 0 (MQ below (tc_Qc D A (retI post)) args s 0 0 A) (F0 m 5 ls []) := by
  intro v0 v2 v3 v4 G H locs ls hW hS hl hw
  unfold w_X1_codeOf_5_b at hw
  refine tr_iload (x := v4) C hl 3 rfl dX1_codeOf_5 ?_
  refine tr_iload_n (k := 2) (x := v2) C hl 1 rfl dX1_codeOf_7 ?_
  refine lv_icmp_ge (tgt := 32) C.1.1 C.1.2.1 dX1_codeOf_8 (by decide) (fun hc => ?_) (fun hc => ?_)
  · have hw := hw.1 hc
    refine tr_iload_n (k := 3) (x := v3) C hl 2 rfl dX1_codeOf_32 ?_
    exact tr_iret C hr dX1_codeOf_33 (Nat.le_of_ble_eq_true rfl) (Nat.le_of_ble_eq_true rfl) hW hS hw
  · have hw := hw.2 hc
    refine lv_bipush (v := (31 : Int32)) C.1.1 C.1.2.1 dX1_codeOf_11 (by decide) ?_
    refine tr_iload_n (k := 3) (x := v3) C hl 2 rfl dX1_codeOf_13 ?_
    refine lv_imul C.1.1 C.1.2.1 dX1_codeOf_14 ?_
    refine tr_aload_n (k := 0) (x := v0) C hl 0 rfl dX1_codeOf_15 ?_
    refine tr_iload (x := v4) C hl 3 rfl dX1_codeOf_16 ?_
    refine tr_backI (tr_runV (r := v0) (As := [.int v4]) C hl.1 (c_X0_read l hll K _ v0 v4) (cwV 1 C.1.2.2.2.2 (gi_V (zm kw_27) (zm kw_28) (zm kw_29) (zm kw_10) (zm kw_26)) rfl rfl rfl (by decide +kernel) ⟨(Nat.le_of_ble_eq_true rfl), (Nat.le_of_ble_eq_true rfl)⟩) rfl rfl dX1_codeOf_18 ⟨(Nat.le_of_ble_eq_true rfl), (Nat.le_of_ble_eq_true rfl)⟩ [.inl (((31 : Int32) * v3))] rfl (Nat.le_of_ble_eq_true rfl) rfl hW hS hw) hS (fun x_18 G_18 H locs hw hW hS => ?_)
    refine tr_backI (tr_runS (As := [.int x_18]) C hl.1 (c_X1_numberOf l hll K _ x_18) (va_cwS 1 C.1.2.2.2.2 (gi_S (zm kw_31) (zm kw_32) (zm kw_33) (zm kw_30)) rfl rfl rfl (by decide +kernel) ⟨(Nat.le_of_ble_eq_true rfl), (Nat.le_of_ble_eq_true rfl)⟩) rfl dX1_codeOf_21 ⟨(Nat.le_of_ble_eq_true rfl), (Nat.le_of_ble_eq_true rfl)⟩ [.inl (((31 : Int32) * v3))] rfl (Nat.le_of_ble_eq_true rfl) rfl hW hS hw) hS (fun x_21 G_21 H locs hw hW hS => ?_)
    refine lv_iadd C.1.1 C.1.2.1 dX1_codeOf_24 ?_
    refine tr_istore_n (k := 3) (x := (((31 : Int32) * v3) + x_21)) C hl [(3, .inl (((31 : Int32) * v3) + x_21)), (0, .inr (.inr v0)), (2, .inl v2), (4, .inl v4)] (by decide) rfl dX1_codeOf_25 (fun ls hl => ?_)
    refine tr_iinc C hl 3 (v4 + (1 : Int32)) [(4, .inl (v4 + (1 : Int32))), (3, .inl (((31 : Int32) * v3) + x_21)), (0, .inr (.inr v0)), (2, .inl v2)] rfl rfl (by decide) rfl dX1_codeOf_26 (fun ls hl => ?_)
    refine lv_goto (tgt := 5) C.1.1 C.1.2.1 dX1_codeOf_29 (by decide) ?_
    exact hk5 v0 v2 ((((31 : Int32) * v3) + x_21)) ((v4 + (1 : Int32))) _ _ _ _ hW hS (tl_sub hl [2, 3, 1, 0] rfl) hw
set_option maxHeartbeats 4000000 in
set_option maxRecDepth 100000 in
theorem s_X1_codeOf_5 {K : tK} (C : tc_B p l s m args meth c D K A wz_X1_codeOf RX1 cX1_codeOf 5) (hr : meth.sig.returnType = (some .int)) (hll : l.stackTraces = false)  (post : Int32 → tG → Prop) : ∀ (n : Nat) (v0 : Option Nat) (v2 : Int32) (v3 : Int32) (v4 : Int32) (G : tG) (H : Heap) (locs : List Loc) (ls : Array Slot), tg_W D A s H G → va_S A s.heap H locs → tl ls 5 [(0, .inr (.inr v0)), (2, .inl v2), (3, .inl v3), (4, .inl v4)] → w_X1_codeOf_5 K post n v0 v2 v3 v4 G → W p l e ({ frames := 1, cells := 0, slots := 0, locals := 22 } : Room) s m args below meth c H locs 0 0 (MQ below (tc_Qc D A (retI post)) args s 0 0 A) (F0 m 5 ls []) := by
  intro n
  induction n with
  | zero =>
    intro v0 v2 v3 v4 G H locs ls hW hS hl hw
    exact hw.elim
  | succ n ih => exact s_X1_codeOf_5_b C hr hll post _ ih
set_option maxHeartbeats 4000000 in
set_option maxRecDepth 100000 in
theorem s_X1_codeOf {K : tK} (C : tc_B p l s m args meth c D K A wz_X1_codeOf RX1 cX1_codeOf 5) (hr : meth.sig.returnType = (some .int)) (hll : l.stackTraces = false)  (post : Int32 → tG → Prop) (v0 : Option Nat) (v1 : Int32) (v2 : Int32) : ∀ (G : tG) (H : Heap) (locs : List Loc) (ls : Array Slot), tg_W D A s H G → va_S A s.heap H locs → tl ls 5 [(0, .inr (.inr v0)), (1, .inl v1), (2, .inl v2)] → w_X1_codeOf K post v0 v1 v2 G → W p l e ({ frames := 1, cells := 0, slots := 0, locals := 22 } : Room) s m args below meth c H locs 0 0 (MQ below (tc_Qc D A (retI post)) args s 0 0 A) (F0 m 0 ls []) := by
  intro G H locs ls hW hS hl hw
  unfold w_X1_codeOf at hw
  refine lv_iconst (v := (1 : Int32)) C.1.1 C.1.2.1 dX1_codeOf_0 (by decide) ?_
  refine tr_istore_n (k := 3) (x := (1 : Int32)) C hl [(3, .inl (1 : Int32)), (0, .inr (.inr v0)), (1, .inl v1), (2, .inl v2)] (by decide) rfl dX1_codeOf_1 (fun ls hl => ?_)
  refine tr_iload_n (k := 1) (x := v1) C hl 2 rfl dX1_codeOf_2 ?_
  refine tr_istore (x := v1) C hl [(4, .inl v1), (3, .inl (1 : Int32)), (0, .inr (.inr v0)), (1, .inl v1), (2, .inl v2)] (by decide) rfl dX1_codeOf_3 (fun ls hl => ?_)
  obtain ⟨n5, hw⟩ := hw
  exact s_X1_codeOf_5 C hr hll post n5 v0 v2 ((1 : Int32)) v1 _ _ _ _ hW hS (tl_sub hl [2, 4, 1, 0] rfl) hw
end Z_X1_codeOf
set_option maxHeartbeats 4000000 in
set_option maxRecDepth 100000 in
theorem c_X1_codeOf (l : Launch) (hll : l.stackTraces = false) (K : tK) (post : Int32 → tG → Prop) (v0 : Option Nat) (v1 : Int32) (v2 : Int32) : Ct l yX1_codeOf wz_X1_codeOf ({ frames := 1, cells := 0, slots := 0, locals := 22 } : Room) 0 0 [va_rf v0, .int v1, .int v2] K (retI post) (fun G => w_X1_codeOf K post v0 v1 v2 G) := by
  refine tc_of (cc := cX1_codeOf) (maxL := 5) (ret := (some .int)) (own := RX1) (plainFor_of_name (by decide)) rfl rfl hll [.inr (.inr v0), .inl v1, .inl v2] rfl (Nat.le_of_ble_eq_true rfl) ?_
  intro p e s m args below meth c D A G ls C hr hn ht hl hW hS hw
  exact s_X1_codeOf C hr hll post v0 v1 v2 _ _ _ _ hW hS hl hw

/-! X1_isInRow -/
def wz_X1_isInRow : List Cond := Cond.code yX1_isInRow cX1_isInRow 3 (some .boolean) :: w0
section Z_X1_isInRow
variable {p : Program} {l : Launch} {e : Env} {s : State} {m : MethodId} {args : Array Value} {below : List Frame} {meth : Method} {c : Code} {D : va_G} {A : Nat → Prop}
set_option maxHeartbeats 4000000 in
set_option maxRecDepth 100000 in
theorem s_X1_isInRow_88 {K : tK} (C : tc_B p l s m args meth c D K A wz_X1_isInRow RX1 cX1_isInRow 3) (hr : meth.sig.returnType = (some .boolean)) (hll : l.stackTraces = false)  (post : Int32 → tG → Prop) : ∀ (u0 : Int32) (G : tG) (H : Heap) (locs : List Loc) (ls : Array Slot), tg_W D A s H G → va_S A s.heap H locs → tl ls 3 [] → w_X1_isInRow_88 K post u0 G → W p l e ({ frames := 2, cells := 0, slots := 0, locals := 46 } : Room) s m args below meth c H locs 0 0 (MQ below (tc_Qc D A (retI post)) args s 0 0 A) (F0 m 88 ls [.int u0]) := by
  intro u0 G H locs ls hW hS hl hw
  unfold w_X1_isInRow_88 at hw
  exact tr_zret C hr dX1_isInRow_88 (Nat.le_of_ble_eq_true rfl) (Nat.le_of_ble_eq_true rfl) hW hS hw
set_option maxHeartbeats 4000000 in
set_option maxRecDepth 100000 in
theorem s_X1_isInRow_20_b {K : tK} (C : tc_B p l s m args meth c D K A wz_X1_isInRow RX1 cX1_isInRow 3) (hr : meth.sig.returnType = (some .boolean)) (hll : l.stackTraces = false)  (post : Int32 → tG → Prop) (k20 : Option Nat → Option Nat → Int32 → tG → Prop) (hk20 : ∀ (v0 : Option Nat) (v1 : Option Nat) (v2 : Int32) (G : tG) (H : Heap) (locs : List Loc) (ls : Array Slot), tg_W D A s H G → va_S A s.heap H locs → tl ls 3 [(0, .inr (.inr v0)), (1, .inr (.inr v1)), (2, .inl v2)] → k20 v0 v1 v2 G → W p l e ({ frames := 2, cells := 0, slots := 0, locals := 46 } : Room) s m args below meth c H locs 0 0 (MQ below (tc_Qc D A (retI post)) args s 0 0 A) (F0 m 20 ls [])) : ∀ (v0 : Option Nat) (v1 : Option Nat) (v2 : Int32) (G : tG) (H : Heap) (locs : List Loc) (ls : Array Slot), tg_W D A s H G → va_S A s.heap H locs → tl ls 3 [(0, .inr (.inr v0)), (1, .inr (.inr v1)), (2, .inl v2)] → w_X1_isInRow_20_b K post k20 v0 v1 v2 G → W p l e ({ frames := 2, cells := 0, slots := 0, locals := 46 } : Room) s m args below meth c H locs 0 0 (MQ below (tc_Qc D A (retI post)) args s 0 0 A) (F0 m 20 ls []) := by
  intro v0 v1 v2 G H locs ls hW hS hl hw
  unfold w_X1_isInRow_20_b at hw
  refine tr_iload_n (k := 2) (x := v2) C hl 2 rfl dX1_isInRow_20 ?_
  refine tr_aload_n (k := 0) (x := v0) C hl 0 rfl dX1_isInRow_21 ?_
  refine tr_gfI (C0 := RX0) (T := TX0) (N := 4) (ci := 2) (ref := "Twinrow$RowList") (k := 3) (r := v0) C (zh hw_X0) rfl (by decide) (zm kw_34) rfl dX1_isInRow_22 hW hw (fun x_22 hw => ?_)
  refine lv_icmp_ge (tgt := 54) C.1.1 C.1.2.1 dX1_isInRow_25 (by decide) (fun hc => ?_) (fun hc => ?_)
  · have hw := hw.1 hc
    refine tr_aload_n (k := 0) (x := v0) C hl 0 rfl dX1_isInRow_54 ?_
    refine lv_iconst (v := (0 : Int32)) C.1.1 C.1.2.1 dX1_isInRow_55 (by decide) ?_
    refine tr_aload_n (k := 0) (x := v0) C hl 0 rfl dX1_isInRow_56 ?_
    refine tr_gfI (C0 := RX0) (T := TX0) (N := 4) (ci := 2) (ref := "Twinrow$RowList") (k := 3) (r := v0) C (zh hw_X0) rfl (by decide) (zm kw_34) rfl dX1_isInRow_57 hW hw (fun x_57 hw => ?_)
    refine tr_backI (tr_runS (As := [va_rf v0, .int ((0 : Int32)), .int x_57]) C hl.1 (c_X1_codeOf l hll K _ v0 ((0 : Int32)) x_57) (va_cwS 3 C.1.2.2.2.2 (gi_S (zm kw_36) (zm kw_37) (zm kw_33) (zm kw_35)) rfl rfl rfl (by decide +kernel) ⟨(Nat.le_of_ble_eq_true rfl), (Nat.le_of_ble_eq_true rfl)⟩) rfl dX1_isInRow_60 ⟨(Nat.le_of_ble_eq_true rfl), (Nat.le_of_ble_eq_true rfl)⟩ [] rfl (Nat.le_of_ble_eq_true rfl) rfl hW hS hw) hS (fun x_60 G_60 H locs hw hW hS => ?_)
    refine tr_aload_n (k := 1) (x := v1) C hl 1 rfl dX1_isInRow_63 ?_
    refine tr_aload_n (k := 0) (x := v0) C hl 0 rfl dX1_isInRow_64 ?_
    refine tr_gfI (C0 := RX0) (T := TX0) (N := 4) (ci := 2) (ref := "Twinrow$RowList") (k := 2) (r := v0) C (zh hw_X0) rfl (by decide) (zm kw_38) rfl dX1_isInRow_65 hW hw (fun x_65 hw => ?_)
    refine tr_aload_n (k := 0) (x := v0) C hl 0 rfl dX1_isInRow_68 ?_
    refine tr_gfI (C0 := RX0) (T := TX0) (N := 4) (ci := 2) (ref := "Twinrow$RowList") (k := 2) (r := v0) C (zh hw_X0) rfl (by decide) (zm kw_38) rfl dX1_isInRow_69 hW hw (fun x_69 hw => ?_)
    refine tr_aload_n (k := 0) (x := v0) C hl 0 rfl dX1_isInRow_72 ?_
    refine tr_gfI (C0 := RX0) (T := TX0) (N := 4) (ci := 2) (ref := "Twinrow$RowList") (k := 3) (r := v0) C (zh hw_X0) rfl (by decide) (zm kw_34) rfl dX1_isInRow_73 hW hw (fun x_73 hw => ?_)
    refine lv_iadd C.1.1 C.1.2.1 dX1_isInRow_76 ?_
    refine tr_backI (tr_runS (As := [va_rf v1, .int x_65, .int ((x_69 + x_73))]) C hl.1 (c_X1_codeOf l hll K _ v1 x_65 ((x_69 + x_73))) (va_cwS 3 C.1.2.2.2.2 (gi_S (zm kw_36) (zm kw_37) (zm kw_33) (zm kw_35)) rfl rfl rfl (by decide +kernel) ⟨(Nat.le_of_ble_eq_true rfl), (Nat.le_of_ble_eq_true rfl)⟩) rfl dX1_isInRow_77 ⟨(Nat.le_of_ble_eq_true rfl), (Nat.le_of_ble_eq_true rfl)⟩ [.inl x_60] rfl (Nat.le_of_ble_eq_true rfl) rfl hW hS hw) hS (fun x_77 G_77 H locs hw hW hS => ?_)
    refine lv_icmp_ne (tgt := 87) C.1.1 C.1.2.1 dX1_isInRow_80 (by decide) (fun hc => ?_) (fun hc => ?_)
    · have hw := hw.1 hc
      refine lv_iconst (v := (0 : Int32)) C.1.1 C.1.2.1 dX1_isInRow_87 (by decide) ?_
      exact s_X1_isInRow_88 C hr hll post ((0 : Int32)) _ _ _ _ hW hS (tl_sub hl [] rfl) hw
    · have hw := hw.2 hc
      refine lv_iconst (v := (1 : Int32)) C.1.1 C.1.2.1 dX1_isInRow_83 (by decide) ?_
      refine lv_goto (tgt := 88) C.1.1 C.1.2.1 dX1_isInRow_84 (by decide) ?_
      exact s_X1_isInRow_88 C hr hll post ((1 : Int32)) _ _ _ _ hW hS (tl_sub hl [] rfl) hw
  · have hw := hw.2 hc
    refine tr_aload_n (k := 0) (x := v0) C hl 0 rfl dX1_isInRow_28 ?_
    refine tr_iload_n (k := 2) (x := v2) C hl 2 rfl dX1_isInRow_29 ?_
    refine tr_backI (tr_runV (r := v0) (As := [.int v2]) C hl.1 (c_X0_read l hll K _ v0 v2) (cwV 1 C.1.2.2.2.2 (gi_V (zm kw_27) (zm kw_28) (zm kw_29) (zm kw_10) (zm kw_26)) rfl rfl rfl (by decide +kernel) ⟨(Nat.le_of_ble_eq_true rfl), (Nat.le_of_ble_eq_true rfl)⟩) rfl rfl dX1_isInRow_30 ⟨(Nat.le_of_ble_eq_true rfl), (Nat.le_of_ble_eq_true rfl)⟩ [] rfl (Nat.le_of_ble_eq_true rfl) rfl hW hS hw) hS (fun x_30 G_30 H locs hw hW hS => ?_)
    refine tr_aload_n (k := 1) (x := v1) C hl 1 rfl dX1_isInRow_33 ?_
    refine tr_aload_n (k := 0) (x := v0) C hl 0 rfl dX1_isInRow_34 ?_
    refine tr_gfI (C0 := RX0) (T := TX0) (N := 4) (ci := 2) (ref := "Twinrow$RowList") (k := 2) (r := v0) C (zh hw_X0) rfl (by decide) (zm kw_38) rfl dX1_isInRow_35 hW hw (fun x_35 hw => ?_)
    refine tr_iload_n (k := 2) (x := v2) C hl 2 rfl dX1_isInRow_38 ?_
    refine lv_iadd C.1.1 C.1.2.1 dX1_isInRow_39 ?_
    refine tr_backI (tr_runV (r := v1) (As := [.int ((x_35 + v2))]) C hl.1 (c_X0_read l hll K _ v1 ((x_35 + v2))) (cwV 1 C.1.2.2.2.2 (gi_V (zm kw_27) (zm kw_28) (zm kw_29) (zm kw_10) (zm kw_26)) rfl rfl rfl (by decide +kernel) ⟨(Nat.le_of_ble_eq_true rfl), (Nat.le_of_ble_eq_true rfl)⟩) rfl rfl dX1_isInRow_40 ⟨(Nat.le_of_ble_eq_true rfl), (Nat.le_of_ble_eq_true rfl)⟩ [.inl x_30] rfl (Nat.le_of_ble_eq_true rfl) rfl hW hS hw) hS (fun x_40 G_40 H locs hw hW hS => ?_)
    refine lv_icmp_eq (tgt := 48) C.1.1 C.1.2.1 dX1_isInRow_43 (by decide) (fun hc => ?_) (fun hc => ?_)
    · have hw := hw.1 hc
      refine tr_iinc C hl 2 (v2 + (1 : Int32)) [(2, .inl (v2 + (1 : Int32))), (0, .inr (.inr v0)), (1, .inr (.inr v1))] rfl rfl (by decide) rfl dX1_isInRow_48 (fun ls hl => ?_)
      refine lv_goto (tgt := 20) C.1.1 C.1.2.1 dX1_isInRow_51 (by decide) ?_
      exact hk20 v0 v1 ((v2 + (1 : Int32))) _ _ _ _ hW hS (tl_sub hl [1, 2, 0] rfl) hw
    · have hw := hw.2 hc
      refine lv_iconst (v := (0 : Int32)) C.1.1 C.1.2.1 dX1_isInRow_46 (by decide) ?_
      exact tr_zret C hr dX1_isInRow_47 (Nat.le_of_ble_eq_true rfl) (Nat.le_of_ble_eq_true rfl) hW hS hw
set_option maxHeartbeats 4000000 in
set_option maxRecDepth 100000 in
theorem s_X1_isInRow_20 {K : tK} (C : tc_B p l s m args meth c D K A wz_X1_isInRow RX1 cX1_isInRow 3) (hr : meth.sig.returnType = (some .boolean)) (hll : l.stackTraces = false)  (post : Int32 → tG → Prop) : ∀ (n : Nat) (v0 : Option Nat) (v1 : Option Nat) (v2 : Int32) (G : tG) (H : Heap) (locs : List Loc) (ls : Array Slot), tg_W D A s H G → va_S A s.heap H locs → tl ls 3 [(0, .inr (.inr v0)), (1, .inr (.inr v1)), (2, .inl v2)] → w_X1_isInRow_20 K post n v0 v1 v2 G → W p l e ({ frames := 2, cells := 0, slots := 0, locals := 46 } : Room) s m args below meth c H locs 0 0 (MQ below (tc_Qc D A (retI post)) args s 0 0 A) (F0 m 20 ls []) := by
  intro n
  induction n with
  | zero =>
    intro v0 v1 v2 G H locs ls hW hS hl hw
    exact hw.elim
  | succ n ih => exact s_X1_isInRow_20_b C hr hll post _ ih
set_option maxHeartbeats 4000000 in
set_option maxRecDepth 100000 in
theorem s_X1_isInRow {K : tK} (C : tc_B p l s m args meth c D K A wz_X1_isInRow RX1 cX1_isInRow 3) (hr : meth.sig.returnType = (some .boolean)) (hll : l.stackTraces = false)  (post : Int32 → tG → Prop) (v0 : Option Nat) (v1 : Option Nat) : ∀ (G : tG) (H : Heap) (locs : List Loc) (ls : Array Slot), tg_W D A s H G → va_S A s.heap H locs → tl ls 3 [(0, .inr (.inr v0)), (1, .inr (.inr v1))] → w_X1_isInRow K post v0 v1 G → W p l e ({ frames := 2, cells := 0, slots := 0, locals := 46 } : Room) s m args below meth c H locs 0 0 (MQ below (tc_Qc D A (retI post)) args s 0 0 A) (F0 m 0 ls []) := by
  intro G H locs ls hW hS hl hw
  unfold w_X1_isInRow at hw
  refine tr_aload_n (k := 0) (x := v0) C hl 0 rfl dX1_isInRow_0 ?_
  refine tr_gfI (C0 := RX0) (T := TX0) (N := 4) (ci := 2) (ref := "Twinrow$RowList") (k := 2) (r := v0) C (zh hw_X0) rfl (by decide) (zm kw_38) rfl dX1_isInRow_1 hW hw (fun x_1 hw => ?_)
  refine tr_aload_n (k := 0) (x := v0) C hl 0 rfl dX1_isInRow_4 ?_
  refine tr_gfI (C0 := RX0) (T := TX0) (N := 4) (ci := 2) (ref := "Twinrow$RowList") (k := 3) (r := v0) C (zh hw_X0) rfl (by decide) (zm kw_34) rfl dX1_isInRow_5 hW hw (fun x_5 hw => ?_)
  refine lv_iadd C.1.1 C.1.2.1 dX1_isInRow_8 ?_
  refine tr_aload_n (k := 1) (x := v1) C hl 1 rfl dX1_isInRow_9 ?_
  refine tr_gfI (C0 := RX0) (T := TX0) (N := 4) (ci := 2) (ref := "Twinrow$RowList") (k := 3) (r := v1) C (zh hw_X0) rfl (by decide) (zm kw_34) rfl dX1_isInRow_10 hW hw (fun x_10 hw => ?_)
  refine lv_icmp_le (tgt := 18) C.1.1 C.1.2.1 dX1_isInRow_13 (by decide) (fun hc => ?_) (fun hc => ?_)
  · have hw := hw.1 hc
    refine lv_iconst (v := (0 : Int32)) C.1.1 C.1.2.1 dX1_isInRow_18 (by decide) ?_
    refine tr_istore_n (k := 2) (x := (0 : Int32)) C hl [(2, .inl (0 : Int32)), (0, .inr (.inr v0)), (1, .inr (.inr v1))] (by decide) rfl dX1_isInRow_19 (fun ls hl => ?_)
    obtain ⟨n20, hw⟩ := hw
    exact s_X1_isInRow_20 C hr hll post n20 v0 v1 ((0 : Int32)) _ _ _ _ hW hS (tl_sub hl [1, 2, 0] rfl) hw
  · have hw := hw.2 hc
    refine lv_iconst (v := (0 : Int32)) C.1.1 C.1.2.1 dX1_isInRow_16 (by decide) ?_
    exact tr_zret C hr dX1_isInRow_17 (Nat.le_of_ble_eq_true rfl) (Nat.le_of_ble_eq_true rfl) hW hS hw
end Z_X1_isInRow
set_option maxHeartbeats 4000000 in
set_option maxRecDepth 100000 in
theorem c_X1_isInRow (l : Launch) (hll : l.stackTraces = false) (K : tK) (post : Int32 → tG → Prop) (v0 : Option Nat) (v1 : Option Nat) : Ct l yX1_isInRow wz_X1_isInRow ({ frames := 2, cells := 0, slots := 0, locals := 46 } : Room) 0 0 [va_rf v0, va_rf v1] K (retI post) (fun G => w_X1_isInRow K post v0 v1 G) := by
  refine tc_of (cc := cX1_isInRow) (maxL := 3) (ret := (some .boolean)) (own := RX1) (plainFor_of_name (by decide)) rfl rfl hll [.inr (.inr v0), .inr (.inr v1)] rfl (Nat.le_of_ble_eq_true rfl) ?_
  intro p e s m args below meth c D A G ls C hr hn ht hl hW hS hw
  exact s_X1_isInRow C hr hll post v0 v1 _ _ _ _ hW hS hl hw

/-! X1_hasAllFrom -/
def wz_X1_hasAllFrom : List Cond := Cond.code yX1_hasAllFrom cX1_hasAllFrom 4 (some .boolean) :: w0
section Z_X1_hasAllFrom
variable {p : Program} {l : Launch} {e : Env} {s : State} {m : MethodId} {args : Array Value} {below : List Frame} {meth : Method} {c : Code} {D : va_G} {A : Nat → Prop}
set_option maxHeartbeats 4000000 in
set_option maxRecDepth 100000 in
theorem s_X1_hasAllFrom_2_b {K : tK} (C : tc_B p l s m args meth c D K A wz_X1_hasAllFrom RX1 cX1_hasAllFrom 4) (hr : meth.sig.returnType = (some .boolean)) (hll : l.stackTraces = false)  (post : Int32 → tG → Prop) (k2 : Option Nat → Int32 → Option Nat → Int32 → tG → Prop) (hk2 : ∀ (v0 : Option Nat) (v1 : Int32) (v2 : Option Nat) (v3 : Int32) (G : tG) (H : Heap) (locs : List Loc) (ls : Array Slot), tg_W D A s H G → va_S A s.heap H locs → tl ls 4 [(0, .inr (.inr v0)), (1, .inl v1), (2, .inr (.inr v2)), (3, .inl v3)] → k2 v0 v1 v2 v3 G → W p l e ({ frames := 1, cells := 0, slots := 0, locals := 22 } : Room) s m args below meth c H locs 0 0 (MQ below (tc_Qc D A (retI post)) args s 0 0 A) (F0 m 2 ls [])) : ∀ (v0 : Option Nat) (v1 : Int32) (v2 : Option Nat) (v3 : Int32) (G : tG) (H : Heap) (locs : List Loc) (ls : Array Slot), tg_W D A s H G → va_S A s.heap H locs → tl ls 4 [(0, .inr (.inr v0)), (1, .inl v1), (2, .inr (.inr v2)), (3, .inl v3)] → w_X1_hasAllFrom_2_b K post k2 v0 v1 v2 v3 G → W p l e ({ frames := 1, cells := 0, slots := 0, locals := 22 } : Room) s m args below meth c H locs 0 0 (MQ below (tc_Qc D A (retI post)) args s 0 0 A) (F0 m 2 ls []) := by
  intro v0 v1 v2 v3 G H locs ls hW hS hl hw
  unfold w_X1_hasAllFrom_2_b at hw
  refine tr_iload_n (k := 3) (x := v3) C hl 3 rfl dX1_hasAllFrom_2 ?_
  refine tr_aload_n (k := 2) (x := v2) C hl 2 rfl dX1_hasAllFrom_3 ?_
  refine tr_gfI (C0 := RX0) (T := TX0) (N := 4) (ci := 2) (ref := "Twinrow$RowList") (k := 3) (r := v2) C (zh hw_X0) rfl (by decide) (zm kw_34) rfl dX1_hasAllFrom_4 hW hw (fun x_4 hw => ?_)
  refine lv_icmp_ge (tgt := 33) C.1.1 C.1.2.1 dX1_hasAllFrom_7 (by decide) (fun hc => ?_) (fun hc => ?_)
  · have hw := hw.1 hc
    refine lv_iconst (v := (1 : Int32)) C.1.1 C.1.2.1 dX1_hasAllFrom_33 (by decide) ?_
    exact tr_zret C hr dX1_hasAllFrom_34 (Nat.le_of_ble_eq_true rfl) (Nat.le_of_ble_eq_true rfl) hW hS hw
  · have hw := hw.2 hc
    refine tr_aload_n (k := 0) (x := v0) C hl 0 rfl dX1_hasAllFrom_10 ?_
    refine tr_iload_n (k := 1) (x := v1) C hl 1 rfl dX1_hasAllFrom_11 ?_
    refine tr_iload_n (k := 3) (x := v3) C hl 3 rfl dX1_hasAllFrom_12 ?_
    refine lv_iadd C.1.1 C.1.2.1 dX1_hasAllFrom_13 ?_
    refine tr_backI (tr_runV (r := v0) (As := [.int ((v1 + v3))]) C hl.1 (c_X0_read l hll K _ v0 ((v1 + v3))) (cwV 1 C.1.2.2.2.2 (gi_V (zm kw_27) (zm kw_28) (zm kw_29) (zm kw_10) (zm kw_26)) rfl rfl rfl (by decide +kernel) ⟨(Nat.le_of_ble_eq_true rfl), (Nat.le_of_ble_eq_true rfl)⟩) rfl rfl dX1_hasAllFrom_14 ⟨(Nat.le_of_ble_eq_true rfl), (Nat.le_of_ble_eq_true rfl)⟩ [] rfl (Nat.le_of_ble_eq_true rfl) rfl hW hS hw) hS (fun x_14 G_14 H locs hw hW hS => ?_)
    refine tr_aload_n (k := 2) (x := v2) C hl 2 rfl dX1_hasAllFrom_17 ?_
    refine tr_iload_n (k := 3) (x := v3) C hl 3 rfl dX1_hasAllFrom_18 ?_
    refine tr_backI (tr_runV (r := v2) (As := [.int v3]) C hl.1 (c_X0_read l hll K _ v2 v3) (cwV 1 C.1.2.2.2.2 (gi_V (zm kw_27) (zm kw_28) (zm kw_29) (zm kw_10) (zm kw_26)) rfl rfl rfl (by decide +kernel) ⟨(Nat.le_of_ble_eq_true rfl), (Nat.le_of_ble_eq_true rfl)⟩) rfl rfl dX1_hasAllFrom_19 ⟨(Nat.le_of_ble_eq_true rfl), (Nat.le_of_ble_eq_true rfl)⟩ [.inl x_14] rfl (Nat.le_of_ble_eq_true rfl) rfl hW hS hw) hS (fun x_19 G_19 H locs hw hW hS => ?_)
    refine lv_icmp_eq (tgt := 27) C.1.1 C.1.2.1 dX1_hasAllFrom_22 (by decide) (fun hc => ?_) (fun hc => ?_)
    · have hw := hw.1 hc
      refine tr_iinc C hl 3 (v3 + (1 : Int32)) [(3, .inl (v3 + (1 : Int32))), (0, .inr (.inr v0)), (1, .inl v1), (2, .inr (.inr v2))] rfl rfl (by decide) rfl dX1_hasAllFrom_27 (fun ls hl => ?_)
      refine lv_goto (tgt := 2) C.1.1 C.1.2.1 dX1_hasAllFrom_30 (by decide) ?_
      exact hk2 v0 v1 v2 ((v3 + (1 : Int32))) _ _ _ _ hW hS (tl_sub hl [1, 2, 3, 0] rfl) hw
    · have hw := hw.2 hc
      refine lv_iconst (v := (0 : Int32)) C.1.1 C.1.2.1 dX1_hasAllFrom_25 (by decide) ?_
      exact tr_zret C hr dX1_hasAllFrom_26 (Nat.le_of_ble_eq_true rfl) (Nat.le_of_ble_eq_true rfl) hW hS hw
set_option maxHeartbeats 4000000 in
set_option maxRecDepth 100000 in
theorem s_X1_hasAllFrom_2 {K : tK} (C : tc_B p l s m args meth c D K A wz_X1_hasAllFrom RX1 cX1_hasAllFrom 4) (hr : meth.sig.returnType = (some .boolean)) (hll : l.stackTraces = false)  (post : Int32 → tG → Prop) : ∀ (n : Nat) (v0 : Option Nat) (v1 : Int32) (v2 : Option Nat) (v3 : Int32) (G : tG) (H : Heap) (locs : List Loc) (ls : Array Slot), tg_W D A s H G → va_S A s.heap H locs → tl ls 4 [(0, .inr (.inr v0)), (1, .inl v1), (2, .inr (.inr v2)), (3, .inl v3)] → w_X1_hasAllFrom_2 K post n v0 v1 v2 v3 G → W p l e ({ frames := 1, cells := 0, slots := 0, locals := 22 } : Room) s m args below meth c H locs 0 0 (MQ below (tc_Qc D A (retI post)) args s 0 0 A) (F0 m 2 ls []) := by
  intro n
  induction n with
  | zero =>
    intro v0 v1 v2 v3 G H locs ls hW hS hl hw
    exact hw.elim
  | succ n ih => exact s_X1_hasAllFrom_2_b C hr hll post _ ih
set_option maxHeartbeats 4000000 in
set_option maxRecDepth 100000 in
theorem s_X1_hasAllFrom {K : tK} (C : tc_B p l s m args meth c D K A wz_X1_hasAllFrom RX1 cX1_hasAllFrom 4) (hr : meth.sig.returnType = (some .boolean)) (hll : l.stackTraces = false)  (post : Int32 → tG → Prop) (v0 : Option Nat) (v1 : Int32) (v2 : Option Nat) : ∀ (G : tG) (H : Heap) (locs : List Loc) (ls : Array Slot), tg_W D A s H G → va_S A s.heap H locs → tl ls 4 [(0, .inr (.inr v0)), (1, .inl v1), (2, .inr (.inr v2))] → w_X1_hasAllFrom K post v0 v1 v2 G → W p l e ({ frames := 1, cells := 0, slots := 0, locals := 22 } : Room) s m args below meth c H locs 0 0 (MQ below (tc_Qc D A (retI post)) args s 0 0 A) (F0 m 0 ls []) := by
  intro G H locs ls hW hS hl hw
  unfold w_X1_hasAllFrom at hw
  refine lv_iconst (v := (0 : Int32)) C.1.1 C.1.2.1 dX1_hasAllFrom_0 (by decide) ?_
  refine tr_istore_n (k := 3) (x := (0 : Int32)) C hl [(3, .inl (0 : Int32)), (0, .inr (.inr v0)), (1, .inl v1), (2, .inr (.inr v2))] (by decide) rfl dX1_hasAllFrom_1 (fun ls hl => ?_)
  obtain ⟨n2, hw⟩ := hw
  exact s_X1_hasAllFrom_2 C hr hll post n2 v0 v1 v2 ((0 : Int32)) _ _ _ _ hW hS (tl_sub hl [1, 2, 3, 0] rfl) hw
end Z_X1_hasAllFrom
set_option maxHeartbeats 4000000 in
set_option maxRecDepth 100000 in
theorem c_X1_hasAllFrom (l : Launch) (hll : l.stackTraces = false) (K : tK) (post : Int32 → tG → Prop) (v0 : Option Nat) (v1 : Int32) (v2 : Option Nat) : Ct l yX1_hasAllFrom wz_X1_hasAllFrom ({ frames := 1, cells := 0, slots := 0, locals := 22 } : Room) 0 0 [va_rf v0, .int v1, va_rf v2] K (retI post) (fun G => w_X1_hasAllFrom K post v0 v1 v2 G) := by
  refine tc_of (cc := cX1_hasAllFrom) (maxL := 4) (ret := (some .boolean)) (own := RX1) (plainFor_of_name (by decide)) rfl rfl hll [.inr (.inr v0), .inl v1, .inr (.inr v2)] rfl (Nat.le_of_ble_eq_true rfl) ?_
  intro p e s m args below meth c D A G ls C hr hn ht hl hW hS hw
  exact s_X1_hasAllFrom C hr hll post v0 v1 v2 _ _ _ _ hW hS hl hw

/-! X1_areSame -/
def wz_X1_areSame : List Cond := Cond.code yX1_areSame cX1_areSame 2 (some .boolean) :: w0
section Z_X1_areSame
variable {p : Program} {l : Launch} {e : Env} {s : State} {m : MethodId} {args : Array Value} {below : List Frame} {meth : Method} {c : Code} {D : va_G} {A : Nat → Prop}
set_option maxHeartbeats 4000000 in
set_option maxRecDepth 100000 in
theorem s_X1_areSame_25 {K : tK} (C : tc_B p l s m args meth c D K A wz_X1_areSame RX1 cX1_areSame 2) (hr : meth.sig.returnType = (some .boolean)) (hll : l.stackTraces = false)  (post : Int32 → tG → Prop) : ∀ (u0 : Int32) (G : tG) (H : Heap) (locs : List Loc) (ls : Array Slot), tg_W D A s H G → va_S A s.heap H locs → tl ls 2 [] → w_X1_areSame_25 K post u0 G → W p l e ({ frames := 2, cells := 0, slots := 0, locals := 45 } : Room) s m args below meth c H locs 0 0 (MQ below (tc_Qc D A (retI post)) args s 0 0 A) (F0 m 25 ls [.int u0]) := by
  intro u0 G H locs ls hW hS hl hw
  unfold w_X1_areSame_25 at hw
  exact tr_zret C hr dX1_areSame_25 (Nat.le_of_ble_eq_true rfl) (Nat.le_of_ble_eq_true rfl) hW hS hw
set_option maxHeartbeats 4000000 in
set_option maxRecDepth 100000 in
theorem s_X1_areSame_24 {K : tK} (C : tc_B p l s m args meth c D K A wz_X1_areSame RX1 cX1_areSame 2) (hr : meth.sig.returnType = (some .boolean)) (hll : l.stackTraces = false)  (post : Int32 → tG → Prop) : ∀ (G : tG) (H : Heap) (locs : List Loc) (ls : Array Slot), tg_W D A s H G → va_S A s.heap H locs → tl ls 2 [] → w_X1_areSame_24 K post G → W p l e ({ frames := 2, cells := 0, slots := 0, locals := 45 } : Room) s m args below meth c H locs 0 0 (MQ below (tc_Qc D A (retI post)) args s 0 0 A) (F0 m 24 ls []) := by
  intro G H locs ls hW hS hl hw
  unfold w_X1_areSame_24 at hw
  refine lv_iconst (v := (0 : Int32)) C.1.1 C.1.2.1 dX1_areSame_24 (by decide) ?_
  exact s_X1_areSame_25 C hr hll post ((0 : Int32)) _ _ _ _ hW hS (tl_sub hl [] rfl) hw
set_option maxHeartbeats 4000000 in
set_option maxRecDepth 100000 in
theorem s_X1_areSame {K : tK} (C : tc_B p l s m args meth c D K A wz_X1_areSame RX1 cX1_areSame 2) (hr : meth.sig.returnType = (some .boolean)) (hll : l.stackTraces = false)  (post : Int32 → tG → Prop) (v0 : Option Nat) (v1 : Option Nat) : ∀ (G : tG) (H : Heap) (locs : List Loc) (ls : Array Slot), tg_W D A s H G → va_S A s.heap H locs → tl ls 2 [(0, .inr (.inr v0)), (1, .inr (.inr v1))] → w_X1_areSame K post v0 v1 G → W p l e ({ frames := 2, cells := 0, slots := 0, locals := 45 } : Room) s m args below meth c H locs 0 0 (MQ below (tc_Qc D A (retI post)) args s 0 0 A) (F0 m 0 ls []) := by
  intro G H locs ls hW hS hl hw
  unfold w_X1_areSame at hw
  refine tr_aload_n (k := 0) (x := v0) C hl 0 rfl dX1_areSame_0 ?_
  refine tr_gfI (C0 := RX0) (T := TX0) (N := 4) (ci := 2) (ref := "Twinrow$RowList") (k := 3) (r := v0) C (zh hw_X0) rfl (by decide) (zm kw_34) rfl dX1_areSame_1 hW hw (fun x_1 hw => ?_)
  refine tr_aload_n (k := 1) (x := v1) C hl 1 rfl dX1_areSame_4 ?_
  refine tr_gfI (C0 := RX0) (T := TX0) (N := 4) (ci := 2) (ref := "Twinrow$RowList") (k := 3) (r := v1) C (zh hw_X0) rfl (by decide) (zm kw_34) rfl dX1_areSame_5 hW hw (fun x_5 hw => ?_)
  refine lv_icmp_ne (tgt := 24) C.1.1 C.1.2.1 dX1_areSame_8 (by decide) (fun hc => ?_) (fun hc => ?_)
  · have hw := hw.1 hc
    exact s_X1_areSame_24 C hr hll post _ _ _ _ hW hS (tl_sub hl [] rfl) hw
  · have hw := hw.2 hc
    refine tr_aload_n (k := 0) (x := v0) C hl 0 rfl dX1_areSame_11 ?_
    refine lv_iconst (v := (0 : Int32)) C.1.1 C.1.2.1 dX1_areSame_12 (by decide) ?_
    refine tr_aload_n (k := 1) (x := v1) C hl 1 rfl dX1_areSame_13 ?_
    refine tr_backI (tr_runS (As := [va_rf v0, .int ((0 : Int32)), va_rf v1]) C hl.1 (c_X1_hasAllFrom l hll K _ v0 ((0 : Int32)) v1) (va_cwS 3 C.1.2.2.2.2 (gi_S (zm kw_40) (zm kw_41) (zm kw_33) (zm kw_39)) rfl rfl rfl (by decide +kernel) ⟨(Nat.le_of_ble_eq_true rfl), (Nat.le_of_ble_eq_true rfl)⟩) rfl dX1_areSame_14 ⟨(Nat.le_of_ble_eq_true rfl), (Nat.le_of_ble_eq_true rfl)⟩ [] rfl (Nat.le_of_ble_eq_true rfl) rfl hW hS hw) hS (fun x_14 G_14 H locs hw hW hS => ?_)
    refine lv_if_eq (tgt := 24) C.1.1 C.1.2.1 dX1_areSame_17 (by decide) (fun hc => ?_) (fun hc => ?_)
    · have hw := hw.1 hc
      exact s_X1_areSame_24 C hr hll post _ _ _ _ hW hS (tl_sub hl [] rfl) hw
    · have hw := hw.2 hc
      refine lv_iconst (v := (1 : Int32)) C.1.1 C.1.2.1 dX1_areSame_20 (by decide) ?_
      refine lv_goto (tgt := 25) C.1.1 C.1.2.1 dX1_areSame_21 (by decide) ?_
      exact s_X1_areSame_25 C hr hll post ((1 : Int32)) _ _ _ _ hW hS (tl_sub hl [] rfl) hw
end Z_X1_areSame
set_option maxHeartbeats 4000000 in
set_option maxRecDepth 100000 in
theorem c_X1_areSame (l : Launch) (hll : l.stackTraces = false) (K : tK) (post : Int32 → tG → Prop) (v0 : Option Nat) (v1 : Option Nat) : Ct l yX1_areSame wz_X1_areSame ({ frames := 2, cells := 0, slots := 0, locals := 45 } : Room) 0 0 [va_rf v0, va_rf v1] K (retI post) (fun G => w_X1_areSame K post v0 v1 G) := by
  refine tc_of (cc := cX1_areSame) (maxL := 2) (ret := (some .boolean)) (own := RX1) (plainFor_of_name (by decide)) rfl rfl hll [.inr (.inr v0), .inr (.inr v1)] rfl (Nat.le_of_ble_eq_true rfl) ?_
  intro p e s m args below meth c D A G ls C hr hn ht hl hW hS hw
  exact s_X1_areSame C hr hll post v0 v1 _ _ _ _ hW hS hl hw

/-! X0_write -/
def wz_X0_write : List Cond := Cond.code yX0_write cX0_write 5 (some .int) :: w0
section Z_X0_write
variable {p : Program} {l : Launch} {e : Env} {s : State} {m : MethodId} {args : Array Value} {below : List Frame} {meth : Method} {c : Code} {D : va_G} {A : Nat → Prop}
set_option maxHeartbeats 4000000 in
set_option maxRecDepth 100000 in
theorem s_X0_write_37 {K : tK} (C : tc_B p l s m args meth c D K A wz_X0_write RX0 cX0_write 5) (hr : meth.sig.returnType = (some .int)) (hll : l.stackTraces = false)  (post : Int32 → tG → Prop) : ∀ (v3 : Int32) (G : tG) (H : Heap) (locs : List Loc) (ls : Array Slot), tg_W D A s H G → va_S A s.heap H locs → tl ls 5 [(3, .inl v3)] → w_X0_write_37 K post v3 G → W p l e ({ frames := 1, cells := 0, slots := 0, locals := 22 } : Room) s m args below meth c H locs 0 0 (MQ below (tc_Qc D A (retI post)) args s 0 0 A) (F0 m 37 ls []) := by
  intro v3 G H locs ls hW hS hl hw
  unfold w_X0_write_37 at hw
  refine tr_iload_n (k := 3) (x := v3) C hl 0 rfl dX0_write_37 ?_
  exact tr_iret C hr dX0_write_38 (Nat.le_of_ble_eq_true rfl) (Nat.le_of_ble_eq_true rfl) hW hS hw
set_option maxHeartbeats 4000000 in
set_option maxRecDepth 100000 in
theorem s_X0_write {K : tK} (C : tc_B p l s m args meth c D K A wz_X0_write RX0 cX0_write 5) (hr : meth.sig.returnType = (some .int)) (hll : l.stackTraces = false)  (post : Int32 → tG → Prop) (v0 : Option Nat) (v1 : Int32) (v2 : Int32) : ∀ (G : tG) (H : Heap) (locs : List Loc) (ls : Array Slot), tg_W D A s H G → va_S A s.heap H locs → tl ls 5 [(0, .inr (.inr v0)), (1, .inl v1), (2, .inl v2)] → w_X0_write K post v0 v1 v2 G → W p l e ({ frames := 1, cells := 0, slots := 0, locals := 22 } : Room) s m args below meth c H locs 0 0 (MQ below (tc_Qc D A (retI post)) args s 0 0 A) (F0 m 0 ls []) := by
  intro G H locs ls hW hS hl hw
  unfold w_X0_write at hw
  refine tr_aload_n (k := 0) (x := v0) C hl 0 rfl dX0_write_0 ?_
  refine tr_iload_n (k := 1) (x := v1) C hl 1 rfl dX0_write_1 ?_
  refine tr_backI (tr_runV (r := v0) (As := [.int v1]) C hl.1 (c_X0_read l hll K _ v0 v1) (cwV 1 C.1.2.2.2.2 (gi_V (zm kw_42) (zm kw_28) (zm kw_29) (zm kw_10) (zm kw_26)) rfl rfl rfl (by decide +kernel) ⟨(Nat.le_of_ble_eq_true rfl), (Nat.le_of_ble_eq_true rfl)⟩) rfl rfl dX0_write_2 ⟨(Nat.le_of_ble_eq_true rfl), (Nat.le_of_ble_eq_true rfl)⟩ [] rfl (Nat.le_of_ble_eq_true rfl) rfl hW hS hw) hS (fun x_2 G_2 H locs hw hW hS => ?_)
  refine tr_istore_n (k := 3) (x := x_2) C hl [(3, .inl x_2), (0, .inr (.inr v0)), (1, .inl v1), (2, .inl v2)] (by decide) rfl dX0_write_5 (fun ls hl => ?_)
  refine tr_aload_n (k := 0) (x := v0) C hl 1 rfl dX0_write_6 ?_
  refine tr_gfI (C0 := RX0) (T := TX0) (N := 4) (ci := 2) (ref := "Twinrow$RowList") (k := 2) (r := v0) C (zh hw_X0) rfl (by decide) (zm kw_5) rfl dX0_write_7 hW hw (fun x_7 hw => ?_)
  refine tr_iload_n (k := 1) (x := v1) C hl 2 rfl dX0_write_10 ?_
  refine lv_iadd C.1.1 C.1.2.1 dX0_write_11 ?_
  refine tr_istore (x := (x_7 + v1)) C hl [(4, .inl (x_7 + v1)), (3, .inl x_2), (0, .inr (.inr v0)), (1, .inl v1), (2, .inl v2)] (by decide) rfl dX0_write_12 (fun ls hl => ?_)
  refine tr_iload (x := (x_7 + v1)) C hl 0 rfl dX0_write_14 ?_
  refine lv_if_lt (tgt := 37) C.1.1 C.1.2.1 dX0_write_16 (by decide) (fun hc => ?_) (fun hc => ?_)
  · have hw := hw.1 hc
    exact s_X0_write_37 C hr hll post x_2 _ _ _ _ hW hS (tl_sub hl [1] rfl) hw
  · have hw := hw.2 hc
    refine tr_iload (x := (x_7 + v1)) C hl 0 rfl dX0_write_19 ?_
    refine tr_aload_n (k := 0) (x := v0) C hl 2 rfl dX0_write_21 ?_
    refine tr_gfR (C0 := RX0) (T := TX0) (N := 4) (ci := 2) (ref := "Twinrow$RowList") (k := 1) (r := v0) C (zh hw_X0) rfl (by decide) (zm kw_4) rfl dX0_write_22 hW hw (fun x_22 hw => ?_)
    refine tr_len (r := x_22) C dX0_write_25 hW hw (fun x_25 hw => ?_)
    refine lv_icmp_ge (tgt := 37) C.1.1 C.1.2.1 dX0_write_26 (by decide) (fun hc => ?_) (fun hc => ?_)
    · have hw := hw.1 hc
      exact s_X0_write_37 C hr hll post x_2 _ _ _ _ hW hS (tl_sub hl [1] rfl) hw
    · have hw := hw.2 hc
      refine tr_aload_n (k := 0) (x := v0) C hl 2 rfl dX0_write_29 ?_
      refine tr_gfR (C0 := RX0) (T := TX0) (N := 4) (ci := 2) (ref := "Twinrow$RowList") (k := 1) (r := v0) C (zh hw_X0) rfl (by decide) (zm kw_4) rfl dX0_write_30 hW hw (fun x_30 hw => ?_)
      refine tr_iload (x := (x_7 + v1)) C hl 0 rfl dX0_write_33 ?_
      refine tr_iload_n (k := 2) (x := v2) C hl 4 rfl dX0_write_35 ?_
      refine tr_asI (r := x_30) C dX0_write_36 hW hS hw (fun G_36 H locs hw hW hS => ?_)
      exact s_X0_write_37 C hr hll post x_2 _ _ _ _ hW hS (tl_sub hl [1] rfl) hw
end Z_X0_write
set_option maxHeartbeats 4000000 in
set_option maxRecDepth 100000 in
theorem c_X0_write (l : Launch) (hll : l.stackTraces = false) (K : tK) (post : Int32 → tG → Prop) (v0 : Option Nat) (v1 : Int32) (v2 : Int32) : Ct l yX0_write wz_X0_write ({ frames := 1, cells := 0, slots := 0, locals := 22 } : Room) 0 0 [va_rf v0, .int v1, .int v2] K (retI post) (fun G => w_X0_write K post v0 v1 v2 G) := by
  refine tc_of (cc := cX0_write) (maxL := 5) (ret := (some .int)) (own := RX0) (plainFor_of_name (by decide)) rfl rfl hll [.inr (.inr v0), .inl v1, .inl v2] rfl (Nat.le_of_ble_eq_true rfl) ?_
  intro p e s m args below meth c D A G ls C hr hn ht hl hW hS hw
  exact s_X0_write C hr hll post v0 v1 v2 _ _ _ _ hW hS hl hw

/-! X1_isEqualToOwn -/
def wz_X1_isEqualToOwn : List Cond := Cond.code yX1_isEqualToOwn cX1_isEqualToOwn 4 (some .boolean) :: w0
section Z_X1_isEqualToOwn
variable {p : Program} {l : Launch} {e : Env} {s : State} {m : MethodId} {args : Array Value} {below : List Frame} {meth : Method} {c : Code} {D : va_G} {A : Nat → Prop}
set_option maxHeartbeats 4000000 in
set_option maxRecDepth 100000 in
theorem s_X1_isEqualToOwn_66 {K : tK} (C : tc_B p l s m args meth c D K A wz_X1_isEqualToOwn RX1 cX1_isEqualToOwn 4) (hr : meth.sig.returnType = (some .boolean)) (hll : l.stackTraces = false)  (post : Int32 → tG → Prop) : ∀ (u0 : Int32) (G : tG) (H : Heap) (locs : List Loc) (ls : Array Slot), tg_W D A s H G → va_S A s.heap H locs → tl ls 4 [] → w_X1_isEqualToOwn_66 K post u0 G → W p l e ({ frames := 3, cells := 1, slots := 4, locals := 66 } : Room) s m args below meth c H locs 1 4 (MQ below (tc_Qc D A (retI post)) args s 1 4 A) (F0 m 66 ls [.int u0]) := by
  intro u0 G H locs ls hW hS hl hw
  unfold w_X1_isEqualToOwn_66 at hw
  exact tr_zret C hr dX1_isEqualToOwn_66 (Nat.le_of_ble_eq_true rfl) (Nat.le_of_ble_eq_true rfl) hW hS hw
set_option maxHeartbeats 4000000 in
set_option maxRecDepth 100000 in
theorem s_X1_isEqualToOwn_65 {K : tK} (C : tc_B p l s m args meth c D K A wz_X1_isEqualToOwn RX1 cX1_isEqualToOwn 4) (hr : meth.sig.returnType = (some .boolean)) (hll : l.stackTraces = false)  (post : Int32 → tG → Prop) : ∀ (G : tG) (H : Heap) (locs : List Loc) (ls : Array Slot), tg_W D A s H G → va_S A s.heap H locs → tl ls 4 [] → w_X1_isEqualToOwn_65 K post G → W p l e ({ frames := 3, cells := 1, slots := 4, locals := 66 } : Room) s m args below meth c H locs 1 4 (MQ below (tc_Qc D A (retI post)) args s 1 4 A) (F0 m 65 ls []) := by
  intro G H locs ls hW hS hl hw
  unfold w_X1_isEqualToOwn_65 at hw
  refine lv_iconst (v := (0 : Int32)) C.1.1 C.1.2.1 dX1_isEqualToOwn_65 (by decide) ?_
  exact s_X1_isEqualToOwn_66 C hr hll post ((0 : Int32)) _ _ _ _ hW hS (tl_sub hl [] rfl) hw
set_option maxHeartbeats 4000000 in
set_option maxRecDepth 100000 in
theorem s_X1_isEqualToOwn_20_b {K : tK} (C : tc_B p l s m args meth c D K A wz_X1_isEqualToOwn RX1 cX1_isEqualToOwn 4) (hr : meth.sig.returnType = (some .boolean)) (hll : l.stackTraces = false)  (post : Int32 → tG → Prop) (k20 : Option Nat → Option Nat → Int32 → tG → Prop) (hk20 : ∀ (v1 : Option Nat) (v2 : Option Nat) (v3 : Int32) (G : tG) (H : Heap) (locs : List Loc) (ls : Array Slot), tg_W D A s H G → va_S A s.heap H locs → tl ls 4 [(1, .inr (.inr v1)), (2, .inr (.inr v2)), (3, .inl v3)] → k20 v1 v2 v3 G → W p l e ({ frames := 3, cells := 1, slots := 4, locals := 66 } : Room) s m args below meth c H locs 1 4 (MQ below (tc_Qc D A (retI post)) args s 1 4 A) (F0 m 20 ls [])) : ∀ (v1 : Option Nat) (v2 : Option Nat) (v3 : Int32) (G : tG) (H : Heap) (locs : List Loc) (ls : Array Slot), tg_W D A s H G → va_S A s.heap H locs → tl ls 4 [(1, .inr (.inr v1)), (2, .inr (.inr v2)), (3, .inl v3)] → w_X1_isEqualToOwn_20_b K post k20 v1 v2 v3 G → W p l e ({ frames := 3, cells := 1, slots := 4, locals := 66 } : Room) s m args below meth c H locs 1 4 (MQ below (tc_Qc D A (retI post)) args s 1 4 A) (F0 m 20 ls []) := by
  intro v1 v2 v3 G H locs ls hW hS hl hw
  unfold w_X1_isEqualToOwn_20_b at hw
  refine tr_iload_n (k := 3) (x := v3) C hl 2 rfl dX1_isEqualToOwn_20 ?_
  refine tr_aload_n (k := 1) (x := v1) C hl 0 rfl dX1_isEqualToOwn_21 ?_
  refine tr_gfI (C0 := RX0) (T := TX0) (N := 4) (ci := 2) (ref := "Twinrow$RowList") (k := 3) (r := v1) C (zh hw_X0) rfl (by decide) (zm kw_34) rfl dX1_isEqualToOwn_22 hW hw (fun x_22 hw => ?_)
  refine lv_icmp_ge (tgt := 45) C.1.1 C.1.2.1 dX1_isEqualToOwn_25 (by decide) (fun hc => ?_) (fun hc => ?_)
  · have hw := hw.1 hc
    refine tr_aload_n (k := 1) (x := v1) C hl 0 rfl dX1_isEqualToOwn_45 ?_
    refine tr_aload_n (k := 2) (x := v2) C hl 1 rfl dX1_isEqualToOwn_46 ?_
    refine tr_backI (tr_runS (As := [va_rf v1, va_rf v2]) C hl.1 (c_X1_areSame l hll K _ v1 v2) (va_cwS 2 C.1.2.2.2.2 (gi_S (zm kw_44) (zm kw_45) (zm kw_33) (zm kw_43)) rfl rfl rfl (by decide +kernel) ⟨(Nat.le_of_ble_eq_true rfl), (Nat.le_of_ble_eq_true rfl)⟩) rfl dX1_isEqualToOwn_47 ⟨(Nat.le_of_ble_eq_true rfl), (Nat.le_of_ble_eq_true rfl)⟩ [] rfl (Nat.le_of_ble_eq_true rfl) rfl hW hS hw) hS (fun x_47 G_47 H locs hw hW hS => ?_)
    refine lv_if_eq (tgt := 65) C.1.1 C.1.2.1 dX1_isEqualToOwn_50 (by decide) (fun hc => ?_) (fun hc => ?_)
    · have hw := hw.1 hc
      exact s_X1_isEqualToOwn_65 C hr hll post _ _ _ _ hW hS (tl_sub hl [] rfl) hw
    · have hw := hw.2 hc
      refine tr_aload_n (k := 2) (x := v2) C hl 1 rfl dX1_isEqualToOwn_53 ?_
      refine tr_aload_n (k := 1) (x := v1) C hl 0 rfl dX1_isEqualToOwn_54 ?_
      refine tr_backI (tr_runS (As := [va_rf v2, va_rf v1]) C hl.1 (c_X1_areSame l hll K _ v2 v1) (va_cwS 2 C.1.2.2.2.2 (gi_S (zm kw_44) (zm kw_45) (zm kw_33) (zm kw_43)) rfl rfl rfl (by decide +kernel) ⟨(Nat.le_of_ble_eq_true rfl), (Nat.le_of_ble_eq_true rfl)⟩) rfl dX1_isEqualToOwn_55 ⟨(Nat.le_of_ble_eq_true rfl), (Nat.le_of_ble_eq_true rfl)⟩ [] rfl (Nat.le_of_ble_eq_true rfl) rfl hW hS hw) hS (fun x_55 G_55 H locs hw hW hS => ?_)
      refine lv_if_eq (tgt := 65) C.1.1 C.1.2.1 dX1_isEqualToOwn_58 (by decide) (fun hc => ?_) (fun hc => ?_)
      · have hw := hw.1 hc
        exact s_X1_isEqualToOwn_65 C hr hll post _ _ _ _ hW hS (tl_sub hl [] rfl) hw
      · have hw := hw.2 hc
        refine lv_iconst (v := (1 : Int32)) C.1.1 C.1.2.1 dX1_isEqualToOwn_61 (by decide) ?_
        refine lv_goto (tgt := 66) C.1.1 C.1.2.1 dX1_isEqualToOwn_62 (by decide) ?_
        exact s_X1_isEqualToOwn_66 C hr hll post ((1 : Int32)) _ _ _ _ hW hS (tl_sub hl [] rfl) hw
  · have hw := hw.2 hc
    refine tr_aload_n (k := 2) (x := v2) C hl 1 rfl dX1_isEqualToOwn_28 ?_
    refine tr_iload_n (k := 3) (x := v3) C hl 2 rfl dX1_isEqualToOwn_29 ?_
    refine tr_aload_n (k := 1) (x := v1) C hl 0 rfl dX1_isEqualToOwn_30 ?_
    refine tr_iload_n (k := 3) (x := v3) C hl 2 rfl dX1_isEqualToOwn_31 ?_
    refine tr_backI (tr_runV (r := v1) (As := [.int v3]) C hl.1 (c_X0_read l hll K _ v1 v3) (cwV 1 C.1.2.2.2.2 (gi_V (zm kw_27) (zm kw_28) (zm kw_29) (zm kw_10) (zm kw_26)) rfl rfl rfl (by decide +kernel) ⟨(Nat.le_of_ble_eq_true rfl), (Nat.le_of_ble_eq_true rfl)⟩) rfl rfl dX1_isEqualToOwn_32 ⟨(Nat.le_of_ble_eq_true rfl), (Nat.le_of_ble_eq_true rfl)⟩ [.inl v3, .inr (.inr v2)] rfl (Nat.le_of_ble_eq_true rfl) rfl hW hS hw) hS (fun x_32 G_32 H locs hw hW hS => ?_)
    refine tr_backI (tr_runV (r := v2) (As := [.int v3, .int x_32]) C hl.1 (c_X0_write l hll K _ v2 v3 x_32) (cwV 2 C.1.2.2.2.2 (gi_V (zm kw_47) (zm kw_48) (zm kw_49) (zm kw_10) (zm kw_46)) rfl rfl rfl (by decide +kernel) ⟨(Nat.le_of_ble_eq_true rfl), (Nat.le_of_ble_eq_true rfl)⟩) rfl rfl dX1_isEqualToOwn_35 ⟨(Nat.le_of_ble_eq_true rfl), (Nat.le_of_ble_eq_true rfl)⟩ [] rfl (Nat.le_of_ble_eq_true rfl) rfl hW hS hw) hS (fun x_35 G_35 H locs hw hW hS => ?_)
    refine lv_pop C.1.1 C.1.2.1 dX1_isEqualToOwn_38 rfl ?_
    refine tr_iinc C hl 2 (v3 + (1 : Int32)) [(3, .inl (v3 + (1 : Int32))), (1, .inr (.inr v1)), (2, .inr (.inr v2))] rfl rfl (by decide) rfl dX1_isEqualToOwn_39 (fun ls hl => ?_)
    refine lv_goto (tgt := 20) C.1.1 C.1.2.1 dX1_isEqualToOwn_42 (by decide) ?_
    exact hk20 v1 v2 ((v3 + (1 : Int32))) _ _ _ _ hW hS (tl_sub hl [1, 2, 0] rfl) hw
set_option maxHeartbeats 4000000 in
set_option maxRecDepth 100000 in
theorem s_X1_isEqualToOwn_20 {K : tK} (C : tc_B p l s m args meth c D K A wz_X1_isEqualToOwn RX1 cX1_isEqualToOwn 4) (hr : meth.sig.returnType = (some .boolean)) (hll : l.stackTraces = false)  (post : Int32 → tG → Prop) : ∀ (n : Nat) (v1 : Option Nat) (v2 : Option Nat) (v3 : Int32) (G : tG) (H : Heap) (locs : List Loc) (ls : Array Slot), tg_W D A s H G → va_S A s.heap H locs → tl ls 4 [(1, .inr (.inr v1)), (2, .inr (.inr v2)), (3, .inl v3)] → w_X1_isEqualToOwn_20 K post n v1 v2 v3 G → W p l e ({ frames := 3, cells := 1, slots := 4, locals := 66 } : Room) s m args below meth c H locs 1 4 (MQ below (tc_Qc D A (retI post)) args s 1 4 A) (F0 m 20 ls []) := by
  intro n
  induction n with
  | zero =>
    intro v1 v2 v3 G H locs ls hW hS hl hw
    exact hw.elim
  | succ n ih => exact s_X1_isEqualToOwn_20_b C hr hll post _ ih
set_option maxHeartbeats 4000000 in
set_option maxRecDepth 100000 in
theorem s_X1_isEqualToOwn {K : tK} (C : tc_B p l s m args meth c D K A wz_X1_isEqualToOwn RX1 cX1_isEqualToOwn 4) (hr : meth.sig.returnType = (some .boolean)) (hll : l.stackTraces = false)  (post : Int32 → tG → Prop) (v0 : Option Nat) (v1 : Option Nat) : ∀ (G : tG) (H : Heap) (locs : List Loc) (ls : Array Slot), tg_W D A s H G → va_S A s.heap H locs → tl ls 4 [(0, .inr (.inr v0)), (1, .inr (.inr v1))] → w_X1_isEqualToOwn K post v0 v1 G → W p l e ({ frames := 3, cells := 1, slots := 4, locals := 66 } : Room) s m args below meth c H locs 0 0 (MQ below (tc_Qc D A (retI post)) args s 1 4 A) (F0 m 0 ls []) := by
  intro G H locs ls hW hS hl hw
  unfold w_X1_isEqualToOwn at hw
  refine tr_new (C0 := RX0) (T := TX0) (N := 4) (ci := 2) (fs := [.int 0, .null, .int 0, .int 0]) C (zh hw_X0) tyX0 tyX0_ok (zm kw_8) (zm kw_9) (zm kw_10) rfl df_X0 (Nat.le_of_ble_eq_true rfl) (Nat.le_of_ble_eq_true rfl) dX1_isEqualToOwn_0 hW hS hw (fun r_0 G_0 H hw hW hS => ?_)
  refine lv_dup C.1.1 C.1.2.1 dX1_isEqualToOwn_3 (va_rf_cat _) ?_
  refine lv_iconst (v := (-1 : Int32)) C.1.1 C.1.2.1 dX1_isEqualToOwn_4 (by decide) ?_
  refine tr_aload_n (k := 0) (x := v0) C hl 0 rfl dX1_isEqualToOwn_5 ?_
  refine tr_gfR (C0 := RX1) (T := TX1) (N := 4) (ci := 3) (ref := "Twinrow") (k := 1) (r := v0) C (zh hw_X1) rfl (by decide) (zm kw_16) rfl dX1_isEqualToOwn_6 hW hw (fun x_6 hw => ?_)
  refine lv_iconst (v := (0 : Int32)) C.1.1 C.1.2.1 dX1_isEqualToOwn_9 (by decide) ?_
  refine tr_aload_n (k := 1) (x := v1) C hl 1 rfl dX1_isEqualToOwn_10 ?_
  refine tr_gfI (C0 := RX0) (T := TX0) (N := 4) (ci := 2) (ref := "Twinrow$RowList") (k := 3) (r := v1) C (zh hw_X0) rfl (by decide) (zm kw_34) rfl dX1_isEqualToOwn_11 hW hw (fun x_11 hw => ?_)
  refine tr_backV (tr_runI (r := r_0) (As := [.int ((-1 : Int32)), va_rf x_6, .int ((0 : Int32)), .int x_11]) C hl.1 (c_X0_init l hll K _ r_0 ((-1 : Int32)) x_6 ((0 : Int32)) x_11) (cwI 4 C.1.2.2.2.2 (gi_I  (zm kw_12)) rfl rfl rfl (C.1.2.2.2.2 _ (zm kw_10)) (C.1.2.2.2.2 _ (zm kw_13)) (C.1.2.2.2.2 _ (zm kw_14)) rfl (by decide +kernel) ⟨(Nat.le_of_ble_eq_true rfl), (Nat.le_of_ble_eq_true rfl)⟩) rfl dX1_isEqualToOwn_14 ⟨(Nat.le_of_ble_eq_true rfl), (Nat.le_of_ble_eq_true rfl)⟩ [.inr (.inr r_0)] rfl (Nat.le_of_ble_eq_true rfl) rfl hW hS hw) hS (fun G_14 H locs hw hW hS => ?_)
  refine tr_astore_n (k := 2) (x := r_0) C hl [(2, .inr (.inr r_0)), (0, .inr (.inr v0)), (1, .inr (.inr v1))] (by decide) rfl dX1_isEqualToOwn_17 (fun ls hl => ?_)
  refine lv_iconst (v := (0 : Int32)) C.1.1 C.1.2.1 dX1_isEqualToOwn_18 (by decide) ?_
  refine tr_istore_n (k := 3) (x := (0 : Int32)) C hl [(3, .inl (0 : Int32)), (2, .inr (.inr r_0)), (0, .inr (.inr v0)), (1, .inr (.inr v1))] (by decide) rfl dX1_isEqualToOwn_19 (fun ls hl => ?_)
  obtain ⟨n20, hw⟩ := hw
  exact s_X1_isEqualToOwn_20 C hr hll post n20 v1 r_0 ((0 : Int32)) _ _ _ _ hW hS (tl_sub hl [3, 1, 0] rfl) hw
end Z_X1_isEqualToOwn
set_option maxHeartbeats 4000000 in
set_option maxRecDepth 100000 in
theorem c_X1_isEqualToOwn (l : Launch) (hll : l.stackTraces = false) (K : tK) (post : Int32 → tG → Prop) (v0 : Option Nat) (v1 : Option Nat) : Ct l yX1_isEqualToOwn wz_X1_isEqualToOwn ({ frames := 3, cells := 1, slots := 4, locals := 66 } : Room) 1 4 [va_rf v0, va_rf v1] K (retI post) (fun G => w_X1_isEqualToOwn K post v0 v1 G) := by
  refine tc_of (cc := cX1_isEqualToOwn) (maxL := 4) (ret := (some .boolean)) (own := RX1) (plainFor_of_name (by decide)) rfl rfl hll [.inr (.inr v0), .inr (.inr v1)] rfl (Nat.le_of_ble_eq_true rfl) ?_
  intro p e s m args below meth c D A G ls C hr hn ht hl hW hS hw
  exact s_X1_isEqualToOwn C hr hll post v0 v1 _ _ _ _ hW hS hl hw

/-! X1_placeAfter -/
def wz_X1_placeAfter : List Cond := Cond.code yX1_placeAfter cX1_placeAfter 3 (some .int) :: w0
section Z_X1_placeAfter
variable {p : Program} {l : Launch} {e : Env} {s : State} {m : MethodId} {args : Array Value} {below : List Frame} {meth : Method} {c : Code} {D : va_G} {A : Nat → Prop}
set_option maxHeartbeats 4000000 in
set_option maxRecDepth 100000 in
theorem s_X1_placeAfter_15 {K : tK} (C : tc_B p l s m args meth c D K A wz_X1_placeAfter RX1 cX1_placeAfter 3) (hr : meth.sig.returnType = (some .int)) (hll : l.stackTraces = false)  (post : Int32 → tG → Prop) : ∀ (u0 : Int32) (G : tG) (H : Heap) (locs : List Loc) (ls : Array Slot), tg_W D A s H G → va_S A s.heap H locs → tl ls 3 [] → w_X1_placeAfter_15 K post u0 G → W p l e ({ frames := 0, cells := 0, slots := 0, locals := 0 } : Room) s m args below meth c H locs 0 0 (MQ below (tc_Qc D A (retI post)) args s 0 0 A) (F0 m 15 ls [.int u0]) := by
  intro u0 G H locs ls hW hS hl hw
  unfold w_X1_placeAfter_15 at hw
  exact tr_iret C hr dX1_placeAfter_15 (Nat.le_of_ble_eq_true rfl) (Nat.le_of_ble_eq_true rfl) hW hS hw
set_option maxHeartbeats 4000000 in
set_option maxRecDepth 100000 in
theorem s_X1_placeAfter {K : tK} (C : tc_B p l s m args meth c D K A wz_X1_placeAfter RX1 cX1_placeAfter 3) (hr : meth.sig.returnType = (some .int)) (hll : l.stackTraces = false)  (post : Int32 → tG → Prop) (v0 : Int32) (v1 : Int32) (v2 : Int32) : ∀ (G : tG) (H : Heap) (locs : List Loc) (ls : Array Slot), tg_W D A s H G → va_S A s.heap H locs → tl ls 3 [(0, .inl v0), (1, .inl v1), (2, .inl v2)] → w_X1_placeAfter K post v0 v1 v2 G → W p l e ({ frames := 0, cells := 0, slots := 0, locals := 0 } : Room) s m args below meth c H locs 0 0 (MQ below (tc_Qc D A (retI post)) args s 0 0 A) (F0 m 0 ls []) := by
  intro G H locs ls hW hS hl hw
  unfold w_X1_placeAfter at hw
  refine tr_iload_n (k := 2) (x := v2) C hl 2 rfl dX1_placeAfter_0 ?_
  refine lv_if_eq (tgt := 12) C.1.1 C.1.2.1 dX1_placeAfter_1 (by decide) (fun hc => ?_) (fun hc => ?_)
  · have hw := hw.1 hc
    refine tr_iload_n (k := 0) (x := v0) C hl 0 rfl dX1_placeAfter_12 ?_
    refine tr_iload_n (k := 1) (x := v1) C hl 1 rfl dX1_placeAfter_13 ?_
    refine lv_iadd C.1.1 C.1.2.1 dX1_placeAfter_14 ?_
    exact s_X1_placeAfter_15 C hr hll post ((v0 + v1)) _ _ _ _ hW hS (tl_sub hl [] rfl) hw
  · have hw := hw.2 hc
    refine tr_iload_n (k := 0) (x := v0) C hl 0 rfl dX1_placeAfter_4 ?_
    refine lv_iconst (v := (1 : Int32)) C.1.1 C.1.2.1 dX1_placeAfter_5 (by decide) ?_
    refine lv_isub C.1.1 C.1.2.1 dX1_placeAfter_6 ?_
    refine tr_iload_n (k := 1) (x := v1) C hl 1 rfl dX1_placeAfter_7 ?_
    refine lv_isub C.1.1 C.1.2.1 dX1_placeAfter_8 ?_
    refine lv_goto (tgt := 15) C.1.1 C.1.2.1 dX1_placeAfter_9 (by decide) ?_
    exact s_X1_placeAfter_15 C hr hll post (((v0 - (1 : Int32)) - v1)) _ _ _ _ hW hS (tl_sub hl [] rfl) hw
end Z_X1_placeAfter
set_option maxHeartbeats 4000000 in
set_option maxRecDepth 100000 in
theorem c_X1_placeAfter (l : Launch) (hll : l.stackTraces = false) (K : tK) (post : Int32 → tG → Prop) (v0 : Int32) (v1 : Int32) (v2 : Int32) : Ct l yX1_placeAfter wz_X1_placeAfter ({ frames := 0, cells := 0, slots := 0, locals := 0 } : Room) 0 0 [.int v0, .int v1, .int v2] K (retI post) (fun G => w_X1_placeAfter K post v0 v1 v2 G) := by
  refine tc_of (cc := cX1_placeAfter) (maxL := 3) (ret := (some .int)) (own := RX1) (plainFor_of_name (by decide)) rfl rfl hll [.inl v0, .inl v1, .inl v2] rfl (Nat.le_of_ble_eq_true rfl) ?_
  intro p e s m args below meth c D A G ls C hr hn ht hl hW hS hw
  exact s_X1_placeAfter C hr hll post v0 v1 v2 _ _ _ _ hW hS hl hw

/-! X1_isSameBothWays -/
def wz_X1_isSameBothWays : List Cond := Cond.code yX1_isSameBothWays cX1_isSameBothWays 4 (some .boolean) :: w0
section Z_X1_isSameBothWays
variable {p : Program} {l : Launch} {e : Env} {s : State} {m : MethodId} {args : Array Value} {below : List Frame} {meth : Method} {c : Code} {D : va_G} {A : Nat → Prop}
set_option maxHeartbeats 4000000 in
set_option maxRecDepth 100000 in
theorem s_X1_isSameBothWays_2_b {K : tK} (C : tc_B p l s m args meth c D K A wz_X1_isSameBothWays RX1 cX1_isSameBothWays 4) (hr : meth.sig.returnType = (some .boolean)) (hll : l.stackTraces = false)  (post : Int32 → tG → Prop) (k2 : Option Nat → Int32 → tG → Prop) (hk2 : ∀ (v0 : Option Nat) (v1 : Int32) (G : tG) (H : Heap) (locs : List Loc) (ls : Array Slot), tg_W D A s H G → va_S A s.heap H locs → tl ls 4 [(0, .inr (.inr v0)), (1, .inl v1)] → k2 v0 v1 G → W p l e ({ frames := 1, cells := 0, slots := 0, locals := 22 } : Room) s m args below meth c H locs 0 0 (MQ below (tc_Qc D A (retI post)) args s 0 0 A) (F0 m 2 ls [])) : ∀ (v0 : Option Nat) (v1 : Int32) (G : tG) (H : Heap) (locs : List Loc) (ls : Array Slot), tg_W D A s H G → va_S A s.heap H locs → tl ls 4 [(0, .inr (.inr v0)), (1, .inl v1)] → w_X1_isSameBothWays_2_b K post k2 v0 v1 G → W p l e ({ frames := 1, cells := 0, slots := 0, locals := 22 } : Room) s m args below meth c H locs 0 0 (MQ below (tc_Qc D A (retI post)) args s 0 0 A) (F0 m 2 ls []) := by
  intro v0 v1 G H locs ls hW hS hl hw
  unfold w_X1_isSameBothWays_2_b at hw
  refine tr_iload_n (k := 1) (x := v1) C hl 1 rfl dX1_isSameBothWays_2 ?_
  refine tr_aload_n (k := 0) (x := v0) C hl 0 rfl dX1_isSameBothWays_3 ?_
  refine tr_gfI (C0 := RX0) (T := TX0) (N := 4) (ci := 2) (ref := "Twinrow$RowList") (k := 3) (r := v0) C (zh hw_X0) rfl (by decide) (zm kw_34) rfl dX1_isSameBothWays_4 hW hw (fun x_4 hw => ?_)
  refine lv_icmp_ge (tgt := 55) C.1.1 C.1.2.1 dX1_isSameBothWays_7 (by decide) (fun hc => ?_) (fun hc => ?_)
  · have hw := hw.1 hc
    refine lv_iconst (v := (1 : Int32)) C.1.1 C.1.2.1 dX1_isSameBothWays_55 (by decide) ?_
    exact tr_zret C hr dX1_isSameBothWays_56 (Nat.le_of_ble_eq_true rfl) (Nat.le_of_ble_eq_true rfl) hW hS hw
  · have hw := hw.2 hc
    refine lv_iconst (v := (0 : Int32)) C.1.1 C.1.2.1 dX1_isSameBothWays_10 (by decide) ?_
    refine tr_iload_n (k := 1) (x := v1) C hl 1 rfl dX1_isSameBothWays_11 ?_
    refine lv_iconst (v := (0 : Int32)) C.1.1 C.1.2.1 dX1_isSameBothWays_12 (by decide) ?_
    refine tr_backI (tr_runS (As := [.int ((0 : Int32)), .int v1, .int ((0 : Int32))]) C hl.1 (c_X1_placeAfter l hll K _ ((0 : Int32)) v1 ((0 : Int32))) (va_cwS 3 C.1.2.2.2.2 (gi_S (zm kw_51) (zm kw_52) (zm kw_33) (zm kw_50)) rfl rfl rfl (by decide +kernel) ⟨(Nat.le_of_ble_eq_true rfl), (Nat.le_of_ble_eq_true rfl)⟩) rfl dX1_isSameBothWays_13 ⟨(Nat.le_of_ble_eq_true rfl), (Nat.le_of_ble_eq_true rfl)⟩ [] rfl (Nat.le_of_ble_eq_true rfl) rfl hW hS hw) hS (fun x_13 G_13 H locs hw hW hS => ?_)
    refine tr_istore_n (k := 2) (x := x_13) C hl [(2, .inl x_13), (0, .inr (.inr v0)), (1, .inl v1)] (by decide) rfl dX1_isSameBothWays_16 (fun ls hl => ?_)
    refine tr_aload_n (k := 0) (x := v0) C hl 1 rfl dX1_isSameBothWays_17 ?_
    refine tr_gfI (C0 := RX0) (T := TX0) (N := 4) (ci := 2) (ref := "Twinrow$RowList") (k := 3) (r := v0) C (zh hw_X0) rfl (by decide) (zm kw_34) rfl dX1_isSameBothWays_18 hW hw (fun x_18 hw => ?_)
    refine tr_aload_n (k := 0) (x := v0) C hl 1 rfl dX1_isSameBothWays_21 ?_
    refine tr_gfI (C0 := RX0) (T := TX0) (N := 4) (ci := 2) (ref := "Twinrow$RowList") (k := 3) (r := v0) C (zh hw_X0) rfl (by decide) (zm kw_34) rfl dX1_isSameBothWays_22 hW hw (fun x_22 hw => ?_)
    refine lv_iconst (v := (1 : Int32)) C.1.1 C.1.2.1 dX1_isSameBothWays_25 (by decide) ?_
    refine lv_isub C.1.1 C.1.2.1 dX1_isSameBothWays_26 ?_
    refine tr_iload_n (k := 1) (x := v1) C hl 2 rfl dX1_isSameBothWays_27 ?_
    refine lv_isub C.1.1 C.1.2.1 dX1_isSameBothWays_28 ?_
    refine lv_iconst (v := (1 : Int32)) C.1.1 C.1.2.1 dX1_isSameBothWays_29 (by decide) ?_
    refine tr_backI (tr_runS (As := [.int x_18, .int (((x_22 - (1 : Int32)) - v1)), .int ((1 : Int32))]) C hl.1 (c_X1_placeAfter l hll K _ x_18 (((x_22 - (1 : Int32)) - v1)) ((1 : Int32))) (va_cwS 3 C.1.2.2.2.2 (gi_S (zm kw_51) (zm kw_52) (zm kw_33) (zm kw_50)) rfl rfl rfl (by decide +kernel) ⟨(Nat.le_of_ble_eq_true rfl), (Nat.le_of_ble_eq_true rfl)⟩) rfl dX1_isSameBothWays_30 ⟨(Nat.le_of_ble_eq_true rfl), (Nat.le_of_ble_eq_true rfl)⟩ [] rfl (Nat.le_of_ble_eq_true rfl) rfl hW hS hw) hS (fun x_30 G_30 H locs hw hW hS => ?_)
    refine tr_istore_n (k := 3) (x := x_30) C hl [(3, .inl x_30), (2, .inl x_13), (0, .inr (.inr v0)), (1, .inl v1)] (by decide) rfl dX1_isSameBothWays_33 (fun ls hl => ?_)
    refine tr_aload_n (k := 0) (x := v0) C hl 2 rfl dX1_isSameBothWays_34 ?_
    refine tr_iload_n (k := 2) (x := x_13) C hl 1 rfl dX1_isSameBothWays_35 ?_
    refine tr_backI (tr_runV (r := v0) (As := [.int x_13]) C hl.1 (c_X0_read l hll K _ v0 x_13) (cwV 1 C.1.2.2.2.2 (gi_V (zm kw_27) (zm kw_28) (zm kw_29) (zm kw_10) (zm kw_26)) rfl rfl rfl (by decide +kernel) ⟨(Nat.le_of_ble_eq_true rfl), (Nat.le_of_ble_eq_true rfl)⟩) rfl rfl dX1_isSameBothWays_36 ⟨(Nat.le_of_ble_eq_true rfl), (Nat.le_of_ble_eq_true rfl)⟩ [] rfl (Nat.le_of_ble_eq_true rfl) rfl hW hS hw) hS (fun x_36 G_36 H locs hw hW hS => ?_)
    refine tr_aload_n (k := 0) (x := v0) C hl 2 rfl dX1_isSameBothWays_39 ?_
    refine tr_iload_n (k := 3) (x := x_30) C hl 0 rfl dX1_isSameBothWays_40 ?_
    refine tr_backI (tr_runV (r := v0) (As := [.int x_30]) C hl.1 (c_X0_read l hll K _ v0 x_30) (cwV 1 C.1.2.2.2.2 (gi_V (zm kw_27) (zm kw_28) (zm kw_29) (zm kw_10) (zm kw_26)) rfl rfl rfl (by decide +kernel) ⟨(Nat.le_of_ble_eq_true rfl), (Nat.le_of_ble_eq_true rfl)⟩) rfl rfl dX1_isSameBothWays_41 ⟨(Nat.le_of_ble_eq_true rfl), (Nat.le_of_ble_eq_true rfl)⟩ [.inl x_36] rfl (Nat.le_of_ble_eq_true rfl) rfl hW hS hw) hS (fun x_41 G_41 H locs hw hW hS => ?_)
    refine lv_icmp_eq (tgt := 49) C.1.1 C.1.2.1 dX1_isSameBothWays_44 (by decide) (fun hc => ?_) (fun hc => ?_)
    · have hw := hw.1 hc
      refine tr_iinc C hl 3 (v1 + (1 : Int32)) [(1, .inl (v1 + (1 : Int32))), (3, .inl x_30), (2, .inl x_13), (0, .inr (.inr v0))] rfl rfl (by decide) rfl dX1_isSameBothWays_49 (fun ls hl => ?_)
      refine lv_goto (tgt := 2) C.1.1 C.1.2.1 dX1_isSameBothWays_52 (by decide) ?_
      exact hk2 v0 ((v1 + (1 : Int32))) _ _ _ _ hW hS (tl_sub hl [3, 0] rfl) hw
    · have hw := hw.2 hc
      refine lv_iconst (v := (0 : Int32)) C.1.1 C.1.2.1 dX1_isSameBothWays_47 (by decide) ?_
      exact tr_zret C hr dX1_isSameBothWays_48 (Nat.le_of_ble_eq_true rfl) (Nat.le_of_ble_eq_true rfl) hW hS hw
set_option maxHeartbeats 4000000 in
set_option maxRecDepth 100000 in
theorem s_X1_isSameBothWays_2 {K : tK} (C : tc_B p l s m args meth c D K A wz_X1_isSameBothWays RX1 cX1_isSameBothWays 4) (hr : meth.sig.returnType = (some .boolean)) (hll : l.stackTraces = false)  (post : Int32 → tG → Prop) : ∀ (n : Nat) (v0 : Option Nat) (v1 : Int32) (G : tG) (H : Heap) (locs : List Loc) (ls : Array Slot), tg_W D A s H G → va_S A s.heap H locs → tl ls 4 [(0, .inr (.inr v0)), (1, .inl v1)] → w_X1_isSameBothWays_2 K post n v0 v1 G → W p l e ({ frames := 1, cells := 0, slots := 0, locals := 22 } : Room) s m args below meth c H locs 0 0 (MQ below (tc_Qc D A (retI post)) args s 0 0 A) (F0 m 2 ls []) := by
  intro n
  induction n with
  | zero =>
    intro v0 v1 G H locs ls hW hS hl hw
    exact hw.elim
  | succ n ih => exact s_X1_isSameBothWays_2_b C hr hll post _ ih
set_option maxHeartbeats 4000000 in
set_option maxRecDepth 100000 in
theorem s_X1_isSameBothWays {K : tK} (C : tc_B p l s m args meth c D K A wz_X1_isSameBothWays RX1 cX1_isSameBothWays 4) (hr : meth.sig.returnType = (some .boolean)) (hll : l.stackTraces = false)  (post : Int32 → tG → Prop) (v0 : Option Nat) : ∀ (G : tG) (H : Heap) (locs : List Loc) (ls : Array Slot), tg_W D A s H G → va_S A s.heap H locs → tl ls 4 [(0, .inr (.inr v0))] → w_X1_isSameBothWays K post v0 G → W p l e ({ frames := 1, cells := 0, slots := 0, locals := 22 } : Room) s m args below meth c H locs 0 0 (MQ below (tc_Qc D A (retI post)) args s 0 0 A) (F0 m 0 ls []) := by
  intro G H locs ls hW hS hl hw
  unfold w_X1_isSameBothWays at hw
  refine lv_iconst (v := (0 : Int32)) C.1.1 C.1.2.1 dX1_isSameBothWays_0 (by decide) ?_
  refine tr_istore_n (k := 1) (x := (0 : Int32)) C hl [(1, .inl (0 : Int32)), (0, .inr (.inr v0))] (by decide) rfl dX1_isSameBothWays_1 (fun ls hl => ?_)
  obtain ⟨n2, hw⟩ := hw
  exact s_X1_isSameBothWays_2 C hr hll post n2 v0 ((0 : Int32)) _ _ _ _ hW hS (tl_sub hl [1, 0] rfl) hw
end Z_X1_isSameBothWays
set_option maxHeartbeats 4000000 in
set_option maxRecDepth 100000 in
theorem c_X1_isSameBothWays (l : Launch) (hll : l.stackTraces = false) (K : tK) (post : Int32 → tG → Prop) (v0 : Option Nat) : Ct l yX1_isSameBothWays wz_X1_isSameBothWays ({ frames := 1, cells := 0, slots := 0, locals := 22 } : Room) 0 0 [va_rf v0] K (retI post) (fun G => w_X1_isSameBothWays K post v0 G) := by
  refine tc_of (cc := cX1_isSameBothWays) (maxL := 4) (ret := (some .boolean)) (own := RX1) (plainFor_of_name (by decide)) rfl rfl hll [.inr (.inr v0)] rfl (Nat.le_of_ble_eq_true rfl) ?_
  intro p e s m args below meth c D A G ls C hr hn ht hl hW hS hw
  exact s_X1_isSameBothWays C hr hll post v0 _ _ _ _ hW hS hl hw

/-! X1_firstPlace -/
def wz_X1_firstPlace : List Cond := Cond.code yX1_firstPlace cX1_firstPlace 3 (some .int) :: w0
section Z_X1_firstPlace
variable {p : Program} {l : Launch} {e : Env} {s : State} {m : MethodId} {args : Array Value} {below : List Frame} {meth : Method} {c : Code} {D : va_G} {A : Nat → Prop}
set_option maxHeartbeats 4000000 in
set_option maxRecDepth 100000 in
theorem s_X1_firstPlace_2_b {K : tK} (C : tc_B p l s m args meth c D K A wz_X1_firstPlace RX1 cX1_firstPlace 3) (hr : meth.sig.returnType = (some .int)) (hll : l.stackTraces = false)  (post : Int32 → tG → Prop) (k2 : Option Nat → Int32 → Int32 → tG → Prop) (hk2 : ∀ (v0 : Option Nat) (v1 : Int32) (v2 : Int32) (G : tG) (H : Heap) (locs : List Loc) (ls : Array Slot), tg_W D A s H G → va_S A s.heap H locs → tl ls 3 [(0, .inr (.inr v0)), (1, .inl v1), (2, .inl v2)] → k2 v0 v1 v2 G → W p l e ({ frames := 1, cells := 0, slots := 0, locals := 22 } : Room) s m args below meth c H locs 0 0 (MQ below (tc_Qc D A (retI post)) args s 0 0 A) (F0 m 2 ls [])) : ∀ (v0 : Option Nat) (v1 : Int32) (v2 : Int32) (G : tG) (H : Heap) (locs : List Loc) (ls : Array Slot), tg_W D A s H G → va_S A s.heap H locs → tl ls 3 [(0, .inr (.inr v0)), (1, .inl v1), (2, .inl v2)] → w_X1_firstPlace_2_b K post k2 v0 v1 v2 G → W p l e ({ frames := 1, cells := 0, slots := 0, locals := 22 } : Room) s m args below meth c H locs 0 0 (MQ below (tc_Qc D A (retI post)) args s 0 0 A) (F0 m 2 ls []) := by
  intro v0 v1 v2 G H locs ls hW hS hl hw
  unfold w_X1_firstPlace_2_b at hw
  refine tr_iload_n (k := 2) (x := v2) C hl 2 rfl dX1_firstPlace_2 ?_
  refine tr_aload_n (k := 0) (x := v0) C hl 0 rfl dX1_firstPlace_3 ?_
  refine tr_gfI (C0 := RX0) (T := TX0) (N := 4) (ci := 2) (ref := "Twinrow$RowList") (k := 3) (r := v0) C (zh hw_X0) rfl (by decide) (zm kw_34) rfl dX1_firstPlace_4 hW hw (fun x_4 hw => ?_)
  refine lv_icmp_ge (tgt := 27) C.1.1 C.1.2.1 dX1_firstPlace_7 (by decide) (fun hc => ?_) (fun hc => ?_)
  · have hw := hw.1 hc
    refine lv_iconst (v := (-1 : Int32)) C.1.1 C.1.2.1 dX1_firstPlace_27 (by decide) ?_
    exact tr_iret C hr dX1_firstPlace_28 (Nat.le_of_ble_eq_true rfl) (Nat.le_of_ble_eq_true rfl) hW hS hw
  · have hw := hw.2 hc
    refine tr_aload_n (k := 0) (x := v0) C hl 0 rfl dX1_firstPlace_10 ?_
    refine tr_iload_n (k := 2) (x := v2) C hl 2 rfl dX1_firstPlace_11 ?_
    refine tr_backI (tr_runV (r := v0) (As := [.int v2]) C hl.1 (c_X0_read l hll K _ v0 v2) (cwV 1 C.1.2.2.2.2 (gi_V (zm kw_27) (zm kw_28) (zm kw_29) (zm kw_10) (zm kw_26)) rfl rfl rfl (by decide +kernel) ⟨(Nat.le_of_ble_eq_true rfl), (Nat.le_of_ble_eq_true rfl)⟩) rfl rfl dX1_firstPlace_12 ⟨(Nat.le_of_ble_eq_true rfl), (Nat.le_of_ble_eq_true rfl)⟩ [] rfl (Nat.le_of_ble_eq_true rfl) rfl hW hS hw) hS (fun x_12 G_12 H locs hw hW hS => ?_)
    refine tr_iload_n (k := 1) (x := v1) C hl 1 rfl dX1_firstPlace_15 ?_
    refine lv_icmp_ne (tgt := 21) C.1.1 C.1.2.1 dX1_firstPlace_16 (by decide) (fun hc => ?_) (fun hc => ?_)
    · have hw := hw.1 hc
      refine tr_iinc C hl 2 (v2 + (1 : Int32)) [(2, .inl (v2 + (1 : Int32))), (0, .inr (.inr v0)), (1, .inl v1)] rfl rfl (by decide) rfl dX1_firstPlace_21 (fun ls hl => ?_)
      refine lv_goto (tgt := 2) C.1.1 C.1.2.1 dX1_firstPlace_24 (by decide) ?_
      exact hk2 v0 v1 ((v2 + (1 : Int32))) _ _ _ _ hW hS (tl_sub hl [1, 2, 0] rfl) hw
    · have hw := hw.2 hc
      refine tr_iload_n (k := 2) (x := v2) C hl 2 rfl dX1_firstPlace_19 ?_
      exact tr_iret C hr dX1_firstPlace_20 (Nat.le_of_ble_eq_true rfl) (Nat.le_of_ble_eq_true rfl) hW hS hw
set_option maxHeartbeats 4000000 in
set_option maxRecDepth 100000 in
theorem s_X1_firstPlace_2 {K : tK} (C : tc_B p l s m args meth c D K A wz_X1_firstPlace RX1 cX1_firstPlace 3) (hr : meth.sig.returnType = (some .int)) (hll : l.stackTraces = false)  (post : Int32 → tG → Prop) : ∀ (n : Nat) (v0 : Option Nat) (v1 : Int32) (v2 : Int32) (G : tG) (H : Heap) (locs : List Loc) (ls : Array Slot), tg_W D A s H G → va_S A s.heap H locs → tl ls 3 [(0, .inr (.inr v0)), (1, .inl v1), (2, .inl v2)] → w_X1_firstPlace_2 K post n v0 v1 v2 G → W p l e ({ frames := 1, cells := 0, slots := 0, locals := 22 } : Room) s m args below meth c H locs 0 0 (MQ below (tc_Qc D A (retI post)) args s 0 0 A) (F0 m 2 ls []) := by
  intro n
  induction n with
  | zero =>
    intro v0 v1 v2 G H locs ls hW hS hl hw
    exact hw.elim
  | succ n ih => exact s_X1_firstPlace_2_b C hr hll post _ ih
set_option maxHeartbeats 4000000 in
set_option maxRecDepth 100000 in
theorem s_X1_firstPlace {K : tK} (C : tc_B p l s m args meth c D K A wz_X1_firstPlace RX1 cX1_firstPlace 3) (hr : meth.sig.returnType = (some .int)) (hll : l.stackTraces = false)  (post : Int32 → tG → Prop) (v0 : Option Nat) (v1 : Int32) : ∀ (G : tG) (H : Heap) (locs : List Loc) (ls : Array Slot), tg_W D A s H G → va_S A s.heap H locs → tl ls 3 [(0, .inr (.inr v0)), (1, .inl v1)] → w_X1_firstPlace K post v0 v1 G → W p l e ({ frames := 1, cells := 0, slots := 0, locals := 22 } : Room) s m args below meth c H locs 0 0 (MQ below (tc_Qc D A (retI post)) args s 0 0 A) (F0 m 0 ls []) := by
  intro G H locs ls hW hS hl hw
  unfold w_X1_firstPlace at hw
  refine lv_iconst (v := (0 : Int32)) C.1.1 C.1.2.1 dX1_firstPlace_0 (by decide) ?_
  refine tr_istore_n (k := 2) (x := (0 : Int32)) C hl [(2, .inl (0 : Int32)), (0, .inr (.inr v0)), (1, .inl v1)] (by decide) rfl dX1_firstPlace_1 (fun ls hl => ?_)
  obtain ⟨n2, hw⟩ := hw
  exact s_X1_firstPlace_2 C hr hll post n2 v0 v1 ((0 : Int32)) _ _ _ _ hW hS (tl_sub hl [1, 2, 0] rfl) hw
end Z_X1_firstPlace
set_option maxHeartbeats 4000000 in
set_option maxRecDepth 100000 in
theorem c_X1_firstPlace (l : Launch) (hll : l.stackTraces = false) (K : tK) (post : Int32 → tG → Prop) (v0 : Option Nat) (v1 : Int32) : Ct l yX1_firstPlace wz_X1_firstPlace ({ frames := 1, cells := 0, slots := 0, locals := 22 } : Room) 0 0 [va_rf v0, .int v1] K (retI post) (fun G => w_X1_firstPlace K post v0 v1 G) := by
  refine tc_of (cc := cX1_firstPlace) (maxL := 3) (ret := (some .int)) (own := RX1) (plainFor_of_name (by decide)) rfl rfl hll [.inr (.inr v0), .inl v1] rfl (Nat.le_of_ble_eq_true rfl) ?_
  intro p e s m args below meth c D A G ls C hr hn ht hl hW hS hw
  exact s_X1_firstPlace C hr hll post v0 v1 _ _ _ _ hW hS hl hw

/-! X1_lastPlace -/
def wz_X1_lastPlace : List Cond := Cond.code yX1_lastPlace cX1_lastPlace 3 (some .int) :: w0
section Z_X1_lastPlace
variable {p : Program} {l : Launch} {e : Env} {s : State} {m : MethodId} {args : Array Value} {below : List Frame} {meth : Method} {c : Code} {D : va_G} {A : Nat → Prop}
set_option maxHeartbeats 4000000 in
set_option maxRecDepth 100000 in
theorem s_X1_lastPlace_7_b {K : tK} (C : tc_B p l s m args meth c D K A wz_X1_lastPlace RX1 cX1_lastPlace 3) (hr : meth.sig.returnType = (some .int)) (hll : l.stackTraces = false)  (post : Int32 → tG → Prop) (k7 : Option Nat → Int32 → Int32 → tG → Prop) (hk7 : ∀ (v0 : Option Nat) (v1 : Int32) (v2 : Int32) (G : tG) (H : Heap) (locs : List Loc) (ls : Array Slot), tg_W D A s H G → va_S A s.heap H locs → tl ls 3 [(0, .inr (.inr v0)), (1, .inl v1), (2, .inl v2)] → k7 v0 v1 v2 G → W p l e ({ frames := 1, cells := 0, slots := 0, locals := 22 } : Room) s m args below meth c H locs 0 0 (MQ below (tc_Qc D A (retI post)) args s 0 0 A) (F0 m 7 ls [])) : ∀ (v0 : Option Nat) (v1 : Int32) (v2 : Int32) (G : tG) (H : Heap) (locs : List Loc) (ls : Array Slot), tg_W D A s H G → va_S A s.heap H locs → tl ls 3 [(0, .inr (.inr v0)), (1, .inl v1), (2, .inl v2)] → w_X1_lastPlace_7_b K post k7 v0 v1 v2 G → W p l e ({ frames := 1, cells := 0, slots := 0, locals := 22 } : Room) s m args below meth c H locs 0 0 (MQ below (tc_Qc D A (retI post)) args s 0 0 A) (F0 m 7 ls []) := by
  intro v0 v1 v2 G H locs ls hW hS hl hw
  unfold w_X1_lastPlace_7_b at hw
  refine tr_iload_n (k := 2) (x := v2) C hl 2 rfl dX1_lastPlace_7 ?_
  refine lv_if_lt (tgt := 28) C.1.1 C.1.2.1 dX1_lastPlace_8 (by decide) (fun hc => ?_) (fun hc => ?_)
  · have hw := hw.1 hc
    refine lv_iconst (v := (-1 : Int32)) C.1.1 C.1.2.1 dX1_lastPlace_28 (by decide) ?_
    exact tr_iret C hr dX1_lastPlace_29 (Nat.le_of_ble_eq_true rfl) (Nat.le_of_ble_eq_true rfl) hW hS hw
  · have hw := hw.2 hc
    refine tr_aload_n (k := 0) (x := v0) C hl 0 rfl dX1_lastPlace_11 ?_
    refine tr_iload_n (k := 2) (x := v2) C hl 2 rfl dX1_lastPlace_12 ?_
    refine tr_backI (tr_runV (r := v0) (As := [.int v2]) C hl.1 (c_X0_read l hll K _ v0 v2) (cwV 1 C.1.2.2.2.2 (gi_V (zm kw_27) (zm kw_28) (zm kw_29) (zm kw_10) (zm kw_26)) rfl rfl rfl (by decide +kernel) ⟨(Nat.le_of_ble_eq_true rfl), (Nat.le_of_ble_eq_true rfl)⟩) rfl rfl dX1_lastPlace_13 ⟨(Nat.le_of_ble_eq_true rfl), (Nat.le_of_ble_eq_true rfl)⟩ [] rfl (Nat.le_of_ble_eq_true rfl) rfl hW hS hw) hS (fun x_13 G_13 H locs hw hW hS => ?_)
    refine tr_iload_n (k := 1) (x := v1) C hl 1 rfl dX1_lastPlace_16 ?_
    refine lv_icmp_ne (tgt := 22) C.1.1 C.1.2.1 dX1_lastPlace_17 (by decide) (fun hc => ?_) (fun hc => ?_)
    · have hw := hw.1 hc
      refine tr_iinc C hl 2 (v2 + (-1 : Int32)) [(2, .inl (v2 + (-1 : Int32))), (0, .inr (.inr v0)), (1, .inl v1)] rfl (congrArg (fun z => v2 + z) (show Int32.ofInt (-1) = (-1 : Int32) by decide)) (by decide) rfl dX1_lastPlace_22 (fun ls hl => ?_)
      refine lv_goto (tgt := 7) C.1.1 C.1.2.1 dX1_lastPlace_25 (by decide) ?_
      exact hk7 v0 v1 ((v2 + (-1 : Int32))) _ _ _ _ hW hS (tl_sub hl [1, 2, 0] rfl) hw
    · have hw := hw.2 hc
      refine tr_iload_n (k := 2) (x := v2) C hl 2 rfl dX1_lastPlace_20 ?_
      exact tr_iret C hr dX1_lastPlace_21 (Nat.le_of_ble_eq_true rfl) (Nat.le_of_ble_eq_true rfl) hW hS hw
set_option maxHeartbeats 4000000 in
set_option maxRecDepth 100000 in
theorem s_X1_lastPlace_7 {K : tK} (C : tc_B p l s m args meth c D K A wz_X1_lastPlace RX1 cX1_lastPlace 3) (hr : meth.sig.returnType = (some .int)) (hll : l.stackTraces = false)  (post : Int32 → tG → Prop) : ∀ (n : Nat) (v0 : Option Nat) (v1 : Int32) (v2 : Int32) (G : tG) (H : Heap) (locs : List Loc) (ls : Array Slot), tg_W D A s H G → va_S A s.heap H locs → tl ls 3 [(0, .inr (.inr v0)), (1, .inl v1), (2, .inl v2)] → w_X1_lastPlace_7 K post n v0 v1 v2 G → W p l e ({ frames := 1, cells := 0, slots := 0, locals := 22 } : Room) s m args below meth c H locs 0 0 (MQ below (tc_Qc D A (retI post)) args s 0 0 A) (F0 m 7 ls []) := by
  intro n
  induction n with
  | zero =>
    intro v0 v1 v2 G H locs ls hW hS hl hw
    exact hw.elim
  | succ n ih => exact s_X1_lastPlace_7_b C hr hll post _ ih
set_option maxHeartbeats 4000000 in
set_option maxRecDepth 100000 in
theorem s_X1_lastPlace {K : tK} (C : tc_B p l s m args meth c D K A wz_X1_lastPlace RX1 cX1_lastPlace 3) (hr : meth.sig.returnType = (some .int)) (hll : l.stackTraces = false)  (post : Int32 → tG → Prop) (v0 : Option Nat) (v1 : Int32) : ∀ (G : tG) (H : Heap) (locs : List Loc) (ls : Array Slot), tg_W D A s H G → va_S A s.heap H locs → tl ls 3 [(0, .inr (.inr v0)), (1, .inl v1)] → w_X1_lastPlace K post v0 v1 G → W p l e ({ frames := 1, cells := 0, slots := 0, locals := 22 } : Room) s m args below meth c H locs 0 0 (MQ below (tc_Qc D A (retI post)) args s 0 0 A) (F0 m 0 ls []) := by
  intro G H locs ls hW hS hl hw
  unfold w_X1_lastPlace at hw
  refine tr_aload_n (k := 0) (x := v0) C hl 0 rfl dX1_lastPlace_0 ?_
  refine tr_gfI (C0 := RX0) (T := TX0) (N := 4) (ci := 2) (ref := "Twinrow$RowList") (k := 3) (r := v0) C (zh hw_X0) rfl (by decide) (zm kw_34) rfl dX1_lastPlace_1 hW hw (fun x_1 hw => ?_)
  refine lv_iconst (v := (1 : Int32)) C.1.1 C.1.2.1 dX1_lastPlace_4 (by decide) ?_
  refine lv_isub C.1.1 C.1.2.1 dX1_lastPlace_5 ?_
  refine tr_istore_n (k := 2) (x := (x_1 - (1 : Int32))) C hl [(2, .inl (x_1 - (1 : Int32))), (0, .inr (.inr v0)), (1, .inl v1)] (by decide) rfl dX1_lastPlace_6 (fun ls hl => ?_)
  obtain ⟨n7, hw⟩ := hw
  exact s_X1_lastPlace_7 C hr hll post n7 v0 v1 ((x_1 - (1 : Int32))) _ _ _ _ hW hS (tl_sub hl [1, 2, 0] rfl) hw
end Z_X1_lastPlace
set_option maxHeartbeats 4000000 in
set_option maxRecDepth 100000 in
theorem c_X1_lastPlace (l : Launch) (hll : l.stackTraces = false) (K : tK) (post : Int32 → tG → Prop) (v0 : Option Nat) (v1 : Int32) : Ct l yX1_lastPlace wz_X1_lastPlace ({ frames := 1, cells := 0, slots := 0, locals := 22 } : Room) 0 0 [va_rf v0, .int v1] K (retI post) (fun G => w_X1_lastPlace K post v0 v1 G) := by
  refine tc_of (cc := cX1_lastPlace) (maxL := 3) (ret := (some .int)) (own := RX1) (plainFor_of_name (by decide)) rfl rfl hll [.inr (.inr v0), .inl v1] rfl (Nat.le_of_ble_eq_true rfl) ?_
  intro p e s m args below meth c D A G ls C hr hn ht hl hW hS hw
  exact s_X1_lastPlace C hr hll post v0 v1 _ _ _ _ hW hS hl hw

/-! X0_isPlace -/
def wz_X0_isPlace : List Cond := Cond.code yX0_isPlace cX0_isPlace 2 (some .boolean) :: w0
section Z_X0_isPlace
variable {p : Program} {l : Launch} {e : Env} {s : State} {m : MethodId} {args : Array Value} {below : List Frame} {meth : Method} {c : Code} {D : va_G} {A : Nat → Prop}
set_option maxHeartbeats 4000000 in
set_option maxRecDepth 100000 in
theorem s_X0_isPlace_17 {K : tK} (C : tc_B p l s m args meth c D K A wz_X0_isPlace RX0 cX0_isPlace 2) (hr : meth.sig.returnType = (some .boolean)) (hll : l.stackTraces = false)  (post : Int32 → tG → Prop) : ∀ (u0 : Int32) (G : tG) (H : Heap) (locs : List Loc) (ls : Array Slot), tg_W D A s H G → va_S A s.heap H locs → tl ls 2 [] → w_X0_isPlace_17 K post u0 G → W p l e ({ frames := 0, cells := 0, slots := 0, locals := 0 } : Room) s m args below meth c H locs 0 0 (MQ below (tc_Qc D A (retI post)) args s 0 0 A) (F0 m 17 ls [.int u0]) := by
  intro u0 G H locs ls hW hS hl hw
  unfold w_X0_isPlace_17 at hw
  exact tr_zret C hr dX0_isPlace_17 (Nat.le_of_ble_eq_true rfl) (Nat.le_of_ble_eq_true rfl) hW hS hw
set_option maxHeartbeats 4000000 in
set_option maxRecDepth 100000 in
theorem s_X0_isPlace_16 {K : tK} (C : tc_B p l s m args meth c D K A wz_X0_isPlace RX0 cX0_isPlace 2) (hr : meth.sig.returnType = (some .boolean)) (hll : l.stackTraces = false)  (post : Int32 → tG → Prop) : ∀ (G : tG) (H : Heap) (locs : List Loc) (ls : Array Slot), tg_W D A s H G → va_S A s.heap H locs → tl ls 2 [] → w_X0_isPlace_16 K post G → W p l e ({ frames := 0, cells := 0, slots := 0, locals := 0 } : Room) s m args below meth c H locs 0 0 (MQ below (tc_Qc D A (retI post)) args s 0 0 A) (F0 m 16 ls []) := by
  intro G H locs ls hW hS hl hw
  unfold w_X0_isPlace_16 at hw
  refine lv_iconst (v := (0 : Int32)) C.1.1 C.1.2.1 dX0_isPlace_16 (by decide) ?_
  exact s_X0_isPlace_17 C hr hll post ((0 : Int32)) _ _ _ _ hW hS (tl_sub hl [] rfl) hw
set_option maxHeartbeats 4000000 in
set_option maxRecDepth 100000 in
theorem s_X0_isPlace {K : tK} (C : tc_B p l s m args meth c D K A wz_X0_isPlace RX0 cX0_isPlace 2) (hr : meth.sig.returnType = (some .boolean)) (hll : l.stackTraces = false)  (post : Int32 → tG → Prop) (v0 : Option Nat) (v1 : Int32) : ∀ (G : tG) (H : Heap) (locs : List Loc) (ls : Array Slot), tg_W D A s H G → va_S A s.heap H locs → tl ls 2 [(0, .inr (.inr v0)), (1, .inl v1)] → w_X0_isPlace K post v0 v1 G → W p l e ({ frames := 0, cells := 0, slots := 0, locals := 0 } : Room) s m args below meth c H locs 0 0 (MQ below (tc_Qc D A (retI post)) args s 0 0 A) (F0 m 0 ls []) := by
  intro G H locs ls hW hS hl hw
  unfold w_X0_isPlace at hw
  refine tr_iload_n (k := 1) (x := v1) C hl 1 rfl dX0_isPlace_0 ?_
  refine lv_if_lt (tgt := 16) C.1.1 C.1.2.1 dX0_isPlace_1 (by decide) (fun hc => ?_) (fun hc => ?_)
  · have hw := hw.1 hc
    exact s_X0_isPlace_16 C hr hll post _ _ _ _ hW hS (tl_sub hl [] rfl) hw
  · have hw := hw.2 hc
    refine tr_iload_n (k := 1) (x := v1) C hl 1 rfl dX0_isPlace_4 ?_
    refine tr_aload_n (k := 0) (x := v0) C hl 0 rfl dX0_isPlace_5 ?_
    refine tr_gfI (C0 := RX0) (T := TX0) (N := 4) (ci := 2) (ref := "Twinrow$RowList") (k := 3) (r := v0) C (zh hw_X0) rfl (by decide) (zm kw_6) rfl dX0_isPlace_6 hW hw (fun x_6 hw => ?_)
    refine lv_icmp_ge (tgt := 16) C.1.1 C.1.2.1 dX0_isPlace_9 (by decide) (fun hc => ?_) (fun hc => ?_)
    · have hw := hw.1 hc
      exact s_X0_isPlace_16 C hr hll post _ _ _ _ hW hS (tl_sub hl [] rfl) hw
    · have hw := hw.2 hc
      refine lv_iconst (v := (1 : Int32)) C.1.1 C.1.2.1 dX0_isPlace_12 (by decide) ?_
      refine lv_goto (tgt := 17) C.1.1 C.1.2.1 dX0_isPlace_13 (by decide) ?_
      exact s_X0_isPlace_17 C hr hll post ((1 : Int32)) _ _ _ _ hW hS (tl_sub hl [] rfl) hw
end Z_X0_isPlace
set_option maxHeartbeats 4000000 in
set_option maxRecDepth 100000 in
theorem c_X0_isPlace (l : Launch) (hll : l.stackTraces = false) (K : tK) (post : Int32 → tG → Prop) (v0 : Option Nat) (v1 : Int32) : Ct l yX0_isPlace wz_X0_isPlace ({ frames := 0, cells := 0, slots := 0, locals := 0 } : Room) 0 0 [va_rf v0, .int v1] K (retI post) (fun G => w_X0_isPlace K post v0 v1 G) := by
  refine tc_of (cc := cX0_isPlace) (maxL := 2) (ret := (some .boolean)) (own := RX0) (plainFor_of_name (by decide)) rfl rfl hll [.inr (.inr v0), .inl v1] rfl (Nat.le_of_ble_eq_true rfl) ?_
  intro p e s m args below meth c D A G ls C hr hn ht hl hW hS hw
  exact s_X0_isPlace C hr hll post v0 v1 _ _ _ _ hW hS hl hw

/-! X1_areFirstsAndLasts -/
def wz_X1_areFirstsAndLasts : List Cond := Cond.code yX1_areFirstsAndLasts cX1_areFirstsAndLasts 5 (some .boolean) :: w0
section Z_X1_areFirstsAndLasts
variable {p : Program} {l : Launch} {e : Env} {s : State} {m : MethodId} {args : Array Value} {below : List Frame} {meth : Method} {c : Code} {D : va_G} {A : Nat → Prop}
set_option maxHeartbeats 4000000 in
set_option maxRecDepth 100000 in
theorem s_X1_areFirstsAndLasts_76 {K : tK} (C : tc_B p l s m args meth c D K A wz_X1_areFirstsAndLasts RX1 cX1_areFirstsAndLasts 5) (hr : meth.sig.returnType = (some .boolean)) (hll : l.stackTraces = false)  (post : Int32 → tG → Prop) : ∀ (G : tG) (H : Heap) (locs : List Loc) (ls : Array Slot), tg_W D A s H G → va_S A s.heap H locs → tl ls 5 [] → w_X1_areFirstsAndLasts_76 K post G → W p l e ({ frames := 2, cells := 0, slots := 0, locals := 44 } : Room) s m args below meth c H locs 0 0 (MQ below (tc_Qc D A (retI post)) args s 0 0 A) (F0 m 76 ls []) := by
  intro G H locs ls hW hS hl hw
  unfold w_X1_areFirstsAndLasts_76 at hw
  refine lv_iconst (v := (0 : Int32)) C.1.1 C.1.2.1 dX1_areFirstsAndLasts_76 (by decide) ?_
  exact tr_zret C hr dX1_areFirstsAndLasts_77 (Nat.le_of_ble_eq_true rfl) (Nat.le_of_ble_eq_true rfl) hW hS hw
set_option maxHeartbeats 4000000 in
set_option maxRecDepth 100000 in
theorem s_X1_areFirstsAndLasts_2_b {K : tK} (C : tc_B p l s m args meth c D K A wz_X1_areFirstsAndLasts RX1 cX1_areFirstsAndLasts 5) (hr : meth.sig.returnType = (some .boolean)) (hll : l.stackTraces = false)  (post : Int32 → tG → Prop) (k2 : Option Nat → Int32 → tG → Prop) (hk2 : ∀ (v0 : Option Nat) (v1 : Int32) (G : tG) (H : Heap) (locs : List Loc) (ls : Array Slot), tg_W D A s H G → va_S A s.heap H locs → tl ls 5 [(0, .inr (.inr v0)), (1, .inl v1)] → k2 v0 v1 G → W p l e ({ frames := 2, cells := 0, slots := 0, locals := 44 } : Room) s m args below meth c H locs 0 0 (MQ below (tc_Qc D A (retI post)) args s 0 0 A) (F0 m 2 ls [])) : ∀ (v0 : Option Nat) (v1 : Int32) (G : tG) (H : Heap) (locs : List Loc) (ls : Array Slot), tg_W D A s H G → va_S A s.heap H locs → tl ls 5 [(0, .inr (.inr v0)), (1, .inl v1)] → w_X1_areFirstsAndLasts_2_b K post k2 v0 v1 G → W p l e ({ frames := 2, cells := 0, slots := 0, locals := 44 } : Room) s m args below meth c H locs 0 0 (MQ below (tc_Qc D A (retI post)) args s 0 0 A) (F0 m 2 ls []) := by
  intro v0 v1 G H locs ls hW hS hl hw
  unfold w_X1_areFirstsAndLasts_2_b at hw
  refine tr_iload_n (k := 1) (x := v1) C hl 1 rfl dX1_areFirstsAndLasts_2 ?_
  refine tr_aload_n (k := 0) (x := v0) C hl 0 rfl dX1_areFirstsAndLasts_3 ?_
  refine tr_gfI (C0 := RX0) (T := TX0) (N := 4) (ci := 2) (ref := "Twinrow$RowList") (k := 3) (r := v0) C (zh hw_X0) rfl (by decide) (zm kw_34) rfl dX1_areFirstsAndLasts_4 hW hw (fun x_4 hw => ?_)
  refine lv_icmp_ge (tgt := 84) C.1.1 C.1.2.1 dX1_areFirstsAndLasts_7 (by decide) (fun hc => ?_) (fun hc => ?_)
  · have hw := hw.1 hc
    refine lv_iconst (v := (1 : Int32)) C.1.1 C.1.2.1 dX1_areFirstsAndLasts_84 (by decide) ?_
    exact tr_zret C hr dX1_areFirstsAndLasts_85 (Nat.le_of_ble_eq_true rfl) (Nat.le_of_ble_eq_true rfl) hW hS hw
  · have hw := hw.2 hc
    refine tr_aload_n (k := 0) (x := v0) C hl 0 rfl dX1_areFirstsAndLasts_10 ?_
    refine tr_iload_n (k := 1) (x := v1) C hl 1 rfl dX1_areFirstsAndLasts_11 ?_
    refine tr_backI (tr_runV (r := v0) (As := [.int v1]) C hl.1 (c_X0_read l hll K _ v0 v1) (cwV 1 C.1.2.2.2.2 (gi_V (zm kw_27) (zm kw_28) (zm kw_29) (zm kw_10) (zm kw_26)) rfl rfl rfl (by decide +kernel) ⟨(Nat.le_of_ble_eq_true rfl), (Nat.le_of_ble_eq_true rfl)⟩) rfl rfl dX1_areFirstsAndLasts_12 ⟨(Nat.le_of_ble_eq_true rfl), (Nat.le_of_ble_eq_true rfl)⟩ [] rfl (Nat.le_of_ble_eq_true rfl) rfl hW hS hw) hS (fun x_12 G_12 H locs hw hW hS => ?_)
    refine tr_istore_n (k := 2) (x := x_12) C hl [(2, .inl x_12), (0, .inr (.inr v0)), (1, .inl v1)] (by decide) rfl dX1_areFirstsAndLasts_15 (fun ls hl => ?_)
    refine tr_aload_n (k := 0) (x := v0) C hl 1 rfl dX1_areFirstsAndLasts_16 ?_
    refine tr_iload_n (k := 2) (x := x_12) C hl 0 rfl dX1_areFirstsAndLasts_17 ?_
    refine tr_backI (tr_runS (As := [va_rf v0, .int x_12]) C hl.1 (c_X1_firstPlace l hll K _ v0 x_12) (va_cwS 2 C.1.2.2.2.2 (gi_S (zm kw_54) (zm kw_55) (zm kw_33) (zm kw_53)) rfl rfl rfl (by decide +kernel) ⟨(Nat.le_of_ble_eq_true rfl), (Nat.le_of_ble_eq_true rfl)⟩) rfl dX1_areFirstsAndLasts_18 ⟨(Nat.le_of_ble_eq_true rfl), (Nat.le_of_ble_eq_true rfl)⟩ [] rfl (Nat.le_of_ble_eq_true rfl) rfl hW hS hw) hS (fun x_18 G_18 H locs hw hW hS => ?_)
    refine tr_istore_n (k := 3) (x := x_18) C hl [(3, .inl x_18), (2, .inl x_12), (0, .inr (.inr v0)), (1, .inl v1)] (by decide) rfl dX1_areFirstsAndLasts_21 (fun ls hl => ?_)
    refine tr_aload_n (k := 0) (x := v0) C hl 2 rfl dX1_areFirstsAndLasts_22 ?_
    refine tr_iload_n (k := 2) (x := x_12) C hl 1 rfl dX1_areFirstsAndLasts_23 ?_
    refine tr_backI (tr_runS (As := [va_rf v0, .int x_12]) C hl.1 (c_X1_lastPlace l hll K _ v0 x_12) (va_cwS 2 C.1.2.2.2.2 (gi_S (zm kw_57) (zm kw_58) (zm kw_33) (zm kw_56)) rfl rfl rfl (by decide +kernel) ⟨(Nat.le_of_ble_eq_true rfl), (Nat.le_of_ble_eq_true rfl)⟩) rfl dX1_areFirstsAndLasts_24 ⟨(Nat.le_of_ble_eq_true rfl), (Nat.le_of_ble_eq_true rfl)⟩ [] rfl (Nat.le_of_ble_eq_true rfl) rfl hW hS hw) hS (fun x_24 G_24 H locs hw hW hS => ?_)
    refine tr_istore (x := x_24) C hl [(4, .inl x_24), (3, .inl x_18), (2, .inl x_12), (0, .inr (.inr v0)), (1, .inl v1)] (by decide) rfl dX1_areFirstsAndLasts_27 (fun ls hl => ?_)
    refine tr_aload_n (k := 0) (x := v0) C hl 3 rfl dX1_areFirstsAndLasts_29 ?_
    refine tr_iload_n (k := 3) (x := x_18) C hl 1 rfl dX1_areFirstsAndLasts_30 ?_
    refine tr_backI (tr_runV (r := v0) (As := [.int x_18]) C hl.1 (c_X0_isPlace l hll K _ v0 x_18) (cwV 1 C.1.2.2.2.2 (gi_V (zm kw_60) (zm kw_61) (zm kw_62) (zm kw_10) (zm kw_59)) rfl rfl rfl (by decide +kernel) ⟨(Nat.le_of_ble_eq_true rfl), (Nat.le_of_ble_eq_true rfl)⟩) rfl rfl dX1_areFirstsAndLasts_31 ⟨(Nat.le_of_ble_eq_true rfl), (Nat.le_of_ble_eq_true rfl)⟩ [] rfl (Nat.le_of_ble_eq_true rfl) rfl hW hS hw) hS (fun x_31 G_31 H locs hw hW hS => ?_)
    refine lv_if_eq (tgt := 76) C.1.1 C.1.2.1 dX1_areFirstsAndLasts_34 (by decide) (fun hc => ?_) (fun hc => ?_)
    · have hw := hw.1 hc
      exact s_X1_areFirstsAndLasts_76 C hr hll post _ _ _ _ hW hS (tl_sub hl [] rfl) hw
    · have hw := hw.2 hc
      refine tr_iload_n (k := 3) (x := x_18) C hl 1 rfl dX1_areFirstsAndLasts_37 ?_
      refine tr_iload_n (k := 1) (x := v1) C hl 4 rfl dX1_areFirstsAndLasts_38 ?_
      refine lv_icmp_gt (tgt := 76) C.1.1 C.1.2.1 dX1_areFirstsAndLasts_39 (by decide) (fun hc => ?_) (fun hc => ?_)
      · have hw := hw.1 hc
        exact s_X1_areFirstsAndLasts_76 C hr hll post _ _ _ _ hW hS (tl_sub hl [] rfl) hw
      · have hw := hw.2 hc
        refine tr_aload_n (k := 0) (x := v0) C hl 3 rfl dX1_areFirstsAndLasts_42 ?_
        refine tr_iload_n (k := 3) (x := x_18) C hl 1 rfl dX1_areFirstsAndLasts_43 ?_
        refine tr_backI (tr_runV (r := v0) (As := [.int x_18]) C hl.1 (c_X0_read l hll K _ v0 x_18) (cwV 1 C.1.2.2.2.2 (gi_V (zm kw_27) (zm kw_28) (zm kw_29) (zm kw_10) (zm kw_26)) rfl rfl rfl (by decide +kernel) ⟨(Nat.le_of_ble_eq_true rfl), (Nat.le_of_ble_eq_true rfl)⟩) rfl rfl dX1_areFirstsAndLasts_44 ⟨(Nat.le_of_ble_eq_true rfl), (Nat.le_of_ble_eq_true rfl)⟩ [] rfl (Nat.le_of_ble_eq_true rfl) rfl hW hS hw) hS (fun x_44 G_44 H locs hw hW hS => ?_)
        refine tr_iload_n (k := 2) (x := x_12) C hl 2 rfl dX1_areFirstsAndLasts_47 ?_
        refine lv_icmp_ne (tgt := 76) C.1.1 C.1.2.1 dX1_areFirstsAndLasts_48 (by decide) (fun hc => ?_) (fun hc => ?_)
        · have hw := hw.1 hc
          exact s_X1_areFirstsAndLasts_76 C hr hll post _ _ _ _ hW hS (tl_sub hl [] rfl) hw
        · have hw := hw.2 hc
          refine tr_aload_n (k := 0) (x := v0) C hl 3 rfl dX1_areFirstsAndLasts_51 ?_
          refine tr_iload (x := x_24) C hl 0 rfl dX1_areFirstsAndLasts_52 ?_
          refine tr_backI (tr_runV (r := v0) (As := [.int x_24]) C hl.1 (c_X0_isPlace l hll K _ v0 x_24) (cwV 1 C.1.2.2.2.2 (gi_V (zm kw_60) (zm kw_61) (zm kw_62) (zm kw_10) (zm kw_59)) rfl rfl rfl (by decide +kernel) ⟨(Nat.le_of_ble_eq_true rfl), (Nat.le_of_ble_eq_true rfl)⟩) rfl rfl dX1_areFirstsAndLasts_54 ⟨(Nat.le_of_ble_eq_true rfl), (Nat.le_of_ble_eq_true rfl)⟩ [] rfl (Nat.le_of_ble_eq_true rfl) rfl hW hS hw) hS (fun x_54 G_54 H locs hw hW hS => ?_)
          refine lv_if_eq (tgt := 76) C.1.1 C.1.2.1 dX1_areFirstsAndLasts_57 (by decide) (fun hc => ?_) (fun hc => ?_)
          · have hw := hw.1 hc
            exact s_X1_areFirstsAndLasts_76 C hr hll post _ _ _ _ hW hS (tl_sub hl [] rfl) hw
          · have hw := hw.2 hc
            refine tr_iload (x := x_24) C hl 0 rfl dX1_areFirstsAndLasts_60 ?_
            refine tr_iload_n (k := 1) (x := v1) C hl 4 rfl dX1_areFirstsAndLasts_62 ?_
            refine lv_icmp_lt (tgt := 76) C.1.1 C.1.2.1 dX1_areFirstsAndLasts_63 (by decide) (fun hc => ?_) (fun hc => ?_)
            · have hw := hw.1 hc
              exact s_X1_areFirstsAndLasts_76 C hr hll post _ _ _ _ hW hS (tl_sub hl [] rfl) hw
            · have hw := hw.2 hc
              refine tr_aload_n (k := 0) (x := v0) C hl 3 rfl dX1_areFirstsAndLasts_66 ?_
              refine tr_iload (x := x_24) C hl 0 rfl dX1_areFirstsAndLasts_67 ?_
              refine tr_backI (tr_runV (r := v0) (As := [.int x_24]) C hl.1 (c_X0_read l hll K _ v0 x_24) (cwV 1 C.1.2.2.2.2 (gi_V (zm kw_27) (zm kw_28) (zm kw_29) (zm kw_10) (zm kw_26)) rfl rfl rfl (by decide +kernel) ⟨(Nat.le_of_ble_eq_true rfl), (Nat.le_of_ble_eq_true rfl)⟩) rfl rfl dX1_areFirstsAndLasts_69 ⟨(Nat.le_of_ble_eq_true rfl), (Nat.le_of_ble_eq_true rfl)⟩ [] rfl (Nat.le_of_ble_eq_true rfl) rfl hW hS hw) hS (fun x_69 G_69 H locs hw hW hS => ?_)
              refine tr_iload_n (k := 2) (x := x_12) C hl 2 rfl dX1_areFirstsAndLasts_72 ?_
              refine lv_icmp_eq (tgt := 78) C.1.1 C.1.2.1 dX1_areFirstsAndLasts_73 (by decide) (fun hc => ?_) (fun hc => ?_)
              · have hw := hw.1 hc
                refine tr_iinc C hl 4 (v1 + (1 : Int32)) [(1, .inl (v1 + (1 : Int32))), (4, .inl x_24), (3, .inl x_18), (2, .inl x_12), (0, .inr (.inr v0))] rfl rfl (by decide) rfl dX1_areFirstsAndLasts_78 (fun ls hl => ?_)
                refine lv_goto (tgt := 2) C.1.1 C.1.2.1 dX1_areFirstsAndLasts_81 (by decide) ?_
                exact hk2 v0 ((v1 + (1 : Int32))) _ _ _ _ hW hS (tl_sub hl [4, 0] rfl) hw
              · have hw := hw.2 hc
                exact s_X1_areFirstsAndLasts_76 C hr hll post _ _ _ _ hW hS (tl_sub hl [] rfl) hw
set_option maxHeartbeats 4000000 in
set_option maxRecDepth 100000 in
theorem s_X1_areFirstsAndLasts_2 {K : tK} (C : tc_B p l s m args meth c D K A wz_X1_areFirstsAndLasts RX1 cX1_areFirstsAndLasts 5) (hr : meth.sig.returnType = (some .boolean)) (hll : l.stackTraces = false)  (post : Int32 → tG → Prop) : ∀ (n : Nat) (v0 : Option Nat) (v1 : Int32) (G : tG) (H : Heap) (locs : List Loc) (ls : Array Slot), tg_W D A s H G → va_S A s.heap H locs → tl ls 5 [(0, .inr (.inr v0)), (1, .inl v1)] → w_X1_areFirstsAndLasts_2 K post n v0 v1 G → W p l e ({ frames := 2, cells := 0, slots := 0, locals := 44 } : Room) s m args below meth c H locs 0 0 (MQ below (tc_Qc D A (retI post)) args s 0 0 A) (F0 m 2 ls []) := by
  intro n
  induction n with
  | zero =>
    intro v0 v1 G H locs ls hW hS hl hw
    exact hw.elim
  | succ n ih => exact s_X1_areFirstsAndLasts_2_b C hr hll post _ ih
set_option maxHeartbeats 4000000 in
set_option maxRecDepth 100000 in
theorem s_X1_areFirstsAndLasts {K : tK} (C : tc_B p l s m args meth c D K A wz_X1_areFirstsAndLasts RX1 cX1_areFirstsAndLasts 5) (hr : meth.sig.returnType = (some .boolean)) (hll : l.stackTraces = false)  (post : Int32 → tG → Prop) (v0 : Option Nat) : ∀ (G : tG) (H : Heap) (locs : List Loc) (ls : Array Slot), tg_W D A s H G → va_S A s.heap H locs → tl ls 5 [(0, .inr (.inr v0))] → w_X1_areFirstsAndLasts K post v0 G → W p l e ({ frames := 2, cells := 0, slots := 0, locals := 44 } : Room) s m args below meth c H locs 0 0 (MQ below (tc_Qc D A (retI post)) args s 0 0 A) (F0 m 0 ls []) := by
  intro G H locs ls hW hS hl hw
  unfold w_X1_areFirstsAndLasts at hw
  refine lv_iconst (v := (0 : Int32)) C.1.1 C.1.2.1 dX1_areFirstsAndLasts_0 (by decide) ?_
  refine tr_istore_n (k := 1) (x := (0 : Int32)) C hl [(1, .inl (0 : Int32)), (0, .inr (.inr v0))] (by decide) rfl dX1_areFirstsAndLasts_1 (fun ls hl => ?_)
  obtain ⟨n2, hw⟩ := hw
  exact s_X1_areFirstsAndLasts_2 C hr hll post n2 v0 ((0 : Int32)) _ _ _ _ hW hS (tl_sub hl [1, 0] rfl) hw
end Z_X1_areFirstsAndLasts
set_option maxHeartbeats 4000000 in
set_option maxRecDepth 100000 in
theorem c_X1_areFirstsAndLasts (l : Launch) (hll : l.stackTraces = false) (K : tK) (post : Int32 → tG → Prop) (v0 : Option Nat) : Ct l yX1_areFirstsAndLasts wz_X1_areFirstsAndLasts ({ frames := 2, cells := 0, slots := 0, locals := 44 } : Room) 0 0 [va_rf v0] K (retI post) (fun G => w_X1_areFirstsAndLasts K post v0 G) := by
  refine tc_of (cc := cX1_areFirstsAndLasts) (maxL := 5) (ret := (some .boolean)) (own := RX1) (plainFor_of_name (by decide)) rfl rfl hll [.inr (.inr v0)] rfl (Nat.le_of_ble_eq_true rfl) ?_
  intro p e s m args below meth c D A G ls C hr hn ht hl hW hS hw
  exact s_X1_areFirstsAndLasts C hr hll post v0 _ _ _ _ hW hS hl hw

/-! X1_isSoundList -/
def wz_X1_isSoundList : List Cond := Cond.code yX1_isSoundList cX1_isSoundList 3 (some .boolean) :: w0
section Z_X1_isSoundList
variable {p : Program} {l : Launch} {e : Env} {s : State} {m : MethodId} {args : Array Value} {below : List Frame} {meth : Method} {c : Code} {D : va_G} {A : Nat → Prop}
set_option maxHeartbeats 4000000 in
set_option maxRecDepth 100000 in
theorem s_X1_isSoundList_48 {K : tK} (C : tc_B p l s m args meth c D K A wz_X1_isSoundList RX1 cX1_isSoundList 3) (hr : meth.sig.returnType = (some .boolean)) (hll : l.stackTraces = false)  (post : Int32 → tG → Prop) : ∀ (u0 : Int32) (G : tG) (H : Heap) (locs : List Loc) (ls : Array Slot), tg_W D A s H G → va_S A s.heap H locs → tl ls 3 [] → w_X1_isSoundList_48 K post u0 G → W p l e ({ frames := 4, cells := 1, slots := 4, locals := 89 } : Room) s m args below meth c H locs 1 4 (MQ below (tc_Qc D A (retI post)) args s 1 4 A) (F0 m 48 ls [.int u0]) := by
  intro u0 G H locs ls hW hS hl hw
  unfold w_X1_isSoundList_48 at hw
  exact tr_zret C hr dX1_isSoundList_48 (Nat.le_of_ble_eq_true rfl) (Nat.le_of_ble_eq_true rfl) hW hS hw
set_option maxHeartbeats 4000000 in
set_option maxRecDepth 100000 in
theorem s_X1_isSoundList_47 {K : tK} (C : tc_B p l s m args meth c D K A wz_X1_isSoundList RX1 cX1_isSoundList 3) (hr : meth.sig.returnType = (some .boolean)) (hll : l.stackTraces = false)  (post : Int32 → tG → Prop) : ∀ (G : tG) (H : Heap) (locs : List Loc) (ls : Array Slot), tg_W D A s H G → va_S A s.heap H locs → tl ls 3 [] → w_X1_isSoundList_47 K post G → W p l e ({ frames := 4, cells := 1, slots := 4, locals := 89 } : Room) s m args below meth c H locs 1 4 (MQ below (tc_Qc D A (retI post)) args s 1 4 A) (F0 m 47 ls []) := by
  intro G H locs ls hW hS hl hw
  unfold w_X1_isSoundList_47 at hw
  refine lv_iconst (v := (0 : Int32)) C.1.1 C.1.2.1 dX1_isSoundList_47 (by decide) ?_
  exact s_X1_isSoundList_48 C hr hll post ((0 : Int32)) _ _ _ _ hW hS (tl_sub hl [] rfl) hw
set_option maxHeartbeats 4000000 in
set_option maxRecDepth 100000 in
theorem s_X1_isSoundList {K : tK} (C : tc_B p l s m args meth c D K A wz_X1_isSoundList RX1 cX1_isSoundList 3) (hr : meth.sig.returnType = (some .boolean)) (hll : l.stackTraces = false)  (post : Int32 → tG → Prop) (v0 : Option Nat) (v1 : Option Nat) : ∀ (G : tG) (H : Heap) (locs : List Loc) (ls : Array Slot), tg_W D A s H G → va_S A s.heap H locs → tl ls 3 [(0, .inr (.inr v0)), (1, .inr (.inr v1))] → w_X1_isSoundList K post v0 v1 G → W p l e ({ frames := 4, cells := 1, slots := 4, locals := 89 } : Room) s m args below meth c H locs 0 0 (MQ below (tc_Qc D A (retI post)) args s 1 4 A) (F0 m 0 ls []) := by
  intro G H locs ls hW hS hl hw
  unfold w_X1_isSoundList at hw
  refine tr_aload_n (k := 0) (x := v0) C hl 0 rfl dX1_isSoundList_0 ?_
  refine tr_aload_n (k := 1) (x := v1) C hl 1 rfl dX1_isSoundList_1 ?_
  refine tr_gfI (C0 := RX0) (T := TX0) (N := 4) (ci := 2) (ref := "Twinrow$RowList") (k := 0) (r := v1) C (zh hw_X0) rfl (by decide) (zm kw_63) rfl dX1_isSoundList_2 hW hw (fun x_2 hw => ?_)
  refine tr_backR (tr_runV (r := v0) (As := [.int x_2]) C hl.1 (c_X1_listOrNull l hll K _ v0 x_2) (cwV 1 C.1.2.2.2.2 (gi_V (zm kw_65) (zm kw_66) (zm kw_67) (zm kw_33) (zm kw_64)) rfl rfl rfl (by decide +kernel) ⟨(Nat.le_of_ble_eq_true rfl), (Nat.le_of_ble_eq_true rfl)⟩) rfl rfl dX1_isSoundList_5 ⟨(Nat.le_of_ble_eq_true rfl), (Nat.le_of_ble_eq_true rfl)⟩ [] rfl (Nat.le_of_ble_eq_true rfl) rfl hW hS hw) hS (fun x_5 G_5 H locs hw hW hS => ?_)
  refine tr_astore_n (k := 2) (x := x_5) C hl [(2, .inr (.inr x_5)), (0, .inr (.inr v0)), (1, .inr (.inr v1))] (by decide) rfl dX1_isSoundList_8 (fun ls hl => ?_)
  refine tr_aload_n (k := 2) (x := x_5) C hl 0 rfl dX1_isSoundList_9 ?_
  refine tr_ifnull (tgt := 47) C dX1_isSoundList_10 (by decide) (fun hc => ?_) (fun hc => ?_)
  · have hw := hw.1 hc
    refine W.widen (k := 1) (n := 4) (Nat.le_of_ble_eq_true rfl) (Nat.le_of_ble_eq_true rfl) ?_
    exact s_X1_isSoundList_47 C hr hll post _ _ _ _ hW hS (tl_sub hl [] rfl) hw
  · have hw := hw.2 hc
    refine tr_aload_n (k := 1) (x := v1) C hl 2 rfl dX1_isSoundList_13 ?_
    refine tr_aload_n (k := 2) (x := x_5) C hl 0 rfl dX1_isSoundList_14 ?_
    refine tr_backI (tr_runS (As := [va_rf v1, va_rf x_5]) C hl.1 (c_X1_isInRow l hll K _ v1 x_5) (va_cwS 2 C.1.2.2.2.2 (gi_S (zm kw_69) (zm kw_70) (zm kw_33) (zm kw_68)) rfl rfl rfl (by decide +kernel) ⟨(Nat.le_of_ble_eq_true rfl), (Nat.le_of_ble_eq_true rfl)⟩) rfl dX1_isSoundList_15 ⟨(Nat.le_of_ble_eq_true rfl), (Nat.le_of_ble_eq_true rfl)⟩ [] rfl (Nat.le_of_ble_eq_true rfl) rfl hW hS hw) hS (fun x_15 G_15 H locs hw hW hS => ?_)
    refine lv_if_eq (tgt := 47) C.1.1 C.1.2.1 dX1_isSoundList_18 (by decide) (fun hc => ?_) (fun hc => ?_)
    · have hw := hw.1 hc
      refine W.widen (k := 1) (n := 4) (Nat.le_of_ble_eq_true rfl) (Nat.le_of_ble_eq_true rfl) ?_
      exact s_X1_isSoundList_47 C hr hll post _ _ _ _ hW hS (tl_sub hl [] rfl) hw
    · have hw := hw.2 hc
      refine tr_aload_n (k := 0) (x := v0) C hl 1 rfl dX1_isSoundList_21 ?_
      refine tr_aload_n (k := 1) (x := v1) C hl 2 rfl dX1_isSoundList_22 ?_
      refine tr_backI (tr_runV (r := v0) (As := [va_rf v1]) C hl.1 (c_X1_isEqualToOwn l hll K _ v0 v1) (cwV 1 C.1.2.2.2.2 (gi_V (zm kw_72) (zm kw_73) (zm kw_74) (zm kw_33) (zm kw_71)) rfl rfl rfl (by decide +kernel) ⟨(Nat.le_of_ble_eq_true rfl), (Nat.le_of_ble_eq_true rfl)⟩) rfl rfl dX1_isSoundList_23 ⟨(Nat.le_of_ble_eq_true rfl), (Nat.le_of_ble_eq_true rfl)⟩ [] rfl (Nat.le_of_ble_eq_true rfl) rfl hW hS hw) hS (fun x_23 G_23 H locs hw hW hS => ?_)
      refine lv_if_eq (tgt := 47) C.1.1 C.1.2.1 dX1_isSoundList_26 (by decide) (fun hc => ?_) (fun hc => ?_)
      · have hw := hw.1 hc
        exact s_X1_isSoundList_47 C hr hll post _ _ _ _ hW hS (tl_sub hl [] rfl) hw
      · have hw := hw.2 hc
        refine tr_aload_n (k := 1) (x := v1) C hl 2 rfl dX1_isSoundList_29 ?_
        refine tr_backI (tr_runS (As := [va_rf v1]) C hl.1 (c_X1_isSameBothWays l hll K _ v1) (va_cwS 1 C.1.2.2.2.2 (gi_S (zm kw_76) (zm kw_77) (zm kw_33) (zm kw_75)) rfl rfl rfl (by decide +kernel) ⟨(Nat.le_of_ble_eq_true rfl), (Nat.le_of_ble_eq_true rfl)⟩) rfl dX1_isSoundList_30 ⟨(Nat.le_of_ble_eq_true rfl), (Nat.le_of_ble_eq_true rfl)⟩ [] rfl (Nat.le_of_ble_eq_true rfl) rfl hW hS hw) hS (fun x_30 G_30 H locs hw hW hS => ?_)
        refine lv_if_eq (tgt := 47) C.1.1 C.1.2.1 dX1_isSoundList_33 (by decide) (fun hc => ?_) (fun hc => ?_)
        · have hw := hw.1 hc
          exact s_X1_isSoundList_47 C hr hll post _ _ _ _ hW hS (tl_sub hl [] rfl) hw
        · have hw := hw.2 hc
          refine tr_aload_n (k := 1) (x := v1) C hl 2 rfl dX1_isSoundList_36 ?_
          refine tr_backI (tr_runS (As := [va_rf v1]) C hl.1 (c_X1_areFirstsAndLasts l hll K _ v1) (va_cwS 1 C.1.2.2.2.2 (gi_S (zm kw_79) (zm kw_80) (zm kw_33) (zm kw_78)) rfl rfl rfl (by decide +kernel) ⟨(Nat.le_of_ble_eq_true rfl), (Nat.le_of_ble_eq_true rfl)⟩) rfl dX1_isSoundList_37 ⟨(Nat.le_of_ble_eq_true rfl), (Nat.le_of_ble_eq_true rfl)⟩ [] rfl (Nat.le_of_ble_eq_true rfl) rfl hW hS hw) hS (fun x_37 G_37 H locs hw hW hS => ?_)
          refine lv_if_eq (tgt := 47) C.1.1 C.1.2.1 dX1_isSoundList_40 (by decide) (fun hc => ?_) (fun hc => ?_)
          · have hw := hw.1 hc
            exact s_X1_isSoundList_47 C hr hll post _ _ _ _ hW hS (tl_sub hl [] rfl) hw
          · have hw := hw.2 hc
            refine lv_iconst (v := (1 : Int32)) C.1.1 C.1.2.1 dX1_isSoundList_43 (by decide) ?_
            refine lv_goto (tgt := 48) C.1.1 C.1.2.1 dX1_isSoundList_44 (by decide) ?_
            exact s_X1_isSoundList_48 C hr hll post ((1 : Int32)) _ _ _ _ hW hS (tl_sub hl [] rfl) hw
end Z_X1_isSoundList
set_option maxHeartbeats 4000000 in
set_option maxRecDepth 100000 in
theorem c_X1_isSoundList (l : Launch) (hll : l.stackTraces = false) (K : tK) (post : Int32 → tG → Prop) (v0 : Option Nat) (v1 : Option Nat) : Ct l yX1_isSoundList wz_X1_isSoundList ({ frames := 4, cells := 1, slots := 4, locals := 89 } : Room) 1 4 [va_rf v0, va_rf v1] K (retI post) (fun G => w_X1_isSoundList K post v0 v1 G) := by
  refine tc_of (cc := cX1_isSoundList) (maxL := 3) (ret := (some .boolean)) (own := RX1) (plainFor_of_name (by decide)) rfl rfl hll [.inr (.inr v0), .inr (.inr v1)] rfl (Nat.le_of_ble_eq_true rfl) ?_
  intro p e s m args below meth c D A G ls C hr hn ht hl hW hS hw
  exact s_X1_isSoundList C hr hll post v0 v1 _ _ _ _ hW hS hl hw

/-! X1_isSound -/
def wz_X1_isSound : List Cond := Cond.code yX1_isSound cX1_isSound 3 (some .boolean) :: w0
section Z_X1_isSound
variable {p : Program} {l : Launch} {e : Env} {s : State} {m : MethodId} {args : Array Value} {below : List Frame} {meth : Method} {c : Code} {D : va_G} {A : Nat → Prop}
set_option maxHeartbeats 4000000 in
set_option maxRecDepth 100000 in
theorem s_X1_isSound_28 {K : tK} (C : tc_B p l s m args meth c D K A wz_X1_isSound RX1 cX1_isSound 3) (hr : meth.sig.returnType = (some .boolean)) (hll : l.stackTraces = false)  (post : Int32 → tG → Prop) (k2 : Nat → Nat → Option Nat → Int32 → tG → Prop) (hk2 : ∀ (nc ns : Nat) (v0 : Option Nat) (v1 : Int32) (G : tG) (H : Heap) (locs : List Loc) (ls : Array Slot), nc ≤ 7 ∧ ns ≤ 28 → tg_W D A s H G → va_S A s.heap H locs → tl ls 3 [(0, .inr (.inr v0)), (1, .inl v1)] → k2 nc ns v0 v1 G → W p l e ({ frames := 5, cells := 7, slots := 28, locals := 111 } : Room) s m args below meth c H locs nc ns (MQ below (tc_Qc D A (retI post)) args s 7 28 A) (F0 m 2 ls [])) : ∀ (nc ns : Nat) (v0 : Option Nat) (v1 : Int32) (G : tG) (H : Heap) (locs : List Loc) (ls : Array Slot), nc ≤ 7 ∧ ns ≤ 28 → tg_W D A s H G → va_S A s.heap H locs → tl ls 3 [(0, .inr (.inr v0)), (1, .inl v1)] → w_X1_isSound_28 K post k2 nc ns v0 v1 G → W p l e ({ frames := 5, cells := 7, slots := 28, locals := 111 } : Room) s m args below meth c H locs nc ns (MQ below (tc_Qc D A (retI post)) args s 7 28 A) (F0 m 28 ls []) := by
  intro nc ns v0 v1 G H locs ls hcn hW hS hl hw
  unfold w_X1_isSound_28 at hw
  refine tr_iinc C hl 1 (v1 + (1 : Int32)) [(1, .inl (v1 + (1 : Int32))), (0, .inr (.inr v0))] rfl rfl (by decide) rfl dX1_isSound_28 (fun ls hl => ?_)
  refine lv_goto (tgt := 2) C.1.1 C.1.2.1 dX1_isSound_31 (by decide) ?_
  exact hk2 nc ns v0 ((v1 + (1 : Int32))) _ _ _ _ (show nc ≤ 7 ∧ ns ≤ 28 by omega) hW hS (tl_sub hl [1, 0] rfl) hw
set_option maxHeartbeats 4000000 in
set_option maxRecDepth 100000 in
theorem s_X1_isSound_2_b {K : tK} (C : tc_B p l s m args meth c D K A wz_X1_isSound RX1 cX1_isSound 3) (hr : meth.sig.returnType = (some .boolean)) (hll : l.stackTraces = false)  (post : Int32 → tG → Prop) (k2 : Nat → Nat → Option Nat → Int32 → tG → Prop) (hk2 : ∀ (nc ns : Nat) (v0 : Option Nat) (v1 : Int32) (G : tG) (H : Heap) (locs : List Loc) (ls : Array Slot), nc ≤ 7 ∧ ns ≤ 28 → tg_W D A s H G → va_S A s.heap H locs → tl ls 3 [(0, .inr (.inr v0)), (1, .inl v1)] → k2 nc ns v0 v1 G → W p l e ({ frames := 5, cells := 7, slots := 28, locals := 111 } : Room) s m args below meth c H locs nc ns (MQ below (tc_Qc D A (retI post)) args s 7 28 A) (F0 m 2 ls [])) : ∀ (nc ns : Nat) (v0 : Option Nat) (v1 : Int32) (G : tG) (H : Heap) (locs : List Loc) (ls : Array Slot), nc ≤ 7 ∧ ns ≤ 28 → tg_W D A s H G → va_S A s.heap H locs → tl ls 3 [(0, .inr (.inr v0)), (1, .inl v1)] → w_X1_isSound_2_b K post k2 nc ns v0 v1 G → W p l e ({ frames := 5, cells := 7, slots := 28, locals := 111 } : Room) s m args below meth c H locs nc ns (MQ below (tc_Qc D A (retI post)) args s 7 28 A) (F0 m 2 ls []) := by
  intro nc ns v0 v1 G H locs ls hcn hW hS hl hw
  unfold w_X1_isSound_2_b at hw
  refine tr_iload_n (k := 1) (x := v1) C hl 1 rfl dX1_isSound_2 ?_
  refine lv_bipush (v := (7 : Int32)) C.1.1 C.1.2.1 dX1_isSound_3 (by decide) ?_
  refine lv_icmp_ge (tgt := 34) C.1.1 C.1.2.1 dX1_isSound_5 (by decide) (fun hc => ?_) (fun hc => ?_)
  · have hw := hw.1 hc
    refine lv_iconst (v := (1 : Int32)) C.1.1 C.1.2.1 dX1_isSound_34 (by decide) ?_
    exact tr_zret C hr dX1_isSound_35 (show nc ≤ 7 by omega) (show ns ≤ 28 by omega) hW hS hw
  · have hw := hw.2 hc
    refine tr_aload_n (k := 0) (x := v0) C hl 0 rfl dX1_isSound_8 ?_
    refine tr_iload_n (k := 1) (x := v1) C hl 1 rfl dX1_isSound_9 ?_
    refine tr_backR (tr_runV (r := v0) (As := [.int v1]) C hl.1 (c_X1_listOrNull l hll K _ v0 v1) (cwV 1 C.1.2.2.2.2 (gi_V (zm kw_65) (zm kw_66) (zm kw_67) (zm kw_33) (zm kw_64)) rfl rfl rfl (by decide +kernel) ⟨(Nat.le_of_ble_eq_true rfl), (Nat.le_of_ble_eq_true rfl)⟩) rfl rfl dX1_isSound_10 ⟨(show nc + 0 ≤ 7 by omega), (show ns + 0 ≤ 28 by omega)⟩ [] rfl (Nat.le_of_ble_eq_true rfl) rfl hW hS hw) hS (fun x_10 G_10 H locs hw hW hS => ?_)
    refine tr_astore_n (k := 2) (x := x_10) C hl [(2, .inr (.inr x_10)), (0, .inr (.inr v0)), (1, .inl v1)] (by decide) rfl dX1_isSound_13 (fun ls hl => ?_)
    refine tr_aload_n (k := 2) (x := x_10) C hl 0 rfl dX1_isSound_14 ?_
    refine tr_ifnull (tgt := 28) C dX1_isSound_15 (by decide) (fun hc => ?_) (fun hc => ?_)
    · have hw := hw.1 hc
      exact s_X1_isSound_28 C hr hll post k2 hk2 nc ns v0 v1 _ _ _ _ (show nc ≤ 7 ∧ ns ≤ 28 by omega) hW hS (tl_sub hl [1, 2] rfl) hw
    · have hw := hw.2 hc
      refine tr_aload_n (k := 0) (x := v0) C hl 1 rfl dX1_isSound_18 ?_
      refine tr_aload_n (k := 2) (x := x_10) C hl 0 rfl dX1_isSound_19 ?_
      have hq1 := hw.1
      have hw := hw.2
      refine tr_backI (tr_runV (r := v0) (As := [va_rf x_10]) C hl.1 (c_X1_isSoundList l hll K _ v0 x_10) (cwV 1 C.1.2.2.2.2 (gi_V (zm kw_82) (zm kw_83) (zm kw_84) (zm kw_33) (zm kw_81)) rfl rfl rfl (by decide +kernel) ⟨(Nat.le_of_ble_eq_true rfl), (Nat.le_of_ble_eq_true rfl)⟩) rfl rfl dX1_isSound_20 ⟨hq1.1, hq1.2⟩ [] rfl (Nat.le_of_ble_eq_true rfl) rfl hW hS hw) hS (fun x_20 G_20 H locs hw hW hS => ?_)
      refine lv_if_ne (tgt := 28) C.1.1 C.1.2.1 dX1_isSound_23 (by decide) (fun hc => ?_) (fun hc => ?_)
      · have hw := hw.1 hc
        exact s_X1_isSound_28 C hr hll post k2 hk2 ((nc + 1)) ((ns + 4)) v0 v1 _ _ _ _ (show (nc + 1) ≤ 7 ∧ (ns + 4) ≤ 28 by omega) hW hS (tl_sub hl [1, 2] rfl) hw
      · have hw := hw.2 hc
        refine lv_iconst (v := (0 : Int32)) C.1.1 C.1.2.1 dX1_isSound_26 (by decide) ?_
        exact tr_zret C hr dX1_isSound_27 (show (nc + 1) ≤ 7 by omega) (show (ns + 4) ≤ 28 by omega) hW hS hw
set_option maxHeartbeats 4000000 in
set_option maxRecDepth 100000 in
theorem s_X1_isSound_2 {K : tK} (C : tc_B p l s m args meth c D K A wz_X1_isSound RX1 cX1_isSound 3) (hr : meth.sig.returnType = (some .boolean)) (hll : l.stackTraces = false)  (post : Int32 → tG → Prop) : ∀ (n : Nat) (nc ns : Nat) (v0 : Option Nat) (v1 : Int32) (G : tG) (H : Heap) (locs : List Loc) (ls : Array Slot), nc ≤ 7 ∧ ns ≤ 28 → tg_W D A s H G → va_S A s.heap H locs → tl ls 3 [(0, .inr (.inr v0)), (1, .inl v1)] → w_X1_isSound_2 K post n nc ns v0 v1 G → W p l e ({ frames := 5, cells := 7, slots := 28, locals := 111 } : Room) s m args below meth c H locs nc ns (MQ below (tc_Qc D A (retI post)) args s 7 28 A) (F0 m 2 ls []) := by
  intro n
  induction n with
  | zero =>
    intro nc ns v0 v1 G H locs ls hcn hW hS hl hw
    exact hw.elim
  | succ n ih => exact s_X1_isSound_2_b C hr hll post _ ih
set_option maxHeartbeats 4000000 in
set_option maxRecDepth 100000 in
theorem s_X1_isSound {K : tK} (C : tc_B p l s m args meth c D K A wz_X1_isSound RX1 cX1_isSound 3) (hr : meth.sig.returnType = (some .boolean)) (hll : l.stackTraces = false)  (post : Int32 → tG → Prop) (v0 : Option Nat) : ∀ (G : tG) (H : Heap) (locs : List Loc) (ls : Array Slot), tg_W D A s H G → va_S A s.heap H locs → tl ls 3 [(0, .inr (.inr v0))] → w_X1_isSound K post v0 G → W p l e ({ frames := 5, cells := 7, slots := 28, locals := 111 } : Room) s m args below meth c H locs 0 0 (MQ below (tc_Qc D A (retI post)) args s 7 28 A) (F0 m 0 ls []) := by
  intro G H locs ls hW hS hl hw
  unfold w_X1_isSound at hw
  refine lv_iconst (v := (0 : Int32)) C.1.1 C.1.2.1 dX1_isSound_0 (by decide) ?_
  refine tr_istore_n (k := 1) (x := (0 : Int32)) C hl [(1, .inl (0 : Int32)), (0, .inr (.inr v0))] (by decide) rfl dX1_isSound_1 (fun ls hl => ?_)
  obtain ⟨n2, hw⟩ := hw
  exact s_X1_isSound_2 C hr hll post n2 0 0 v0 ((0 : Int32)) _ _ _ _ (show 0 ≤ 7 ∧ 0 ≤ 28 by omega) hW hS (tl_sub hl [1, 0] rfl) hw
end Z_X1_isSound
set_option maxHeartbeats 4000000 in
set_option maxRecDepth 100000 in
theorem c_X1_isSound (l : Launch) (hll : l.stackTraces = false) (K : tK) (post : Int32 → tG → Prop) (v0 : Option Nat) : Ct l yX1_isSound wz_X1_isSound ({ frames := 5, cells := 7, slots := 28, locals := 111 } : Room) 7 28 [va_rf v0] K (retI post) (fun G => w_X1_isSound K post v0 G) := by
  refine tc_of (cc := cX1_isSound) (maxL := 3) (ret := (some .boolean)) (own := RX1) (plainFor_of_name (by decide)) rfl rfl hll [.inr (.inr v0)] rfl (Nat.le_of_ble_eq_true rfl) ?_
  intro p e s m args below meth c D A G ls C hr hn ht hl hW hS hw
  exact s_X1_isSound C hr hll post v0 _ _ _ _ hW hS hl hw

/-! X1_mixed -/
def wz_X1_mixed : List Cond := Cond.code yX1_mixed cX1_mixed 4 (some .long) :: w0
section Z_X1_mixed
variable {p : Program} {l : Launch} {e : Env} {s : State} {m : MethodId} {args : Array Value} {below : List Frame} {meth : Method} {c : Code} {D : va_G} {A : Nat → Prop}
set_option maxHeartbeats 4000000 in
set_option maxRecDepth 100000 in
theorem s_X1_mixed {K : tK} (C : tc_B p l s m args meth c D K A wz_X1_mixed RX1 cX1_mixed 4) (hr : meth.sig.returnType = (some .long)) (hll : l.stackTraces = false)  (post : Int64 → tG → Prop) (v0 : Int64) (v2 : Int64) : ∀ (G : tG) (H : Heap) (locs : List Loc) (ls : Array Slot), tg_W D A s H G → va_S A s.heap H locs → tl ls 4 [(0, .inr (.inl v0)), (2, .inr (.inl v2))] → w_X1_mixed K post v0 v2 G → W p l e ({ frames := 0, cells := 0, slots := 0, locals := 0 } : Room) s m args below meth c H locs 0 0 (MQ below (tc_Qc D A (retL post)) args s 0 0 A) (F0 m 0 ls []) := by
  intro G H locs ls hW hS hl hw
  unfold w_X1_mixed at hw
  refine tr_lload_n (k := 0) (x := v0) C hl 0 rfl dX1_mixed_0 ?_
  refine lv_ldc2 (v := (31 : Int64)) C.1.1 C.1.2.1 C.1.2.2.2.1 (C.1.2.2.2.2 _ (zm kw_85)) dX1_mixed_1 ?_
  refine lv_lmul C.1.1 C.1.2.1 dX1_mixed_4 ?_
  refine tr_lload_n (k := 2) (x := v2) C hl 1 rfl dX1_mixed_5 ?_
  refine lv_ladd C.1.1 C.1.2.1 dX1_mixed_6 ?_
  exact tr_lret C hr dX1_mixed_7 (Nat.le_of_ble_eq_true rfl) (Nat.le_of_ble_eq_true rfl) hW hS hw
end Z_X1_mixed
set_option maxHeartbeats 4000000 in
set_option maxRecDepth 100000 in
theorem c_X1_mixed (l : Launch) (hll : l.stackTraces = false) (K : tK) (post : Int64 → tG → Prop) (v0 : Int64) (v2 : Int64) : Ct l yX1_mixed wz_X1_mixed ({ frames := 0, cells := 0, slots := 0, locals := 0 } : Room) 0 0 [.long v0, .long v2] K (retL post) (fun G => w_X1_mixed K post v0 v2 G) := by
  refine tc_of (cc := cX1_mixed) (maxL := 4) (ret := (some .long)) (own := RX1) (plainFor_of_name (by decide)) rfl rfl hll [.inr (.inl v0), .inr (.inl v2)] rfl (Nat.le_of_ble_eq_true rfl) ?_
  intro p e s m args below meth c D A G ls C hr hn ht hl hW hS hw
  exact s_X1_mixed C hr hll post v0 v2 _ _ _ _ hW hS hl hw

/-! X1_checkNumber -/
def wz_X1_checkNumber : List Cond := Cond.code yX1_checkNumber cX1_checkNumber 3 none :: w0
section Z_X1_checkNumber
variable {p : Program} {l : Launch} {e : Env} {s : State} {m : MethodId} {args : Array Value} {below : List Frame} {meth : Method} {c : Code} {D : va_G} {A : Nat → Prop}
set_option maxHeartbeats 4000000 in
set_option maxRecDepth 100000 in
theorem s_X1_checkNumber_10 {K : tK} (C : tc_B p l s m args meth c D K A wz_X1_checkNumber RX1 cX1_checkNumber 3) (hr : meth.sig.returnType = none) (ht : ∀ x ∈ c.exceptionTable.toList, False) (hll : l.stackTraces = false)  (post : tG → Prop) (postX : String → tG → Prop) : ∀ (G : tG) (H : Heap) (locs : List Loc) (ls : Array Slot), tg_W D A s H G → va_S A s.heap H locs → tl ls 3 [] → w_X1_checkNumber_10 K post postX G → W p l e ({ frames := 6, cells := 1, slots := 6, locals := 82 } : Room) s m args below meth c H locs 0 0 (vx_MQ below (tc_Qc D A (retV post)) (tc_XC D A postX) args s 1 6 A) (F0 m 10 ls []) := by
  intro G H locs ls hW hS hl hw
  unfold w_X1_checkNumber_10 at hw
  exact tx_throw (cls := "java/lang/IllegalArgumentException") (text := "the number is not let") (names := ["java/lang/RuntimeException", "java/lang/Exception"]) (cn := 4) C hl.1 ht (by decide +kernel) (by decide +kernel) (zm kw_86) (zm kw_87) (by decide) (zh at_RX1_209) (by decide +kernel) (tc_kx C).2.2.2.1 (by decide +kernel) dX1_checkNumber_10 dX1_checkNumber_13 dX1_checkNumber_14 dX1_checkNumber_16 dX1_checkNumber_19 (Nat.le_of_ble_eq_true rfl) (Nat.le_of_ble_eq_true rfl) (Nat.le_of_ble_eq_true rfl) (Nat.le_of_ble_eq_true rfl) (Nat.le_of_ble_eq_true rfl) (Nat.le_of_ble_eq_true rfl) hW hS hw
set_option maxHeartbeats 4000000 in
set_option maxRecDepth 100000 in
theorem s_X1_checkNumber {K : tK} (C : tc_B p l s m args meth c D K A wz_X1_checkNumber RX1 cX1_checkNumber 3) (hr : meth.sig.returnType = none) (ht : ∀ x ∈ c.exceptionTable.toList, False) (hll : l.stackTraces = false)  (post : tG → Prop) (postX : String → tG → Prop) (v0 : Int32) (v1 : Int32) (v2 : Int32) : ∀ (G : tG) (H : Heap) (locs : List Loc) (ls : Array Slot), tg_W D A s H G → va_S A s.heap H locs → tl ls 3 [(0, .inl v0), (1, .inl v1), (2, .inl v2)] → w_X1_checkNumber K post postX v0 v1 v2 G → W p l e ({ frames := 6, cells := 1, slots := 6, locals := 82 } : Room) s m args below meth c H locs 0 0 (vx_MQ below (tc_Qc D A (retV post)) (tc_XC D A postX) args s 1 6 A) (F0 m 0 ls []) := by
  intro G H locs ls hW hS hl hw
  unfold w_X1_checkNumber at hw
  refine tr_iload_n (k := 0) (x := v0) C hl 0 rfl dX1_checkNumber_0 ?_
  refine tr_iload_n (k := 1) (x := v1) C hl 1 rfl dX1_checkNumber_1 ?_
  refine lv_icmp_lt (tgt := 10) C.1.1 C.1.2.1 dX1_checkNumber_2 (by decide) (fun hc => ?_) (fun hc => ?_)
  · have hw := hw.1 hc
    exact s_X1_checkNumber_10 C hr ht hll post postX _ _ _ _ hW hS (tl_sub hl [] rfl) hw
  · have hw := hw.2 hc
    refine tr_iload_n (k := 0) (x := v0) C hl 0 rfl dX1_checkNumber_5 ?_
    refine tr_iload_n (k := 2) (x := v2) C hl 2 rfl dX1_checkNumber_6 ?_
    refine lv_icmp_le (tgt := 20) C.1.1 C.1.2.1 dX1_checkNumber_7 (by decide) (fun hc => ?_) (fun hc => ?_)
    · have hw := hw.1 hc
      exact vx_ret (tr_vret C hr dX1_checkNumber_20 (Nat.le_of_ble_eq_true rfl) (Nat.le_of_ble_eq_true rfl) hW hS hw)
    · have hw := hw.2 hc
      exact s_X1_checkNumber_10 C hr ht hll post postX _ _ _ _ hW hS (tl_sub hl [] rfl) hw
end Z_X1_checkNumber
set_option maxHeartbeats 4000000 in
set_option maxRecDepth 100000 in
theorem c_X1_checkNumber (l : Launch) (hll : l.stackTraces = false) (K : tK) (post : tG → Prop) (postX : String → tG → Prop) (v0 : Int32) (v1 : Int32) (v2 : Int32) : Cx l yX1_checkNumber wz_X1_checkNumber ({ frames := 6, cells := 1, slots := 6, locals := 82 } : Room) 1 6 [.int v0, .int v1, .int v2] K (retV post) postX (fun G => w_X1_checkNumber K post postX v0 v1 v2 G) := by
  refine tx_of (cc := cX1_checkNumber) (maxL := 3) (ret := none) (own := RX1) (by decide) rfl rfl hll [.inl v0, .inl v1, .inl v2] rfl (Nat.le_of_ble_eq_true rfl) ?_
  intro p e s m args below meth c D A G ls C hr hn ht hl hW hS hw
  exact s_X1_checkNumber C hr ht hll post postX v0 v1 v2 _ _ _ _ hW hS hl hw

/-! X1_rowOf -/
def wz_X1_rowOf : List Cond := Cond.code yX1_rowOf cX1_rowOf 3 (some .int) :: w0
section Z_X1_rowOf
variable {p : Program} {l : Launch} {e : Env} {s : State} {m : MethodId} {args : Array Value} {below : List Frame} {meth : Method} {c : Code} {D : va_G} {A : Nat → Prop}
set_option maxHeartbeats 4000000 in
set_option maxRecDepth 100000 in
theorem s_X1_rowOf_25 {K : tK} (C : tc_B p l s m args meth c D K A wz_X1_rowOf RX1 cX1_rowOf 3) (hr : meth.sig.returnType = (some .int)) (ht : ∀ x ∈ c.exceptionTable.toList, False) (hll : l.stackTraces = false)  (post : Int32 → tG → Prop) (postX : String → tG → Prop) : ∀ (u0 : Int32) (G : tG) (H : Heap) (locs : List Loc) (ls : Array Slot), tg_W D A s H G → va_S A s.heap H locs → tl ls 3 [] → w_X1_rowOf_25 K post postX u0 G → W p l e ({ frames := 7, cells := 1, slots := 6, locals := 104 } : Room) s m args below meth c H locs 1 6 (vx_MQ below (tc_Qc D A (retI post)) (tc_XC D A postX) args s 1 6 A) (F0 m 25 ls [.int u0]) := by
  intro u0 G H locs ls hW hS hl hw
  unfold w_X1_rowOf_25 at hw
  exact vx_ret (tr_iret C hr dX1_rowOf_25 (Nat.le_of_ble_eq_true rfl) (Nat.le_of_ble_eq_true rfl) hW hS hw)
set_option maxHeartbeats 4000000 in
set_option maxRecDepth 100000 in
theorem s_X1_rowOf {K : tK} (C : tc_B p l s m args meth c D K A wz_X1_rowOf RX1 cX1_rowOf 3) (hr : meth.sig.returnType = (some .int)) (ht : ∀ x ∈ c.exceptionTable.toList, False) (hll : l.stackTraces = false)  (post : Int32 → tG → Prop) (postX : String → tG → Prop) (v0 : Option Nat) (v1 : Int32) : ∀ (G : tG) (H : Heap) (locs : List Loc) (ls : Array Slot), tg_W D A s H G → va_S A s.heap H locs → tl ls 3 [(0, .inr (.inr v0)), (1, .inl v1)] → w_X1_rowOf K post postX v0 v1 G → W p l e ({ frames := 7, cells := 1, slots := 6, locals := 104 } : Room) s m args below meth c H locs 0 0 (vx_MQ below (tc_Qc D A (retI post)) (tc_XC D A postX) args s 1 6 A) (F0 m 0 ls []) := by
  intro G H locs ls hW hS hl hw
  unfold w_X1_rowOf at hw
  refine tr_iload_n (k := 1) (x := v1) C hl 1 rfl dX1_rowOf_0 ?_
  refine lv_iconst (v := (0 : Int32)) C.1.1 C.1.2.1 dX1_rowOf_1 (by decide) ?_
  refine lv_bipush (v := (6 : Int32)) C.1.1 C.1.2.1 dX1_rowOf_2 (by decide) ?_
  refine tx_backV (tx_runS (As := [.int v1, .int ((0 : Int32)), .int ((6 : Int32))]) C hl.1 (c_X1_checkNumber l hll K _ _ v1 ((0 : Int32)) ((6 : Int32))) (va_cwS 3 C.1.2.2.2.2 (gi_S (zm kw_89) (zm kw_90) (zm kw_33) (zm kw_88)) rfl rfl rfl (by decide +kernel) ⟨(Nat.le_of_ble_eq_true rfl), (Nat.le_of_ble_eq_true rfl)⟩) rfl dX1_rowOf_4 ⟨(Nat.le_of_ble_eq_true rfl), (Nat.le_of_ble_eq_true rfl)⟩ [] rfl (Nat.le_of_ble_eq_true rfl) rfl hW hS hw) hS C.2.1 ht (Nat.le_of_ble_eq_true rfl) (Nat.le_of_ble_eq_true rfl) (fun G_4 H locs hw hW hS => ?_)
  refine tr_aload_n (k := 0) (x := v0) C hl 0 rfl dX1_rowOf_7 ?_
  refine tr_iload_n (k := 1) (x := v1) C hl 1 rfl dX1_rowOf_8 ?_
  refine tr_backR (tr_runV (r := v0) (As := [.int v1]) C hl.1 (c_X1_listOrNull l hll K _ v0 v1) (cwV 1 C.1.2.2.2.2 (gi_V (zm kw_65) (zm kw_66) (zm kw_67) (zm kw_33) (zm kw_64)) rfl rfl rfl (by decide +kernel) ⟨(Nat.le_of_ble_eq_true rfl), (Nat.le_of_ble_eq_true rfl)⟩) rfl rfl dX1_rowOf_9 ⟨(Nat.le_of_ble_eq_true rfl), (Nat.le_of_ble_eq_true rfl)⟩ [] rfl (Nat.le_of_ble_eq_true rfl) rfl hW hS hw) hS (fun x_9 G_9 H locs hw hW hS => ?_)
  refine tr_astore_n (k := 2) (x := x_9) C hl [(2, .inr (.inr x_9)), (0, .inr (.inr v0)), (1, .inl v1)] (by decide) rfl dX1_rowOf_12 (fun ls hl => ?_)
  refine tr_aload_n (k := 2) (x := x_9) C hl 0 rfl dX1_rowOf_13 ?_
  refine tr_ifnonnull (tgt := 21) C dX1_rowOf_14 (by decide) (fun hc => ?_) (fun hc => ?_)
  · have hw := hw.1 hc
    refine tr_aload_n (k := 2) (x := x_9) C hl 0 rfl dX1_rowOf_21 ?_
    refine tr_gfI (C0 := RX0) (T := TX0) (N := 4) (ci := 2) (ref := "Twinrow$RowList") (k := 0) (r := x_9) C (zh hw_X0) rfl (by decide) (zm kw_63) rfl dX1_rowOf_22 hW hw (fun x_22 hw => ?_)
    exact s_X1_rowOf_25 C hr ht hll post postX x_22 _ _ _ _ hW hS (tl_sub hl [] rfl) hw
  · have hw := hw.2 hc
    refine lv_iconst (v := (-1 : Int32)) C.1.1 C.1.2.1 dX1_rowOf_17 (by decide) ?_
    refine lv_goto (tgt := 25) C.1.1 C.1.2.1 dX1_rowOf_18 (by decide) ?_
    exact s_X1_rowOf_25 C hr ht hll post postX ((-1 : Int32)) _ _ _ _ hW hS (tl_sub hl [] rfl) hw
end Z_X1_rowOf
set_option maxHeartbeats 4000000 in
set_option maxRecDepth 100000 in
theorem c_X1_rowOf (l : Launch) (hll : l.stackTraces = false) (K : tK) (post : Int32 → tG → Prop) (postX : String → tG → Prop) (v0 : Option Nat) (v1 : Int32) : Cx l yX1_rowOf wz_X1_rowOf ({ frames := 7, cells := 1, slots := 6, locals := 104 } : Room) 1 6 [va_rf v0, .int v1] K (retI post) postX (fun G => w_X1_rowOf K post postX v0 v1 G) := by
  refine tx_of (cc := cX1_rowOf) (maxL := 3) (ret := (some .int)) (own := RX1) (by decide) rfl rfl hll [.inr (.inr v0), .inl v1] rfl (Nat.le_of_ble_eq_true rfl) ?_
  intro p e s m args below meth c D A G ls C hr hn ht hl hW hS hw
  exact s_X1_rowOf C hr ht hll post postX v0 v1 _ _ _ _ hW hS hl hw

/-! X1_begin -/
def wz_X1_begin : List Cond := Cond.code yX1_begin cX1_begin 3 (some .int) :: w0
section Z_X1_begin
variable {p : Program} {l : Launch} {e : Env} {s : State} {m : MethodId} {args : Array Value} {below : List Frame} {meth : Method} {c : Code} {D : va_G} {A : Nat → Prop}
set_option maxHeartbeats 4000000 in
set_option maxRecDepth 100000 in
theorem s_X1_begin_25 {K : tK} (C : tc_B p l s m args meth c D K A wz_X1_begin RX1 cX1_begin 3) (hr : meth.sig.returnType = (some .int)) (ht : ∀ x ∈ c.exceptionTable.toList, False) (hll : l.stackTraces = false)  (post : Int32 → tG → Prop) (postX : String → tG → Prop) : ∀ (u0 : Int32) (G : tG) (H : Heap) (locs : List Loc) (ls : Array Slot), tg_W D A s H G → va_S A s.heap H locs → tl ls 3 [] → w_X1_begin_25 K post postX u0 G → W p l e ({ frames := 7, cells := 1, slots := 6, locals := 104 } : Room) s m args below meth c H locs 1 6 (vx_MQ below (tc_Qc D A (retI post)) (tc_XC D A postX) args s 1 6 A) (F0 m 25 ls [.int u0]) := by
  intro u0 G H locs ls hW hS hl hw
  unfold w_X1_begin_25 at hw
  exact vx_ret (tr_iret C hr dX1_begin_25 (Nat.le_of_ble_eq_true rfl) (Nat.le_of_ble_eq_true rfl) hW hS hw)
set_option maxHeartbeats 4000000 in
set_option maxRecDepth 100000 in
theorem s_X1_begin {K : tK} (C : tc_B p l s m args meth c D K A wz_X1_begin RX1 cX1_begin 3) (hr : meth.sig.returnType = (some .int)) (ht : ∀ x ∈ c.exceptionTable.toList, False) (hll : l.stackTraces = false)  (post : Int32 → tG → Prop) (postX : String → tG → Prop) (v0 : Option Nat) (v1 : Int32) : ∀ (G : tG) (H : Heap) (locs : List Loc) (ls : Array Slot), tg_W D A s H G → va_S A s.heap H locs → tl ls 3 [(0, .inr (.inr v0)), (1, .inl v1)] → w_X1_begin K post postX v0 v1 G → W p l e ({ frames := 7, cells := 1, slots := 6, locals := 104 } : Room) s m args below meth c H locs 0 0 (vx_MQ below (tc_Qc D A (retI post)) (tc_XC D A postX) args s 1 6 A) (F0 m 0 ls []) := by
  intro G H locs ls hW hS hl hw
  unfold w_X1_begin at hw
  refine tr_iload_n (k := 1) (x := v1) C hl 1 rfl dX1_begin_0 ?_
  refine lv_iconst (v := (0 : Int32)) C.1.1 C.1.2.1 dX1_begin_1 (by decide) ?_
  refine lv_bipush (v := (6 : Int32)) C.1.1 C.1.2.1 dX1_begin_2 (by decide) ?_
  refine tx_backV (tx_runS (As := [.int v1, .int ((0 : Int32)), .int ((6 : Int32))]) C hl.1 (c_X1_checkNumber l hll K _ _ v1 ((0 : Int32)) ((6 : Int32))) (va_cwS 3 C.1.2.2.2.2 (gi_S (zm kw_89) (zm kw_90) (zm kw_33) (zm kw_88)) rfl rfl rfl (by decide +kernel) ⟨(Nat.le_of_ble_eq_true rfl), (Nat.le_of_ble_eq_true rfl)⟩) rfl dX1_begin_4 ⟨(Nat.le_of_ble_eq_true rfl), (Nat.le_of_ble_eq_true rfl)⟩ [] rfl (Nat.le_of_ble_eq_true rfl) rfl hW hS hw) hS C.2.1 ht (Nat.le_of_ble_eq_true rfl) (Nat.le_of_ble_eq_true rfl) (fun G_4 H locs hw hW hS => ?_)
  refine tr_aload_n (k := 0) (x := v0) C hl 0 rfl dX1_begin_7 ?_
  refine tr_iload_n (k := 1) (x := v1) C hl 1 rfl dX1_begin_8 ?_
  refine tr_backR (tr_runV (r := v0) (As := [.int v1]) C hl.1 (c_X1_listOrNull l hll K _ v0 v1) (cwV 1 C.1.2.2.2.2 (gi_V (zm kw_65) (zm kw_66) (zm kw_67) (zm kw_33) (zm kw_64)) rfl rfl rfl (by decide +kernel) ⟨(Nat.le_of_ble_eq_true rfl), (Nat.le_of_ble_eq_true rfl)⟩) rfl rfl dX1_begin_9 ⟨(Nat.le_of_ble_eq_true rfl), (Nat.le_of_ble_eq_true rfl)⟩ [] rfl (Nat.le_of_ble_eq_true rfl) rfl hW hS hw) hS (fun x_9 G_9 H locs hw hW hS => ?_)
  refine tr_astore_n (k := 2) (x := x_9) C hl [(2, .inr (.inr x_9)), (0, .inr (.inr v0)), (1, .inl v1)] (by decide) rfl dX1_begin_12 (fun ls hl => ?_)
  refine tr_aload_n (k := 2) (x := x_9) C hl 0 rfl dX1_begin_13 ?_
  refine tr_ifnonnull (tgt := 21) C dX1_begin_14 (by decide) (fun hc => ?_) (fun hc => ?_)
  · have hw := hw.1 hc
    refine tr_aload_n (k := 2) (x := x_9) C hl 0 rfl dX1_begin_21 ?_
    refine tr_gfI (C0 := RX0) (T := TX0) (N := 4) (ci := 2) (ref := "Twinrow$RowList") (k := 2) (r := x_9) C (zh hw_X0) rfl (by decide) (zm kw_38) rfl dX1_begin_22 hW hw (fun x_22 hw => ?_)
    exact s_X1_begin_25 C hr ht hll post postX x_22 _ _ _ _ hW hS (tl_sub hl [] rfl) hw
  · have hw := hw.2 hc
    refine lv_iconst (v := (-1 : Int32)) C.1.1 C.1.2.1 dX1_begin_17 (by decide) ?_
    refine lv_goto (tgt := 25) C.1.1 C.1.2.1 dX1_begin_18 (by decide) ?_
    exact s_X1_begin_25 C hr ht hll post postX ((-1 : Int32)) _ _ _ _ hW hS (tl_sub hl [] rfl) hw
end Z_X1_begin
set_option maxHeartbeats 4000000 in
set_option maxRecDepth 100000 in
theorem c_X1_begin (l : Launch) (hll : l.stackTraces = false) (K : tK) (post : Int32 → tG → Prop) (postX : String → tG → Prop) (v0 : Option Nat) (v1 : Int32) : Cx l yX1_begin wz_X1_begin ({ frames := 7, cells := 1, slots := 6, locals := 104 } : Room) 1 6 [va_rf v0, .int v1] K (retI post) postX (fun G => w_X1_begin K post postX v0 v1 G) := by
  refine tx_of (cc := cX1_begin) (maxL := 3) (ret := (some .int)) (own := RX1) (by decide) rfl rfl hll [.inr (.inr v0), .inl v1] rfl (Nat.le_of_ble_eq_true rfl) ?_
  intro p e s m args below meth c D A G ls C hr hn ht hl hW hS hw
  exact s_X1_begin C hr ht hll post postX v0 v1 _ _ _ _ hW hS hl hw

/-! X1_listAt -/
def wz_X1_listAt : List Cond := Cond.code yX1_listAt cX1_listAt 3 (some (.object "Twinrow$RowList")) :: w0
section Z_X1_listAt
variable {p : Program} {l : Launch} {e : Env} {s : State} {m : MethodId} {args : Array Value} {below : List Frame} {meth : Method} {c : Code} {D : va_G} {A : Nat → Prop}
set_option maxHeartbeats 4000000 in
set_option maxRecDepth 100000 in
theorem s_X1_listAt {K : tK} (C : tc_B p l s m args meth c D K A wz_X1_listAt RX1 cX1_listAt 3) (hr : meth.sig.returnType = (some (.object "Twinrow$RowList"))) (ht : ∀ x ∈ c.exceptionTable.toList, False) (hll : l.stackTraces = false)  (post : Option Nat → tG → Prop) (postX : String → tG → Prop) (v0 : Option Nat) (v1 : Int32) : ∀ (G : tG) (H : Heap) (locs : List Loc) (ls : Array Slot), tg_W D A s H G → va_S A s.heap H locs → tl ls 3 [(0, .inr (.inr v0)), (1, .inl v1)] → w_X1_listAt K post postX v0 v1 G → W p l e ({ frames := 6, cells := 1, slots := 6, locals := 82 } : Room) s m args below meth c H locs 0 0 (vx_MQ below (tc_Qc D A (retR post)) (tc_XC D A postX) args s 1 6 A) (F0 m 0 ls []) := by
  intro G H locs ls hW hS hl hw
  unfold w_X1_listAt at hw
  refine tr_aload_n (k := 0) (x := v0) C hl 0 rfl dX1_listAt_0 ?_
  refine tr_iload_n (k := 1) (x := v1) C hl 1 rfl dX1_listAt_1 ?_
  refine tr_backR (tr_runV (r := v0) (As := [.int v1]) C hl.1 (c_X1_listOrNull l hll K _ v0 v1) (cwV 1 C.1.2.2.2.2 (gi_V (zm kw_65) (zm kw_66) (zm kw_67) (zm kw_33) (zm kw_64)) rfl rfl rfl (by decide +kernel) ⟨(Nat.le_of_ble_eq_true rfl), (Nat.le_of_ble_eq_true rfl)⟩) rfl rfl dX1_listAt_2 ⟨(Nat.le_of_ble_eq_true rfl), (Nat.le_of_ble_eq_true rfl)⟩ [] rfl (Nat.le_of_ble_eq_true rfl) rfl hW hS hw) hS (fun x_2 G_2 H locs hw hW hS => ?_)
  refine tr_astore_n (k := 2) (x := x_2) C hl [(2, .inr (.inr x_2)), (0, .inr (.inr v0)), (1, .inl v1)] (by decide) rfl dX1_listAt_5 (fun ls hl => ?_)
  refine tr_aload_n (k := 2) (x := x_2) C hl 0 rfl dX1_listAt_6 ?_
  refine tr_ifnonnull (tgt := 20) C dX1_listAt_7 (by decide) (fun hc => ?_) (fun hc => ?_)
  · have hw := hw.1 hc
    refine tr_aload_n (k := 2) (x := x_2) C hl 0 rfl dX1_listAt_20 ?_
    exact vx_ret (tr_aret (x := x_2) C hr (Or.inl ⟨_, rfl⟩) dX1_listAt_21 (Nat.le_of_ble_eq_true rfl) (Nat.le_of_ble_eq_true rfl) hW hS hw)
  · have hw := hw.2 hc
    exact tx_throw (cls := "java/lang/IndexOutOfBoundsException") (text := "there is no such list") (names := ["java/lang/RuntimeException", "java/lang/Exception"]) (cn := 0) C hl.1 ht (by decide +kernel) (by decide +kernel) (zm kw_91) (zm kw_92) (by decide) (zh at_RX1_192) (by decide +kernel) (tc_kx C).2.2.1 (by decide +kernel) dX1_listAt_10 dX1_listAt_13 dX1_listAt_14 dX1_listAt_16 dX1_listAt_19 (Nat.le_of_ble_eq_true rfl) (Nat.le_of_ble_eq_true rfl) (Nat.le_of_ble_eq_true rfl) (Nat.le_of_ble_eq_true rfl) (Nat.le_of_ble_eq_true rfl) (Nat.le_of_ble_eq_true rfl) hW hS hw
end Z_X1_listAt
set_option maxHeartbeats 4000000 in
set_option maxRecDepth 100000 in
theorem c_X1_listAt (l : Launch) (hll : l.stackTraces = false) (K : tK) (post : Option Nat → tG → Prop) (postX : String → tG → Prop) (v0 : Option Nat) (v1 : Int32) : Cx l yX1_listAt wz_X1_listAt ({ frames := 6, cells := 1, slots := 6, locals := 82 } : Room) 1 6 [va_rf v0, .int v1] K (retR post) postX (fun G => w_X1_listAt K post postX v0 v1 G) := by
  refine tx_of (cc := cX1_listAt) (maxL := 3) (ret := (some (.object "Twinrow$RowList"))) (own := RX1) (by decide) rfl rfl hll [.inr (.inr v0), .inl v1] rfl (Nat.le_of_ble_eq_true rfl) ?_
  intro p e s m args below meth c D A G ls C hr hn ht hl hW hS hw
  exact s_X1_listAt C hr ht hll post postX v0 v1 _ _ _ _ hW hS hl hw

/-! X1_length -/
def wz_X1_length : List Cond := Cond.code yX1_length cX1_length 2 (some .int) :: w0
section Z_X1_length
variable {p : Program} {l : Launch} {e : Env} {s : State} {m : MethodId} {args : Array Value} {below : List Frame} {meth : Method} {c : Code} {D : va_G} {A : Nat → Prop}
set_option maxHeartbeats 4000000 in
set_option maxRecDepth 100000 in
theorem s_X1_length {K : tK} (C : tc_B p l s m args meth c D K A wz_X1_length RX1 cX1_length 2) (hr : meth.sig.returnType = (some .int)) (ht : ∀ x ∈ c.exceptionTable.toList, False) (hll : l.stackTraces = false)  (post : Int32 → tG → Prop) (postX : String → tG → Prop) (v0 : Option Nat) (v1 : Int32) : ∀ (G : tG) (H : Heap) (locs : List Loc) (ls : Array Slot), tg_W D A s H G → va_S A s.heap H locs → tl ls 2 [(0, .inr (.inr v0)), (1, .inl v1)] → w_X1_length K post postX v0 v1 G → W p l e ({ frames := 7, cells := 1, slots := 6, locals := 104 } : Room) s m args below meth c H locs 0 0 (vx_MQ below (tc_Qc D A (retI post)) (tc_XC D A postX) args s 1 6 A) (F0 m 0 ls []) := by
  intro G H locs ls hW hS hl hw
  unfold w_X1_length at hw
  refine tr_aload_n (k := 0) (x := v0) C hl 0 rfl dX1_length_0 ?_
  refine tr_iload_n (k := 1) (x := v1) C hl 1 rfl dX1_length_1 ?_
  refine tx_backR (tx_runV (r := v0) (As := [.int v1]) C hl.1 (c_X1_listAt l hll K _ _ v0 v1) (cwV 1 C.1.2.2.2.2 (gi_V (zm kw_94) (zm kw_95) (zm kw_96) (zm kw_33) (zm kw_93)) rfl rfl rfl (by decide +kernel) ⟨(Nat.le_of_ble_eq_true rfl), (Nat.le_of_ble_eq_true rfl)⟩) rfl rfl dX1_length_2 ⟨(Nat.le_of_ble_eq_true rfl), (Nat.le_of_ble_eq_true rfl)⟩ [] rfl (Nat.le_of_ble_eq_true rfl) rfl hW hS hw) hS C.2.1 ht (Nat.le_of_ble_eq_true rfl) (Nat.le_of_ble_eq_true rfl) (fun x_2 G_2 H locs hw hW hS => ?_)
  refine tr_gfI (C0 := RX0) (T := TX0) (N := 4) (ci := 2) (ref := "Twinrow$RowList") (k := 3) (r := x_2) C (zh hw_X0) rfl (by decide) (zm kw_34) rfl dX1_length_5 hW hw (fun x_5 hw => ?_)
  exact vx_ret (tr_iret C hr dX1_length_8 (Nat.le_of_ble_eq_true rfl) (Nat.le_of_ble_eq_true rfl) hW hS hw)
end Z_X1_length
set_option maxHeartbeats 4000000 in
set_option maxRecDepth 100000 in
theorem c_X1_length (l : Launch) (hll : l.stackTraces = false) (K : tK) (post : Int32 → tG → Prop) (postX : String → tG → Prop) (v0 : Option Nat) (v1 : Int32) : Cx l yX1_length wz_X1_length ({ frames := 7, cells := 1, slots := 6, locals := 104 } : Room) 1 6 [va_rf v0, .int v1] K (retI post) postX (fun G => w_X1_length K post postX v0 v1 G) := by
  refine tx_of (cc := cX1_length) (maxL := 2) (ret := (some .int)) (own := RX1) (by decide) rfl rfl hll [.inr (.inr v0), .inl v1] rfl (Nat.le_of_ble_eq_true rfl) ?_
  intro p e s m args below meth c D A G ls C hr hn ht hl hW hS hw
  exact s_X1_length C hr ht hll post postX v0 v1 _ _ _ _ hW hS hl hw

/-! X1_code -/
def wz_X1_code : List Cond := Cond.code yX1_code cX1_code 3 (some .int) :: w0
section Z_X1_code
variable {p : Program} {l : Launch} {e : Env} {s : State} {m : MethodId} {args : Array Value} {below : List Frame} {meth : Method} {c : Code} {D : va_G} {A : Nat → Prop}
set_option maxHeartbeats 4000000 in
set_option maxRecDepth 100000 in
theorem s_X1_code {K : tK} (C : tc_B p l s m args meth c D K A wz_X1_code RX1 cX1_code 3) (hr : meth.sig.returnType = (some .int)) (ht : ∀ x ∈ c.exceptionTable.toList, False) (hll : l.stackTraces = false)  (post : Int32 → tG → Prop) (postX : String → tG → Prop) (v0 : Option Nat) (v1 : Int32) : ∀ (G : tG) (H : Heap) (locs : List Loc) (ls : Array Slot), tg_W D A s H G → va_S A s.heap H locs → tl ls 3 [(0, .inr (.inr v0)), (1, .inl v1)] → w_X1_code K post postX v0 v1 G → W p l e ({ frames := 7, cells := 1, slots := 6, locals := 104 } : Room) s m args below meth c H locs 0 0 (vx_MQ below (tc_Qc D A (retI post)) (tc_XC D A postX) args s 1 6 A) (F0 m 0 ls []) := by
  intro G H locs ls hW hS hl hw
  unfold w_X1_code at hw
  refine tr_aload_n (k := 0) (x := v0) C hl 0 rfl dX1_code_0 ?_
  refine tr_iload_n (k := 1) (x := v1) C hl 1 rfl dX1_code_1 ?_
  refine tx_backR (tx_runV (r := v0) (As := [.int v1]) C hl.1 (c_X1_listAt l hll K _ _ v0 v1) (cwV 1 C.1.2.2.2.2 (gi_V (zm kw_94) (zm kw_95) (zm kw_96) (zm kw_33) (zm kw_93)) rfl rfl rfl (by decide +kernel) ⟨(Nat.le_of_ble_eq_true rfl), (Nat.le_of_ble_eq_true rfl)⟩) rfl rfl dX1_code_2 ⟨(Nat.le_of_ble_eq_true rfl), (Nat.le_of_ble_eq_true rfl)⟩ [] rfl (Nat.le_of_ble_eq_true rfl) rfl hW hS hw) hS C.2.1 ht (Nat.le_of_ble_eq_true rfl) (Nat.le_of_ble_eq_true rfl) (fun x_2 G_2 H locs hw hW hS => ?_)
  refine tr_astore_n (k := 2) (x := x_2) C hl [(2, .inr (.inr x_2)), (0, .inr (.inr v0)), (1, .inl v1)] (by decide) rfl dX1_code_5 (fun ls hl => ?_)
  refine tr_aload_n (k := 2) (x := x_2) C hl 0 rfl dX1_code_6 ?_
  refine lv_iconst (v := (0 : Int32)) C.1.1 C.1.2.1 dX1_code_7 (by decide) ?_
  refine tr_aload_n (k := 2) (x := x_2) C hl 0 rfl dX1_code_8 ?_
  refine tr_gfI (C0 := RX0) (T := TX0) (N := 4) (ci := 2) (ref := "Twinrow$RowList") (k := 3) (r := x_2) C (zh hw_X0) rfl (by decide) (zm kw_34) rfl dX1_code_9 hW hw (fun x_9 hw => ?_)
  refine tr_backI (tr_runS (As := [va_rf x_2, .int ((0 : Int32)), .int x_9]) C hl.1 (c_X1_codeOf l hll K _ x_2 ((0 : Int32)) x_9) (va_cwS 3 C.1.2.2.2.2 (gi_S (zm kw_36) (zm kw_37) (zm kw_33) (zm kw_35)) rfl rfl rfl (by decide +kernel) ⟨(Nat.le_of_ble_eq_true rfl), (Nat.le_of_ble_eq_true rfl)⟩) rfl dX1_code_12 ⟨(Nat.le_of_ble_eq_true rfl), (Nat.le_of_ble_eq_true rfl)⟩ [] rfl (Nat.le_of_ble_eq_true rfl) rfl hW hS hw) hS (fun x_12 G_12 H locs hw hW hS => ?_)
  exact vx_ret (tr_iret C hr dX1_code_15 (Nat.le_of_ble_eq_true rfl) (Nat.le_of_ble_eq_true rfl) hW hS hw)
end Z_X1_code
set_option maxHeartbeats 4000000 in
set_option maxRecDepth 100000 in
theorem c_X1_code (l : Launch) (hll : l.stackTraces = false) (K : tK) (post : Int32 → tG → Prop) (postX : String → tG → Prop) (v0 : Option Nat) (v1 : Int32) : Cx l yX1_code wz_X1_code ({ frames := 7, cells := 1, slots := 6, locals := 104 } : Room) 1 6 [va_rf v0, .int v1] K (retI post) postX (fun G => w_X1_code K post postX v0 v1 G) := by
  refine tx_of (cc := cX1_code) (maxL := 3) (ret := (some .int)) (own := RX1) (by decide) rfl rfl hll [.inr (.inr v0), .inl v1] rfl (Nat.le_of_ble_eq_true rfl) ?_
  intro p e s m args below meth c D A G ls C hr hn ht hl hW hS hw
  exact s_X1_code C hr ht hll post postX v0 v1 _ _ _ _ hW hS hl hw

/-! X1_sum -/
def wz_X1_sum : List Cond := Cond.code yX1_sum cX1_sum 5 (some .int) :: w0
section Z_X1_sum
variable {p : Program} {l : Launch} {e : Env} {s : State} {m : MethodId} {args : Array Value} {below : List Frame} {meth : Method} {c : Code} {D : va_G} {A : Nat → Prop}
set_option maxHeartbeats 4000000 in
set_option maxRecDepth 100000 in
theorem s_X1_sum_11_b {K : tK} (C : tc_B p l s m args meth c D K A wz_X1_sum RX1 cX1_sum 5) (hr : meth.sig.returnType = (some .int)) (ht : ∀ x ∈ c.exceptionTable.toList, False) (hll : l.stackTraces = false)  (post : Int32 → tG → Prop) (postX : String → tG → Prop) (k11 : Option Nat → Int32 → Int32 → tG → Prop) (hk11 : ∀ (v2 : Option Nat) (v3 : Int32) (v4 : Int32) (G : tG) (H : Heap) (locs : List Loc) (ls : Array Slot), tg_W D A s H G → va_S A s.heap H locs → tl ls 5 [(2, .inr (.inr v2)), (3, .inl v3), (4, .inl v4)] → k11 v2 v3 v4 G → W p l e ({ frames := 7, cells := 1, slots := 6, locals := 104 } : Room) s m args below meth c H locs 1 6 (vx_MQ below (tc_Qc D A (retI post)) (tc_XC D A postX) args s 1 6 A) (F0 m 11 ls [])) : ∀ (v2 : Option Nat) (v3 : Int32) (v4 : Int32) (G : tG) (H : Heap) (locs : List Loc) (ls : Array Slot), tg_W D A s H G → va_S A s.heap H locs → tl ls 5 [(2, .inr (.inr v2)), (3, .inl v3), (4, .inl v4)] → w_X1_sum_11_b K post postX k11 v2 v3 v4 G → W p l e ({ frames := 7, cells := 1, slots := 6, locals := 104 } : Room) s m args below meth c H locs 1 6 (vx_MQ below (tc_Qc D A (retI post)) (tc_XC D A postX) args s 1 6 A) (F0 m 11 ls []) := by
  intro v2 v3 v4 G H locs ls hW hS hl hw
  unfold w_X1_sum_11_b at hw
  refine tr_iload (x := v4) C hl 2 rfl dX1_sum_11 ?_
  refine tr_aload_n (k := 2) (x := v2) C hl 0 rfl dX1_sum_13 ?_
  refine tr_gfI (C0 := RX0) (T := TX0) (N := 4) (ci := 2) (ref := "Twinrow$RowList") (k := 3) (r := v2) C (zh hw_X0) rfl (by decide) (zm kw_34) rfl dX1_sum_14 hW hw (fun x_14 hw => ?_)
  refine lv_icmp_ge (tgt := 38) C.1.1 C.1.2.1 dX1_sum_17 (by decide) (fun hc => ?_) (fun hc => ?_)
  · have hw := hw.1 hc
    refine tr_iload_n (k := 3) (x := v3) C hl 1 rfl dX1_sum_38 ?_
    exact vx_ret (tr_iret C hr dX1_sum_39 (Nat.le_of_ble_eq_true rfl) (Nat.le_of_ble_eq_true rfl) hW hS hw)
  · have hw := hw.2 hc
    refine tr_iload_n (k := 3) (x := v3) C hl 1 rfl dX1_sum_20 ?_
    refine tr_aload_n (k := 2) (x := v2) C hl 0 rfl dX1_sum_21 ?_
    refine tr_iload (x := v4) C hl 2 rfl dX1_sum_22 ?_
    refine tr_backI (tr_runV (r := v2) (As := [.int v4]) C hl.1 (c_X0_read l hll K _ v2 v4) (cwV 1 C.1.2.2.2.2 (gi_V (zm kw_27) (zm kw_28) (zm kw_29) (zm kw_10) (zm kw_26)) rfl rfl rfl (by decide +kernel) ⟨(Nat.le_of_ble_eq_true rfl), (Nat.le_of_ble_eq_true rfl)⟩) rfl rfl dX1_sum_24 ⟨(Nat.le_of_ble_eq_true rfl), (Nat.le_of_ble_eq_true rfl)⟩ [.inl v3] rfl (Nat.le_of_ble_eq_true rfl) rfl hW hS hw) hS (fun x_24 G_24 H locs hw hW hS => ?_)
    refine tr_backI (tr_runS (As := [.int x_24]) C hl.1 (c_X1_numberOf l hll K _ x_24) (va_cwS 1 C.1.2.2.2.2 (gi_S (zm kw_31) (zm kw_32) (zm kw_33) (zm kw_30)) rfl rfl rfl (by decide +kernel) ⟨(Nat.le_of_ble_eq_true rfl), (Nat.le_of_ble_eq_true rfl)⟩) rfl dX1_sum_27 ⟨(Nat.le_of_ble_eq_true rfl), (Nat.le_of_ble_eq_true rfl)⟩ [.inl v3] rfl (Nat.le_of_ble_eq_true rfl) rfl hW hS hw) hS (fun x_27 G_27 H locs hw hW hS => ?_)
    refine lv_iadd C.1.1 C.1.2.1 dX1_sum_30 ?_
    refine tr_istore_n (k := 3) (x := (v3 + x_27)) C hl [(3, .inl (v3 + x_27)), (2, .inr (.inr v2)), (4, .inl v4)] (by decide) rfl dX1_sum_31 (fun ls hl => ?_)
    refine tr_iinc C hl 2 (v4 + (1 : Int32)) [(4, .inl (v4 + (1 : Int32))), (3, .inl (v3 + x_27)), (2, .inr (.inr v2))] rfl rfl (by decide) rfl dX1_sum_32 (fun ls hl => ?_)
    refine lv_goto (tgt := 11) C.1.1 C.1.2.1 dX1_sum_35 (by decide) ?_
    exact hk11 v2 ((v3 + x_27)) ((v4 + (1 : Int32))) _ _ _ _ hW hS (tl_sub hl [2, 1, 0] rfl) hw
set_option maxHeartbeats 4000000 in
set_option maxRecDepth 100000 in
theorem s_X1_sum_11 {K : tK} (C : tc_B p l s m args meth c D K A wz_X1_sum RX1 cX1_sum 5) (hr : meth.sig.returnType = (some .int)) (ht : ∀ x ∈ c.exceptionTable.toList, False) (hll : l.stackTraces = false)  (post : Int32 → tG → Prop) (postX : String → tG → Prop) : ∀ (n : Nat) (v2 : Option Nat) (v3 : Int32) (v4 : Int32) (G : tG) (H : Heap) (locs : List Loc) (ls : Array Slot), tg_W D A s H G → va_S A s.heap H locs → tl ls 5 [(2, .inr (.inr v2)), (3, .inl v3), (4, .inl v4)] → w_X1_sum_11 K post postX n v2 v3 v4 G → W p l e ({ frames := 7, cells := 1, slots := 6, locals := 104 } : Room) s m args below meth c H locs 1 6 (vx_MQ below (tc_Qc D A (retI post)) (tc_XC D A postX) args s 1 6 A) (F0 m 11 ls []) := by
  intro n
  induction n with
  | zero =>
    intro v2 v3 v4 G H locs ls hW hS hl hw
    exact hw.elim
  | succ n ih => exact s_X1_sum_11_b C hr ht hll post postX _ ih
set_option maxHeartbeats 4000000 in
set_option maxRecDepth 100000 in
theorem s_X1_sum {K : tK} (C : tc_B p l s m args meth c D K A wz_X1_sum RX1 cX1_sum 5) (hr : meth.sig.returnType = (some .int)) (ht : ∀ x ∈ c.exceptionTable.toList, False) (hll : l.stackTraces = false)  (post : Int32 → tG → Prop) (postX : String → tG → Prop) (v0 : Option Nat) (v1 : Int32) : ∀ (G : tG) (H : Heap) (locs : List Loc) (ls : Array Slot), tg_W D A s H G → va_S A s.heap H locs → tl ls 5 [(0, .inr (.inr v0)), (1, .inl v1)] → w_X1_sum K post postX v0 v1 G → W p l e ({ frames := 7, cells := 1, slots := 6, locals := 104 } : Room) s m args below meth c H locs 0 0 (vx_MQ below (tc_Qc D A (retI post)) (tc_XC D A postX) args s 1 6 A) (F0 m 0 ls []) := by
  intro G H locs ls hW hS hl hw
  unfold w_X1_sum at hw
  refine tr_aload_n (k := 0) (x := v0) C hl 0 rfl dX1_sum_0 ?_
  refine tr_iload_n (k := 1) (x := v1) C hl 1 rfl dX1_sum_1 ?_
  refine tx_backR (tx_runV (r := v0) (As := [.int v1]) C hl.1 (c_X1_listAt l hll K _ _ v0 v1) (cwV 1 C.1.2.2.2.2 (gi_V (zm kw_94) (zm kw_95) (zm kw_96) (zm kw_33) (zm kw_93)) rfl rfl rfl (by decide +kernel) ⟨(Nat.le_of_ble_eq_true rfl), (Nat.le_of_ble_eq_true rfl)⟩) rfl rfl dX1_sum_2 ⟨(Nat.le_of_ble_eq_true rfl), (Nat.le_of_ble_eq_true rfl)⟩ [] rfl (Nat.le_of_ble_eq_true rfl) rfl hW hS hw) hS C.2.1 ht (Nat.le_of_ble_eq_true rfl) (Nat.le_of_ble_eq_true rfl) (fun x_2 G_2 H locs hw hW hS => ?_)
  refine tr_astore_n (k := 2) (x := x_2) C hl [(2, .inr (.inr x_2)), (0, .inr (.inr v0)), (1, .inl v1)] (by decide) rfl dX1_sum_5 (fun ls hl => ?_)
  refine lv_iconst (v := (0 : Int32)) C.1.1 C.1.2.1 dX1_sum_6 (by decide) ?_
  refine tr_istore_n (k := 3) (x := (0 : Int32)) C hl [(3, .inl (0 : Int32)), (2, .inr (.inr x_2)), (0, .inr (.inr v0)), (1, .inl v1)] (by decide) rfl dX1_sum_7 (fun ls hl => ?_)
  refine lv_iconst (v := (0 : Int32)) C.1.1 C.1.2.1 dX1_sum_8 (by decide) ?_
  refine tr_istore (x := (0 : Int32)) C hl [(4, .inl (0 : Int32)), (3, .inl (0 : Int32)), (2, .inr (.inr x_2)), (0, .inr (.inr v0)), (1, .inl v1)] (by decide) rfl dX1_sum_9 (fun ls hl => ?_)
  obtain ⟨n11, hw⟩ := hw
  exact s_X1_sum_11 C hr ht hll post postX n11 x_2 ((0 : Int32)) ((0 : Int32)) _ _ _ _ hW hS (tl_sub hl [2, 1, 0] rfl) hw
end Z_X1_sum
set_option maxHeartbeats 4000000 in
set_option maxRecDepth 100000 in
theorem c_X1_sum (l : Launch) (hll : l.stackTraces = false) (K : tK) (post : Int32 → tG → Prop) (postX : String → tG → Prop) (v0 : Option Nat) (v1 : Int32) : Cx l yX1_sum wz_X1_sum ({ frames := 7, cells := 1, slots := 6, locals := 104 } : Room) 1 6 [va_rf v0, .int v1] K (retI post) postX (fun G => w_X1_sum K post postX v0 v1 G) := by
  refine tx_of (cc := cX1_sum) (maxL := 5) (ret := (some .int)) (own := RX1) (by decide) rfl rfl hll [.inr (.inr v0), .inl v1] rfl (Nat.le_of_ble_eq_true rfl) ?_
  intro p e s m args below meth c D A G ls C hr hn ht hl hW hS hw
  exact s_X1_sum C hr ht hll post postX v0 v1 _ _ _ _ hW hS hl hw

/-! X1_mixedWithList -/
def wz_X1_mixedWithList : List Cond := Cond.code yX1_mixedWithList cX1_mixedWithList 6 (some .long) :: w0
section Z_X1_mixedWithList
variable {p : Program} {l : Launch} {e : Env} {s : State} {m : MethodId} {args : Array Value} {below : List Frame} {meth : Method} {c : Code} {D : va_G} {A : Nat → Prop}
set_option maxHeartbeats 4000000 in
set_option maxRecDepth 100000 in
theorem s_X1_mixedWithList_68 {K : tK} (C : tc_B p l s m args meth c D K A wz_X1_mixedWithList RX1 cX1_mixedWithList 6) (hr : meth.sig.returnType = (some .long)) (ht : ∀ x ∈ c.exceptionTable.toList, False) (hll : l.stackTraces = false)  (post : Int64 → tG → Prop) (postX : String → tG → Prop) : ∀ (v4 : Int64) (G : tG) (H : Heap) (locs : List Loc) (ls : Array Slot), tg_W D A s H G → va_S A s.heap H locs → tl ls 6 [(4, .inr (.inl v4))] → w_X1_mixedWithList_68 K post postX v4 G → W p l e ({ frames := 8, cells := 5, slots := 30, locals := 128 } : Room) s m args below meth c H locs 5 30 (vx_MQ below (tc_Qc D A (retL post)) (tc_XC D A postX) args s 5 30 A) (F0 m 68 ls []) := by
  intro v4 G H locs ls hW hS hl hw
  unfold w_X1_mixedWithList_68 at hw
  refine tr_lload (x := v4) C hl 0 rfl dX1_mixedWithList_68 ?_
  exact vx_ret (tr_lret C hr dX1_mixedWithList_70 (Nat.le_of_ble_eq_true rfl) (Nat.le_of_ble_eq_true rfl) hW hS hw)
set_option maxHeartbeats 4000000 in
set_option maxRecDepth 100000 in
theorem s_X1_mixedWithList {K : tK} (C : tc_B p l s m args meth c D K A wz_X1_mixedWithList RX1 cX1_mixedWithList 6) (hr : meth.sig.returnType = (some .long)) (ht : ∀ x ∈ c.exceptionTable.toList, False) (hll : l.stackTraces = false)  (post : Int64 → tG → Prop) (postX : String → tG → Prop) (v0 : Option Nat) (v1 : Int64) (v3 : Int32) : ∀ (G : tG) (H : Heap) (locs : List Loc) (ls : Array Slot), tg_W D A s H G → va_S A s.heap H locs → tl ls 6 [(0, .inr (.inr v0)), (1, .inr (.inl v1)), (3, .inl v3)] → w_X1_mixedWithList K post postX v0 v1 v3 G → W p l e ({ frames := 8, cells := 5, slots := 30, locals := 128 } : Room) s m args below meth c H locs 0 0 (vx_MQ below (tc_Qc D A (retL post)) (tc_XC D A postX) args s 5 30 A) (F0 m 0 ls []) := by
  intro G H locs ls hW hS hl hw
  unfold w_X1_mixedWithList at hw
  refine tr_lload_n (k := 1) (x := v1) C hl 1 rfl dX1_mixedWithList_0 ?_
  refine tr_aload_n (k := 0) (x := v0) C hl 0 rfl dX1_mixedWithList_1 ?_
  refine tr_iload_n (k := 3) (x := v3) C hl 2 rfl dX1_mixedWithList_2 ?_
  refine tx_backI (tx_runV (r := v0) (As := [.int v3]) C hl.1 (c_X1_rowOf l hll K _ _ v0 v3) (cwV 1 C.1.2.2.2.2 (gi_V (zm kw_98) (zm kw_99) (zm kw_100) (zm kw_33) (zm kw_97)) rfl rfl rfl (by decide +kernel) ⟨(Nat.le_of_ble_eq_true rfl), (Nat.le_of_ble_eq_true rfl)⟩) rfl rfl dX1_mixedWithList_3 ⟨(Nat.le_of_ble_eq_true rfl), (Nat.le_of_ble_eq_true rfl)⟩ [.inr (.inl v1)] rfl (Nat.le_of_ble_eq_true rfl) rfl hW hS hw) hS C.2.1 ht (Nat.le_of_ble_eq_true rfl) (Nat.le_of_ble_eq_true rfl) (fun x_3 G_3 H locs hw hW hS => ?_)
  refine lv_i2l (v := ((x_3).toInt64)) C.1.1 C.1.2.1 dX1_mixedWithList_6 rfl ?_
  refine tr_backL (tr_runS (As := [.long v1, .long (((x_3).toInt64))]) C hl.1 (c_X1_mixed l hll K _ v1 (((x_3).toInt64))) (va_cwS 2 C.1.2.2.2.2 (gi_S (zm kw_102) (zm kw_103) (zm kw_33) (zm kw_101)) rfl rfl rfl (by decide +kernel) ⟨(Nat.le_of_ble_eq_true rfl), (Nat.le_of_ble_eq_true rfl)⟩) rfl dX1_mixedWithList_7 ⟨(Nat.le_of_ble_eq_true rfl), (Nat.le_of_ble_eq_true rfl)⟩ [] rfl (Nat.le_of_ble_eq_true rfl) rfl hW hS hw) hS (fun x_7 G_7 H locs hw hW hS => ?_)
  refine tr_aload_n (k := 0) (x := v0) C hl 0 rfl dX1_mixedWithList_10 ?_
  refine tr_iload_n (k := 3) (x := v3) C hl 2 rfl dX1_mixedWithList_11 ?_
  refine tx_backI (tx_runV (r := v0) (As := [.int v3]) C hl.1 (c_X1_begin l hll K _ _ v0 v3) (cwV 1 C.1.2.2.2.2 (gi_V (zm kw_105) (zm kw_106) (zm kw_107) (zm kw_33) (zm kw_104)) rfl rfl rfl (by decide +kernel) ⟨(Nat.le_of_ble_eq_true rfl), (Nat.le_of_ble_eq_true rfl)⟩) rfl rfl dX1_mixedWithList_12 ⟨(Nat.le_of_ble_eq_true rfl), (Nat.le_of_ble_eq_true rfl)⟩ [.inr (.inl x_7)] rfl (Nat.le_of_ble_eq_true rfl) rfl hW hS hw) hS C.2.1 ht (Nat.le_of_ble_eq_true rfl) (Nat.le_of_ble_eq_true rfl) (fun x_12 G_12 H locs hw hW hS => ?_)
  refine lv_i2l (v := ((x_12).toInt64)) C.1.1 C.1.2.1 dX1_mixedWithList_15 rfl ?_
  refine tr_backL (tr_runS (As := [.long x_7, .long (((x_12).toInt64))]) C hl.1 (c_X1_mixed l hll K _ x_7 (((x_12).toInt64))) (va_cwS 2 C.1.2.2.2.2 (gi_S (zm kw_102) (zm kw_103) (zm kw_33) (zm kw_101)) rfl rfl rfl (by decide +kernel) ⟨(Nat.le_of_ble_eq_true rfl), (Nat.le_of_ble_eq_true rfl)⟩) rfl dX1_mixedWithList_16 ⟨(Nat.le_of_ble_eq_true rfl), (Nat.le_of_ble_eq_true rfl)⟩ [] rfl (Nat.le_of_ble_eq_true rfl) rfl hW hS hw) hS (fun x_16 G_16 H locs hw hW hS => ?_)
  refine tr_lstore (x := x_16) C hl [(4, .inr (.inl x_16)), (0, .inr (.inr v0)), (1, .inr (.inl v1)), (3, .inl v3)] (by decide) rfl dX1_mixedWithList_19 (fun ls hl => ?_)
  refine tr_aload_n (k := 0) (x := v0) C hl 1 rfl dX1_mixedWithList_21 ?_
  refine tr_iload_n (k := 3) (x := v3) C hl 3 rfl dX1_mixedWithList_22 ?_
  refine tr_backR (tr_runV (r := v0) (As := [.int v3]) C hl.1 (c_X1_listOrNull l hll K _ v0 v3) (cwV 1 C.1.2.2.2.2 (gi_V (zm kw_65) (zm kw_66) (zm kw_67) (zm kw_33) (zm kw_64)) rfl rfl rfl (by decide +kernel) ⟨(Nat.le_of_ble_eq_true rfl), (Nat.le_of_ble_eq_true rfl)⟩) rfl rfl dX1_mixedWithList_23 ⟨(Nat.le_of_ble_eq_true rfl), (Nat.le_of_ble_eq_true rfl)⟩ [] rfl (Nat.le_of_ble_eq_true rfl) rfl hW hS hw) hS (fun x_23 G_23 H locs hw hW hS => ?_)
  refine tr_ifnull (tgt := 68) C dX1_mixedWithList_26 (by decide) (fun hc => ?_) (fun hc => ?_)
  · have hw := hw.1 hc
    refine W.widen (k := 5) (n := 30) (Nat.le_of_ble_eq_true rfl) (Nat.le_of_ble_eq_true rfl) ?_
    exact s_X1_mixedWithList_68 C hr ht hll post postX x_16 _ _ _ _ hW hS (tl_sub hl [0] rfl) hw
  · have hw := hw.2 hc
    refine tr_lload (x := x_16) C hl 0 rfl dX1_mixedWithList_29 ?_
    refine tr_aload_n (k := 0) (x := v0) C hl 1 rfl dX1_mixedWithList_31 ?_
    refine tr_iload_n (k := 3) (x := v3) C hl 3 rfl dX1_mixedWithList_32 ?_
    refine tx_backI (tx_runV (r := v0) (As := [.int v3]) C hl.1 (c_X1_length l hll K _ _ v0 v3) (cwV 1 C.1.2.2.2.2 (gi_V (zm kw_109) (zm kw_110) (zm kw_111) (zm kw_33) (zm kw_108)) rfl rfl rfl (by decide +kernel) ⟨(Nat.le_of_ble_eq_true rfl), (Nat.le_of_ble_eq_true rfl)⟩) rfl rfl dX1_mixedWithList_33 ⟨(Nat.le_of_ble_eq_true rfl), (Nat.le_of_ble_eq_true rfl)⟩ [.inr (.inl x_16)] rfl (Nat.le_of_ble_eq_true rfl) rfl hW hS hw) hS C.2.1 ht (Nat.le_of_ble_eq_true rfl) (Nat.le_of_ble_eq_true rfl) (fun x_33 G_33 H locs hw hW hS => ?_)
    refine lv_i2l (v := ((x_33).toInt64)) C.1.1 C.1.2.1 dX1_mixedWithList_36 rfl ?_
    refine tr_backL (tr_runS (As := [.long x_16, .long (((x_33).toInt64))]) C hl.1 (c_X1_mixed l hll K _ x_16 (((x_33).toInt64))) (va_cwS 2 C.1.2.2.2.2 (gi_S (zm kw_102) (zm kw_103) (zm kw_33) (zm kw_101)) rfl rfl rfl (by decide +kernel) ⟨(Nat.le_of_ble_eq_true rfl), (Nat.le_of_ble_eq_true rfl)⟩) rfl dX1_mixedWithList_37 ⟨(Nat.le_of_ble_eq_true rfl), (Nat.le_of_ble_eq_true rfl)⟩ [] rfl (Nat.le_of_ble_eq_true rfl) rfl hW hS hw) hS (fun x_37 G_37 H locs hw hW hS => ?_)
    refine tr_lstore (x := x_37) C hl [(4, .inr (.inl x_37)), (0, .inr (.inr v0)), (1, .inr (.inl v1)), (3, .inl v3)] (by decide) rfl dX1_mixedWithList_40 (fun ls hl => ?_)
    refine tr_lload (x := x_37) C hl 0 rfl dX1_mixedWithList_42 ?_
    refine tr_aload_n (k := 0) (x := v0) C hl 1 rfl dX1_mixedWithList_44 ?_
    refine tr_iload_n (k := 3) (x := v3) C hl 3 rfl dX1_mixedWithList_45 ?_
    refine tx_backI (tx_runV (r := v0) (As := [.int v3]) C hl.1 (c_X1_code l hll K _ _ v0 v3) (cwV 1 C.1.2.2.2.2 (gi_V (zm kw_113) (zm kw_114) (zm kw_115) (zm kw_33) (zm kw_112)) rfl rfl rfl (by decide +kernel) ⟨(Nat.le_of_ble_eq_true rfl), (Nat.le_of_ble_eq_true rfl)⟩) rfl rfl dX1_mixedWithList_46 ⟨(Nat.le_of_ble_eq_true rfl), (Nat.le_of_ble_eq_true rfl)⟩ [.inr (.inl x_37)] rfl (Nat.le_of_ble_eq_true rfl) rfl hW hS hw) hS C.2.1 ht (Nat.le_of_ble_eq_true rfl) (Nat.le_of_ble_eq_true rfl) (fun x_46 G_46 H locs hw hW hS => ?_)
    refine lv_i2l (v := ((x_46).toInt64)) C.1.1 C.1.2.1 dX1_mixedWithList_49 rfl ?_
    refine tr_backL (tr_runS (As := [.long x_37, .long (((x_46).toInt64))]) C hl.1 (c_X1_mixed l hll K _ x_37 (((x_46).toInt64))) (va_cwS 2 C.1.2.2.2.2 (gi_S (zm kw_102) (zm kw_103) (zm kw_33) (zm kw_101)) rfl rfl rfl (by decide +kernel) ⟨(Nat.le_of_ble_eq_true rfl), (Nat.le_of_ble_eq_true rfl)⟩) rfl dX1_mixedWithList_50 ⟨(Nat.le_of_ble_eq_true rfl), (Nat.le_of_ble_eq_true rfl)⟩ [] rfl (Nat.le_of_ble_eq_true rfl) rfl hW hS hw) hS (fun x_50 G_50 H locs hw hW hS => ?_)
    refine tr_lstore (x := x_50) C hl [(4, .inr (.inl x_50)), (0, .inr (.inr v0)), (1, .inr (.inl v1)), (3, .inl v3)] (by decide) rfl dX1_mixedWithList_53 (fun ls hl => ?_)
    refine tr_lload (x := x_50) C hl 0 rfl dX1_mixedWithList_55 ?_
    refine tr_aload_n (k := 0) (x := v0) C hl 1 rfl dX1_mixedWithList_57 ?_
    refine tr_iload_n (k := 3) (x := v3) C hl 3 rfl dX1_mixedWithList_58 ?_
    refine tx_backI (tx_runV (r := v0) (As := [.int v3]) C hl.1 (c_X1_sum l hll K _ _ v0 v3) (cwV 1 C.1.2.2.2.2 (gi_V (zm kw_117) (zm kw_118) (zm kw_119) (zm kw_33) (zm kw_116)) rfl rfl rfl (by decide +kernel) ⟨(Nat.le_of_ble_eq_true rfl), (Nat.le_of_ble_eq_true rfl)⟩) rfl rfl dX1_mixedWithList_59 ⟨(Nat.le_of_ble_eq_true rfl), (Nat.le_of_ble_eq_true rfl)⟩ [.inr (.inl x_50)] rfl (Nat.le_of_ble_eq_true rfl) rfl hW hS hw) hS C.2.1 ht (Nat.le_of_ble_eq_true rfl) (Nat.le_of_ble_eq_true rfl) (fun x_59 G_59 H locs hw hW hS => ?_)
    refine lv_i2l (v := ((x_59).toInt64)) C.1.1 C.1.2.1 dX1_mixedWithList_62 rfl ?_
    refine tr_backL (tr_runS (As := [.long x_50, .long (((x_59).toInt64))]) C hl.1 (c_X1_mixed l hll K _ x_50 (((x_59).toInt64))) (va_cwS 2 C.1.2.2.2.2 (gi_S (zm kw_102) (zm kw_103) (zm kw_33) (zm kw_101)) rfl rfl rfl (by decide +kernel) ⟨(Nat.le_of_ble_eq_true rfl), (Nat.le_of_ble_eq_true rfl)⟩) rfl dX1_mixedWithList_63 ⟨(Nat.le_of_ble_eq_true rfl), (Nat.le_of_ble_eq_true rfl)⟩ [] rfl (Nat.le_of_ble_eq_true rfl) rfl hW hS hw) hS (fun x_63 G_63 H locs hw hW hS => ?_)
    refine tr_lstore (x := x_63) C hl [(4, .inr (.inl x_63)), (0, .inr (.inr v0)), (1, .inr (.inl v1)), (3, .inl v3)] (by decide) rfl dX1_mixedWithList_66 (fun ls hl => ?_)
    exact s_X1_mixedWithList_68 C hr ht hll post postX x_63 _ _ _ _ hW hS (tl_sub hl [0] rfl) hw
end Z_X1_mixedWithList
set_option maxHeartbeats 4000000 in
set_option maxRecDepth 100000 in
theorem c_X1_mixedWithList (l : Launch) (hll : l.stackTraces = false) (K : tK) (post : Int64 → tG → Prop) (postX : String → tG → Prop) (v0 : Option Nat) (v1 : Int64) (v3 : Int32) : Cx l yX1_mixedWithList wz_X1_mixedWithList ({ frames := 8, cells := 5, slots := 30, locals := 128 } : Room) 5 30 [va_rf v0, .long v1, .int v3] K (retL post) postX (fun G => w_X1_mixedWithList K post postX v0 v1 v3 G) := by
  refine tx_of (cc := cX1_mixedWithList) (maxL := 6) (ret := (some .long)) (own := RX1) (by decide) rfl rfl hll [.inr (.inr v0), .inr (.inl v1), .inl v3] rfl (Nat.le_of_ble_eq_true rfl) ?_
  intro p e s m args below meth c D A G ls C hr hn ht hl hW hS hw
  exact s_X1_mixedWithList C hr ht hll post postX v0 v1 v3 _ _ _ _ hW hS hl hw

/-! X1_twinAt -/
def wz_X1_twinAt : List Cond := Cond.code yX1_twinAt cX1_twinAt 3 (some (.object "Twinrow$RowList")) :: w0
section Z_X1_twinAt
variable {p : Program} {l : Launch} {e : Env} {s : State} {m : MethodId} {args : Array Value} {below : List Frame} {meth : Method} {c : Code} {D : va_G} {A : Nat → Prop}
set_option maxHeartbeats 4000000 in
set_option maxRecDepth 100000 in
theorem s_X1_twinAt_14 {K : tK} (C : tc_B p l s m args meth c D K A wz_X1_twinAt RX1 cX1_twinAt 3) (hr : meth.sig.returnType = (some (.object "Twinrow$RowList"))) (ht : ∀ x ∈ c.exceptionTable.toList, False) (hll : l.stackTraces = false)  (post : Option Nat → tG → Prop) (postX : String → tG → Prop) : ∀ (u0 : Option Nat) (G : tG) (H : Heap) (locs : List Loc) (ls : Array Slot), tg_W D A s H G → va_S A s.heap H locs → tl ls 3 [] → w_X1_twinAt_14 K post postX u0 G → W p l e ({ frames := 6, cells := 1, slots := 6, locals := 82 } : Room) s m args below meth c H locs 0 0 (vx_MQ below (tc_Qc D A (retR post)) (tc_XC D A postX) args s 1 6 A) (F0 m 14 ls [va_rf u0]) := by
  intro u0 G H locs ls hW hS hl hw
  unfold w_X1_twinAt_14 at hw
  refine tr_astore_n (k := 2) (x := u0) C hl [(2, .inr (.inr u0))] (by decide) rfl dX1_twinAt_14 (fun ls hl => ?_)
  refine tr_aload_n (k := 2) (x := u0) C hl 0 rfl dX1_twinAt_15 ?_
  refine tr_ifnonnull (tgt := 29) C dX1_twinAt_16 (by decide) (fun hc => ?_) (fun hc => ?_)
  · have hw := hw.1 hc
    refine tr_aload_n (k := 2) (x := u0) C hl 0 rfl dX1_twinAt_29 ?_
    exact vx_ret (tr_aret (x := u0) C hr (Or.inl ⟨_, rfl⟩) dX1_twinAt_30 (Nat.le_of_ble_eq_true rfl) (Nat.le_of_ble_eq_true rfl) hW hS hw)
  · have hw := hw.2 hc
    exact tx_throw (cls := "java/lang/IndexOutOfBoundsException") (text := "there is no such row") (names := ["java/lang/RuntimeException", "java/lang/Exception"]) (cn := 1) C hl.1 ht (by decide +kernel) (by decide +kernel) (zm kw_91) (zm kw_92) (by decide) (zh at_RX1_192) (by decide +kernel) (tc_kx C).2.2.1 (by decide +kernel) dX1_twinAt_19 dX1_twinAt_22 dX1_twinAt_23 dX1_twinAt_25 dX1_twinAt_28 (Nat.le_of_ble_eq_true rfl) (Nat.le_of_ble_eq_true rfl) (Nat.le_of_ble_eq_true rfl) (Nat.le_of_ble_eq_true rfl) (Nat.le_of_ble_eq_true rfl) (Nat.le_of_ble_eq_true rfl) hW hS hw
set_option maxHeartbeats 4000000 in
set_option maxRecDepth 100000 in
theorem s_X1_twinAt {K : tK} (C : tc_B p l s m args meth c D K A wz_X1_twinAt RX1 cX1_twinAt 3) (hr : meth.sig.returnType = (some (.object "Twinrow$RowList"))) (ht : ∀ x ∈ c.exceptionTable.toList, False) (hll : l.stackTraces = false)  (post : Option Nat → tG → Prop) (postX : String → tG → Prop) (v0 : Option Nat) (v1 : Int32) : ∀ (G : tG) (H : Heap) (locs : List Loc) (ls : Array Slot), tg_W D A s H G → va_S A s.heap H locs → tl ls 3 [(0, .inr (.inr v0)), (1, .inl v1)] → w_X1_twinAt K post postX v0 v1 G → W p l e ({ frames := 6, cells := 1, slots := 6, locals := 82 } : Room) s m args below meth c H locs 0 0 (vx_MQ below (tc_Qc D A (retR post)) (tc_XC D A postX) args s 1 6 A) (F0 m 0 ls []) := by
  intro G H locs ls hW hS hl hw
  unfold w_X1_twinAt at hw
  refine tr_iload_n (k := 1) (x := v1) C hl 1 rfl dX1_twinAt_0 ?_
  refine lv_iconst (v := (3 : Int32)) C.1.1 C.1.2.1 dX1_twinAt_1 (by decide) ?_
  refine lv_icmp_ge (tgt := 13) C.1.1 C.1.2.1 dX1_twinAt_2 (by decide) (fun hc => ?_) (fun hc => ?_)
  · have hw := hw.1 hc
    refine tr_null C dX1_twinAt_13 ?_
    exact s_X1_twinAt_14 C hr ht hll post postX none _ _ _ _ hW hS (tl_sub hl [] rfl) hw
  · have hw := hw.2 hc
    refine tr_aload_n (k := 0) (x := v0) C hl 0 rfl dX1_twinAt_5 ?_
    refine tr_iload_n (k := 1) (x := v1) C hl 1 rfl dX1_twinAt_6 ?_
    refine tr_backR (tr_runV (r := v0) (As := [.int v1]) C hl.1 (c_X1_listOrNull l hll K _ v0 v1) (cwV 1 C.1.2.2.2.2 (gi_V (zm kw_65) (zm kw_66) (zm kw_67) (zm kw_33) (zm kw_64)) rfl rfl rfl (by decide +kernel) ⟨(Nat.le_of_ble_eq_true rfl), (Nat.le_of_ble_eq_true rfl)⟩) rfl rfl dX1_twinAt_7 ⟨(Nat.le_of_ble_eq_true rfl), (Nat.le_of_ble_eq_true rfl)⟩ [] rfl (Nat.le_of_ble_eq_true rfl) rfl hW hS hw) hS (fun x_7 G_7 H locs hw hW hS => ?_)
    refine lv_goto (tgt := 14) C.1.1 C.1.2.1 dX1_twinAt_10 (by decide) ?_
    exact s_X1_twinAt_14 C hr ht hll post postX x_7 _ _ _ _ hW hS (tl_sub hl [] rfl) hw
end Z_X1_twinAt
set_option maxHeartbeats 4000000 in
set_option maxRecDepth 100000 in
theorem c_X1_twinAt (l : Launch) (hll : l.stackTraces = false) (K : tK) (post : Option Nat → tG → Prop) (postX : String → tG → Prop) (v0 : Option Nat) (v1 : Int32) : Cx l yX1_twinAt wz_X1_twinAt ({ frames := 6, cells := 1, slots := 6, locals := 82 } : Room) 1 6 [va_rf v0, .int v1] K (retR post) postX (fun G => w_X1_twinAt K post postX v0 v1 G) := by
  refine tx_of (cc := cX1_twinAt) (maxL := 3) (ret := (some (.object "Twinrow$RowList"))) (own := RX1) (by decide) rfl rfl hll [.inr (.inr v0), .inl v1] rfl (Nat.le_of_ble_eq_true rfl) ?_
  intro p e s m args below meth c D A G ls C hr hn ht hl hW hS hw
  exact s_X1_twinAt C hr ht hll post postX v0 v1 _ _ _ _ hW hS hl hw

/-! X1_mixedWithRow -/
def wz_X1_mixedWithRow : List Cond := Cond.code yX1_mixedWithRow cX1_mixedWithRow 8 (some .long) :: w0
section Z_X1_mixedWithRow
variable {p : Program} {l : Launch} {e : Env} {s : State} {m : MethodId} {args : Array Value} {below : List Frame} {meth : Method} {c : Code} {D : va_G} {A : Nat → Prop}
set_option maxHeartbeats 4000000 in
set_option maxRecDepth 100000 in
theorem s_X1_mixedWithRow_22_b {K : tK} (C : tc_B p l s m args meth c D K A wz_X1_mixedWithRow RX1 cX1_mixedWithRow 8) (hr : meth.sig.returnType = (some .long)) (ht : ∀ x ∈ c.exceptionTable.toList, False) (hll : l.stackTraces = false)  (post : Int64 → tG → Prop) (postX : String → tG → Prop) (k22 : Option Nat → Int64 → Int32 → tG → Prop) (hk22 : ∀ (v4 : Option Nat) (v5 : Int64) (v7 : Int32) (G : tG) (H : Heap) (locs : List Loc) (ls : Array Slot), tg_W D A s H G → va_S A s.heap H locs → tl ls 8 [(4, .inr (.inr v4)), (5, .inr (.inl v5)), (7, .inl v7)] → k22 v4 v5 v7 G → W p l e ({ frames := 7, cells := 1, slots := 6, locals := 104 } : Room) s m args below meth c H locs 1 6 (vx_MQ below (tc_Qc D A (retL post)) (tc_XC D A postX) args s 1 6 A) (F0 m 22 ls [])) : ∀ (v4 : Option Nat) (v5 : Int64) (v7 : Int32) (G : tG) (H : Heap) (locs : List Loc) (ls : Array Slot), tg_W D A s H G → va_S A s.heap H locs → tl ls 8 [(4, .inr (.inr v4)), (5, .inr (.inl v5)), (7, .inl v7)] → w_X1_mixedWithRow_22_b K post postX k22 v4 v5 v7 G → W p l e ({ frames := 7, cells := 1, slots := 6, locals := 104 } : Room) s m args below meth c H locs 1 6 (vx_MQ below (tc_Qc D A (retL post)) (tc_XC D A postX) args s 1 6 A) (F0 m 22 ls []) := by
  intro v4 v5 v7 G H locs ls hW hS hl hw
  unfold w_X1_mixedWithRow_22_b at hw
  refine tr_iload (x := v7) C hl 2 rfl dX1_mixedWithRow_22 ?_
  refine tr_aload (x := v4) C hl 0 rfl dX1_mixedWithRow_24 ?_
  refine tr_gfI (C0 := RX0) (T := TX0) (N := 4) (ci := 2) (ref := "Twinrow$RowList") (k := 3) (r := v4) C (zh hw_X0) rfl (by decide) (zm kw_34) rfl dX1_mixedWithRow_26 hW hw (fun x_26 hw => ?_)
  refine lv_icmp_ge (tgt := 53) C.1.1 C.1.2.1 dX1_mixedWithRow_29 (by decide) (fun hc => ?_) (fun hc => ?_)
  · have hw := hw.1 hc
    refine tr_lload (x := v5) C hl 1 rfl dX1_mixedWithRow_53 ?_
    exact vx_ret (tr_lret C hr dX1_mixedWithRow_55 (Nat.le_of_ble_eq_true rfl) (Nat.le_of_ble_eq_true rfl) hW hS hw)
  · have hw := hw.2 hc
    refine tr_lload (x := v5) C hl 1 rfl dX1_mixedWithRow_32 ?_
    refine tr_aload (x := v4) C hl 0 rfl dX1_mixedWithRow_34 ?_
    refine tr_iload (x := v7) C hl 2 rfl dX1_mixedWithRow_36 ?_
    refine tr_backI (tr_runV (r := v4) (As := [.int v7]) C hl.1 (c_X0_read l hll K _ v4 v7) (cwV 1 C.1.2.2.2.2 (gi_V (zm kw_27) (zm kw_28) (zm kw_29) (zm kw_10) (zm kw_26)) rfl rfl rfl (by decide +kernel) ⟨(Nat.le_of_ble_eq_true rfl), (Nat.le_of_ble_eq_true rfl)⟩) rfl rfl dX1_mixedWithRow_38 ⟨(Nat.le_of_ble_eq_true rfl), (Nat.le_of_ble_eq_true rfl)⟩ [.inr (.inl v5)] rfl (Nat.le_of_ble_eq_true rfl) rfl hW hS hw) hS (fun x_38 G_38 H locs hw hW hS => ?_)
    refine lv_i2l (v := ((x_38).toInt64)) C.1.1 C.1.2.1 dX1_mixedWithRow_41 rfl ?_
    refine tr_backL (tr_runS (As := [.long v5, .long (((x_38).toInt64))]) C hl.1 (c_X1_mixed l hll K _ v5 (((x_38).toInt64))) (va_cwS 2 C.1.2.2.2.2 (gi_S (zm kw_102) (zm kw_103) (zm kw_33) (zm kw_101)) rfl rfl rfl (by decide +kernel) ⟨(Nat.le_of_ble_eq_true rfl), (Nat.le_of_ble_eq_true rfl)⟩) rfl dX1_mixedWithRow_42 ⟨(Nat.le_of_ble_eq_true rfl), (Nat.le_of_ble_eq_true rfl)⟩ [] rfl (Nat.le_of_ble_eq_true rfl) rfl hW hS hw) hS (fun x_42 G_42 H locs hw hW hS => ?_)
    refine tr_lstore (x := x_42) C hl [(5, .inr (.inl x_42)), (4, .inr (.inr v4)), (7, .inl v7)] (by decide) rfl dX1_mixedWithRow_45 (fun ls hl => ?_)
    refine tr_iinc C hl 2 (v7 + (1 : Int32)) [(7, .inl (v7 + (1 : Int32))), (5, .inr (.inl x_42)), (4, .inr (.inr v4))] rfl rfl (by decide) rfl dX1_mixedWithRow_47 (fun ls hl => ?_)
    refine lv_goto (tgt := 22) C.1.1 C.1.2.1 dX1_mixedWithRow_50 (by decide) ?_
    exact hk22 v4 x_42 ((v7 + (1 : Int32))) _ _ _ _ hW hS (tl_sub hl [2, 1, 0] rfl) hw
set_option maxHeartbeats 4000000 in
set_option maxRecDepth 100000 in
theorem s_X1_mixedWithRow_22 {K : tK} (C : tc_B p l s m args meth c D K A wz_X1_mixedWithRow RX1 cX1_mixedWithRow 8) (hr : meth.sig.returnType = (some .long)) (ht : ∀ x ∈ c.exceptionTable.toList, False) (hll : l.stackTraces = false)  (post : Int64 → tG → Prop) (postX : String → tG → Prop) : ∀ (n : Nat) (v4 : Option Nat) (v5 : Int64) (v7 : Int32) (G : tG) (H : Heap) (locs : List Loc) (ls : Array Slot), tg_W D A s H G → va_S A s.heap H locs → tl ls 8 [(4, .inr (.inr v4)), (5, .inr (.inl v5)), (7, .inl v7)] → w_X1_mixedWithRow_22 K post postX n v4 v5 v7 G → W p l e ({ frames := 7, cells := 1, slots := 6, locals := 104 } : Room) s m args below meth c H locs 1 6 (vx_MQ below (tc_Qc D A (retL post)) (tc_XC D A postX) args s 1 6 A) (F0 m 22 ls []) := by
  intro n
  induction n with
  | zero =>
    intro v4 v5 v7 G H locs ls hW hS hl hw
    exact hw.elim
  | succ n ih => exact s_X1_mixedWithRow_22_b C hr ht hll post postX _ ih
set_option maxHeartbeats 4000000 in
set_option maxRecDepth 100000 in
theorem s_X1_mixedWithRow {K : tK} (C : tc_B p l s m args meth c D K A wz_X1_mixedWithRow RX1 cX1_mixedWithRow 8) (hr : meth.sig.returnType = (some .long)) (ht : ∀ x ∈ c.exceptionTable.toList, False) (hll : l.stackTraces = false)  (post : Int64 → tG → Prop) (postX : String → tG → Prop) (v0 : Option Nat) (v1 : Int64) (v3 : Int32) : ∀ (G : tG) (H : Heap) (locs : List Loc) (ls : Array Slot), tg_W D A s H G → va_S A s.heap H locs → tl ls 8 [(0, .inr (.inr v0)), (1, .inr (.inl v1)), (3, .inl v3)] → w_X1_mixedWithRow K post postX v0 v1 v3 G → W p l e ({ frames := 7, cells := 1, slots := 6, locals := 104 } : Room) s m args below meth c H locs 0 0 (vx_MQ below (tc_Qc D A (retL post)) (tc_XC D A postX) args s 1 6 A) (F0 m 0 ls []) := by
  intro G H locs ls hW hS hl hw
  unfold w_X1_mixedWithRow at hw
  refine tr_aload_n (k := 0) (x := v0) C hl 0 rfl dX1_mixedWithRow_0 ?_
  refine tr_iload_n (k := 3) (x := v3) C hl 2 rfl dX1_mixedWithRow_1 ?_
  refine tx_backR (tx_runV (r := v0) (As := [.int v3]) C hl.1 (c_X1_twinAt l hll K _ _ v0 v3) (cwV 1 C.1.2.2.2.2 (gi_V (zm kw_121) (zm kw_122) (zm kw_123) (zm kw_33) (zm kw_120)) rfl rfl rfl (by decide +kernel) ⟨(Nat.le_of_ble_eq_true rfl), (Nat.le_of_ble_eq_true rfl)⟩) rfl rfl dX1_mixedWithRow_2 ⟨(Nat.le_of_ble_eq_true rfl), (Nat.le_of_ble_eq_true rfl)⟩ [] rfl (Nat.le_of_ble_eq_true rfl) rfl hW hS hw) hS C.2.1 ht (Nat.le_of_ble_eq_true rfl) (Nat.le_of_ble_eq_true rfl) (fun x_2 G_2 H locs hw hW hS => ?_)
  refine tr_astore (x := x_2) C hl [(4, .inr (.inr x_2)), (0, .inr (.inr v0)), (1, .inr (.inl v1)), (3, .inl v3)] (by decide) rfl dX1_mixedWithRow_5 (fun ls hl => ?_)
  refine tr_lload_n (k := 1) (x := v1) C hl 2 rfl dX1_mixedWithRow_7 ?_
  refine tr_aload (x := x_2) C hl 0 rfl dX1_mixedWithRow_8 ?_
  refine tr_gfI (C0 := RX0) (T := TX0) (N := 4) (ci := 2) (ref := "Twinrow$RowList") (k := 3) (r := x_2) C (zh hw_X0) rfl (by decide) (zm kw_34) rfl dX1_mixedWithRow_10 hW hw (fun x_10 hw => ?_)
  refine lv_i2l (v := ((x_10).toInt64)) C.1.1 C.1.2.1 dX1_mixedWithRow_13 rfl ?_
  refine tr_backL (tr_runS (As := [.long v1, .long (((x_10).toInt64))]) C hl.1 (c_X1_mixed l hll K _ v1 (((x_10).toInt64))) (va_cwS 2 C.1.2.2.2.2 (gi_S (zm kw_102) (zm kw_103) (zm kw_33) (zm kw_101)) rfl rfl rfl (by decide +kernel) ⟨(Nat.le_of_ble_eq_true rfl), (Nat.le_of_ble_eq_true rfl)⟩) rfl dX1_mixedWithRow_14 ⟨(Nat.le_of_ble_eq_true rfl), (Nat.le_of_ble_eq_true rfl)⟩ [] rfl (Nat.le_of_ble_eq_true rfl) rfl hW hS hw) hS (fun x_14 G_14 H locs hw hW hS => ?_)
  refine tr_lstore (x := x_14) C hl [(5, .inr (.inl x_14)), (4, .inr (.inr x_2)), (0, .inr (.inr v0)), (1, .inr (.inl v1)), (3, .inl v3)] (by decide) rfl dX1_mixedWithRow_17 (fun ls hl => ?_)
  refine lv_iconst (v := (0 : Int32)) C.1.1 C.1.2.1 dX1_mixedWithRow_19 (by decide) ?_
  refine tr_istore (x := (0 : Int32)) C hl [(7, .inl (0 : Int32)), (5, .inr (.inl x_14)), (4, .inr (.inr x_2)), (0, .inr (.inr v0)), (1, .inr (.inl v1)), (3, .inl v3)] (by decide) rfl dX1_mixedWithRow_20 (fun ls hl => ?_)
  obtain ⟨n22, hw⟩ := hw
  exact s_X1_mixedWithRow_22 C hr ht hll post postX n22 x_2 x_14 ((0 : Int32)) _ _ _ _ hW hS (tl_sub hl [2, 1, 0] rfl) hw
end Z_X1_mixedWithRow
set_option maxHeartbeats 4000000 in
set_option maxRecDepth 100000 in
theorem c_X1_mixedWithRow (l : Launch) (hll : l.stackTraces = false) (K : tK) (post : Int64 → tG → Prop) (postX : String → tG → Prop) (v0 : Option Nat) (v1 : Int64) (v3 : Int32) : Cx l yX1_mixedWithRow wz_X1_mixedWithRow ({ frames := 7, cells := 1, slots := 6, locals := 104 } : Room) 1 6 [va_rf v0, .long v1, .int v3] K (retL post) postX (fun G => w_X1_mixedWithRow K post postX v0 v1 v3 G) := by
  refine tx_of (cc := cX1_mixedWithRow) (maxL := 8) (ret := (some .long)) (own := RX1) (by decide) rfl rfl hll [.inr (.inr v0), .inr (.inl v1), .inl v3] rfl (Nat.le_of_ble_eq_true rfl) ?_
  intro p e s m args below meth c D A G ls C hr hn ht hl hW hS hw
  exact s_X1_mixedWithRow C hr ht hll post postX v0 v1 v3 _ _ _ _ hW hS hl hw

/-! X1_placesOfRows -/
def wz_X1_placesOfRows : List Cond := Cond.code yX1_placesOfRows cX1_placesOfRows 3 (some .int) :: w0
section Z_X1_placesOfRows
variable {p : Program} {l : Launch} {e : Env} {s : State} {m : MethodId} {args : Array Value} {below : List Frame} {meth : Method} {c : Code} {D : va_G} {A : Nat → Prop}
set_option maxHeartbeats 4000000 in
set_option maxRecDepth 100000 in
theorem s_X1_placesOfRows_4_b {K : tK} (C : tc_B p l s m args meth c D K A wz_X1_placesOfRows RX1 cX1_placesOfRows 3) (hr : meth.sig.returnType = (some .int)) (ht : ∀ x ∈ c.exceptionTable.toList, False) (hll : l.stackTraces = false)  (post : Int32 → tG → Prop) (postX : String → tG → Prop) (k4 : Nat → Nat → Option Nat → Int32 → Int32 → tG → Prop) (hk4 : ∀ (nc ns : Nat) (v0 : Option Nat) (v1 : Int32) (v2 : Int32) (G : tG) (H : Heap) (locs : List Loc) (ls : Array Slot), nc ≤ 3 ∧ ns ≤ 18 → tg_W D A s H G → va_S A s.heap H locs → tl ls 3 [(0, .inr (.inr v0)), (1, .inl v1), (2, .inl v2)] → k4 nc ns v0 v1 v2 G → W p l e ({ frames := 7, cells := 3, slots := 18, locals := 104 } : Room) s m args below meth c H locs nc ns (vx_MQ below (tc_Qc D A (retI post)) (tc_XC D A postX) args s 3 18 A) (F0 m 4 ls [])) : ∀ (nc ns : Nat) (v0 : Option Nat) (v1 : Int32) (v2 : Int32) (G : tG) (H : Heap) (locs : List Loc) (ls : Array Slot), nc ≤ 3 ∧ ns ≤ 18 → tg_W D A s H G → va_S A s.heap H locs → tl ls 3 [(0, .inr (.inr v0)), (1, .inl v1), (2, .inl v2)] → w_X1_placesOfRows_4_b K post postX k4 nc ns v0 v1 v2 G → W p l e ({ frames := 7, cells := 3, slots := 18, locals := 104 } : Room) s m args below meth c H locs nc ns (vx_MQ below (tc_Qc D A (retI post)) (tc_XC D A postX) args s 3 18 A) (F0 m 4 ls []) := by
  intro nc ns v0 v1 v2 G H locs ls hcn hW hS hl hw
  unfold w_X1_placesOfRows_4_b at hw
  refine tr_iload_n (k := 2) (x := v2) C hl 2 rfl dX1_placesOfRows_4 ?_
  refine lv_iconst (v := (3 : Int32)) C.1.1 C.1.2.1 dX1_placesOfRows_5 (by decide) ?_
  refine lv_icmp_ge (tgt := 26) C.1.1 C.1.2.1 dX1_placesOfRows_6 (by decide) (fun hc => ?_) (fun hc => ?_)
  · have hw := hw.1 hc
    refine tr_iload_n (k := 1) (x := v1) C hl 1 rfl dX1_placesOfRows_26 ?_
    exact vx_ret (tr_iret C hr dX1_placesOfRows_27 (show nc ≤ 3 by omega) (show ns ≤ 18 by omega) hW hS hw)
  · have hw := hw.2 hc
    refine tr_iload_n (k := 1) (x := v1) C hl 1 rfl dX1_placesOfRows_9 ?_
    refine tr_aload_n (k := 0) (x := v0) C hl 0 rfl dX1_placesOfRows_10 ?_
    refine tr_iload_n (k := 2) (x := v2) C hl 2 rfl dX1_placesOfRows_11 ?_
    have hq1 := hw.1
    have hw := hw.2
    refine tx_backR (tx_runV (r := v0) (As := [.int v2]) C hl.1 (c_X1_twinAt l hll K _ _ v0 v2) (cwV 1 C.1.2.2.2.2 (gi_V (zm kw_121) (zm kw_122) (zm kw_123) (zm kw_33) (zm kw_120)) rfl rfl rfl (by decide +kernel) ⟨(Nat.le_of_ble_eq_true rfl), (Nat.le_of_ble_eq_true rfl)⟩) rfl rfl dX1_placesOfRows_12 ⟨hq1.1, hq1.2⟩ [.inl v1] rfl (Nat.le_of_ble_eq_true rfl) rfl hW hS hw) hS C.2.1 ht hq1.1 hq1.2 (fun x_12 G_12 H locs hw hW hS => ?_)
    refine tr_gfI (C0 := RX0) (T := TX0) (N := 4) (ci := 2) (ref := "Twinrow$RowList") (k := 3) (r := x_12) C (zh hw_X0) rfl (by decide) (zm kw_34) rfl dX1_placesOfRows_15 hW hw (fun x_15 hw => ?_)
    refine lv_iadd C.1.1 C.1.2.1 dX1_placesOfRows_18 ?_
    refine tr_istore_n (k := 1) (x := (v1 + x_15)) C hl [(1, .inl (v1 + x_15)), (0, .inr (.inr v0)), (2, .inl v2)] (by decide) rfl dX1_placesOfRows_19 (fun ls hl => ?_)
    refine tr_iinc C hl 2 (v2 + (1 : Int32)) [(2, .inl (v2 + (1 : Int32))), (1, .inl (v1 + x_15)), (0, .inr (.inr v0))] rfl rfl (by decide) rfl dX1_placesOfRows_20 (fun ls hl => ?_)
    refine lv_goto (tgt := 4) C.1.1 C.1.2.1 dX1_placesOfRows_23 (by decide) ?_
    exact hk4 ((nc + 1)) ((ns + 6)) v0 ((v1 + x_15)) ((v2 + (1 : Int32))) _ _ _ _ (show (nc + 1) ≤ 3 ∧ (ns + 6) ≤ 18 by omega) hW hS (tl_sub hl [2, 1, 0] rfl) hw
set_option maxHeartbeats 4000000 in
set_option maxRecDepth 100000 in
theorem s_X1_placesOfRows_4 {K : tK} (C : tc_B p l s m args meth c D K A wz_X1_placesOfRows RX1 cX1_placesOfRows 3) (hr : meth.sig.returnType = (some .int)) (ht : ∀ x ∈ c.exceptionTable.toList, False) (hll : l.stackTraces = false)  (post : Int32 → tG → Prop) (postX : String → tG → Prop) : ∀ (n : Nat) (nc ns : Nat) (v0 : Option Nat) (v1 : Int32) (v2 : Int32) (G : tG) (H : Heap) (locs : List Loc) (ls : Array Slot), nc ≤ 3 ∧ ns ≤ 18 → tg_W D A s H G → va_S A s.heap H locs → tl ls 3 [(0, .inr (.inr v0)), (1, .inl v1), (2, .inl v2)] → w_X1_placesOfRows_4 K post postX n nc ns v0 v1 v2 G → W p l e ({ frames := 7, cells := 3, slots := 18, locals := 104 } : Room) s m args below meth c H locs nc ns (vx_MQ below (tc_Qc D A (retI post)) (tc_XC D A postX) args s 3 18 A) (F0 m 4 ls []) := by
  intro n
  induction n with
  | zero =>
    intro nc ns v0 v1 v2 G H locs ls hcn hW hS hl hw
    exact hw.elim
  | succ n ih => exact s_X1_placesOfRows_4_b C hr ht hll post postX _ ih
set_option maxHeartbeats 4000000 in
set_option maxRecDepth 100000 in
theorem s_X1_placesOfRows {K : tK} (C : tc_B p l s m args meth c D K A wz_X1_placesOfRows RX1 cX1_placesOfRows 3) (hr : meth.sig.returnType = (some .int)) (ht : ∀ x ∈ c.exceptionTable.toList, False) (hll : l.stackTraces = false)  (post : Int32 → tG → Prop) (postX : String → tG → Prop) (v0 : Option Nat) : ∀ (G : tG) (H : Heap) (locs : List Loc) (ls : Array Slot), tg_W D A s H G → va_S A s.heap H locs → tl ls 3 [(0, .inr (.inr v0))] → w_X1_placesOfRows K post postX v0 G → W p l e ({ frames := 7, cells := 3, slots := 18, locals := 104 } : Room) s m args below meth c H locs 0 0 (vx_MQ below (tc_Qc D A (retI post)) (tc_XC D A postX) args s 3 18 A) (F0 m 0 ls []) := by
  intro G H locs ls hW hS hl hw
  unfold w_X1_placesOfRows at hw
  refine lv_iconst (v := (0 : Int32)) C.1.1 C.1.2.1 dX1_placesOfRows_0 (by decide) ?_
  refine tr_istore_n (k := 1) (x := (0 : Int32)) C hl [(1, .inl (0 : Int32)), (0, .inr (.inr v0))] (by decide) rfl dX1_placesOfRows_1 (fun ls hl => ?_)
  refine lv_iconst (v := (0 : Int32)) C.1.1 C.1.2.1 dX1_placesOfRows_2 (by decide) ?_
  refine tr_istore_n (k := 2) (x := (0 : Int32)) C hl [(2, .inl (0 : Int32)), (1, .inl (0 : Int32)), (0, .inr (.inr v0))] (by decide) rfl dX1_placesOfRows_3 (fun ls hl => ?_)
  obtain ⟨n4, hw⟩ := hw
  exact s_X1_placesOfRows_4 C hr ht hll post postX n4 0 0 v0 ((0 : Int32)) ((0 : Int32)) _ _ _ _ (show 0 ≤ 3 ∧ 0 ≤ 18 by omega) hW hS (tl_sub hl [2, 1, 0] rfl) hw
end Z_X1_placesOfRows
set_option maxHeartbeats 4000000 in
set_option maxRecDepth 100000 in
theorem c_X1_placesOfRows (l : Launch) (hll : l.stackTraces = false) (K : tK) (post : Int32 → tG → Prop) (postX : String → tG → Prop) (v0 : Option Nat) : Cx l yX1_placesOfRows wz_X1_placesOfRows ({ frames := 7, cells := 3, slots := 18, locals := 104 } : Room) 3 18 [va_rf v0] K (retI post) postX (fun G => w_X1_placesOfRows K post postX v0 G) := by
  refine tx_of (cc := cX1_placesOfRows) (maxL := 3) (ret := (some .int)) (own := RX1) (by decide) rfl rfl hll [.inr (.inr v0)] rfl (Nat.le_of_ble_eq_true rfl) ?_
  intro p e s m args below meth c D A G ls C hr hn ht hl hW hS hw
  exact s_X1_placesOfRows C hr ht hll post postX v0 _ _ _ _ hW hS hl hw

/-! X1_partsThere -/
def wz_X1_partsThere : List Cond := Cond.code yX1_partsThere cX1_partsThere 3 (some .int) :: w0
section Z_X1_partsThere
variable {p : Program} {l : Launch} {e : Env} {s : State} {m : MethodId} {args : Array Value} {below : List Frame} {meth : Method} {c : Code} {D : va_G} {A : Nat → Prop}
set_option maxHeartbeats 4000000 in
set_option maxRecDepth 100000 in
theorem s_X1_partsThere_24 {K : tK} (C : tc_B p l s m args meth c D K A wz_X1_partsThere RX1 cX1_partsThere 3) (hr : meth.sig.returnType = (some .int)) (hll : l.stackTraces = false)  (post : Int32 → tG → Prop) (k4 : Option Nat → Int32 → Int32 → tG → Prop) (hk4 : ∀ (v0 : Option Nat) (v1 : Int32) (v2 : Int32) (G : tG) (H : Heap) (locs : List Loc) (ls : Array Slot), tg_W D A s H G → va_S A s.heap H locs → tl ls 3 [(0, .inr (.inr v0)), (1, .inl v1), (2, .inl v2)] → k4 v0 v1 v2 G → W p l e ({ frames := 1, cells := 0, slots := 0, locals := 21 } : Room) s m args below meth c H locs 0 0 (MQ below (tc_Qc D A (retI post)) args s 0 0 A) (F0 m 4 ls [])) : ∀ (v0 : Option Nat) (v2 : Int32) (u0 : Int32) (u1 : Int32) (G : tG) (H : Heap) (locs : List Loc) (ls : Array Slot), tg_W D A s H G → va_S A s.heap H locs → tl ls 3 [(0, .inr (.inr v0)), (2, .inl v2)] → w_X1_partsThere_24 K post k4 v0 v2 u0 u1 G → W p l e ({ frames := 1, cells := 0, slots := 0, locals := 21 } : Room) s m args below meth c H locs 0 0 (MQ below (tc_Qc D A (retI post)) args s 0 0 A) (F0 m 24 ls [.int u1, .int u0]) := by
  intro v0 v2 u0 u1 G H locs ls hW hS hl hw
  unfold w_X1_partsThere_24 at hw
  refine lv_iadd C.1.1 C.1.2.1 dX1_partsThere_24 ?_
  refine tr_istore_n (k := 1) (x := (u0 + u1)) C hl [(1, .inl (u0 + u1)), (0, .inr (.inr v0)), (2, .inl v2)] (by decide) rfl dX1_partsThere_25 (fun ls hl => ?_)
  refine tr_iinc C hl 2 (v2 + (1 : Int32)) [(2, .inl (v2 + (1 : Int32))), (1, .inl (u0 + u1)), (0, .inr (.inr v0))] rfl rfl (by decide) rfl dX1_partsThere_26 (fun ls hl => ?_)
  refine lv_goto (tgt := 4) C.1.1 C.1.2.1 dX1_partsThere_29 (by decide) ?_
  exact hk4 v0 ((u0 + u1)) ((v2 + (1 : Int32))) _ _ _ _ hW hS (tl_sub hl [2, 1, 0] rfl) hw
set_option maxHeartbeats 4000000 in
set_option maxRecDepth 100000 in
theorem s_X1_partsThere_4_b {K : tK} (C : tc_B p l s m args meth c D K A wz_X1_partsThere RX1 cX1_partsThere 3) (hr : meth.sig.returnType = (some .int)) (hll : l.stackTraces = false)  (post : Int32 → tG → Prop) (k4 : Option Nat → Int32 → Int32 → tG → Prop) (hk4 : ∀ (v0 : Option Nat) (v1 : Int32) (v2 : Int32) (G : tG) (H : Heap) (locs : List Loc) (ls : Array Slot), tg_W D A s H G → va_S A s.heap H locs → tl ls 3 [(0, .inr (.inr v0)), (1, .inl v1), (2, .inl v2)] → k4 v0 v1 v2 G → W p l e ({ frames := 1, cells := 0, slots := 0, locals := 21 } : Room) s m args below meth c H locs 0 0 (MQ below (tc_Qc D A (retI post)) args s 0 0 A) (F0 m 4 ls [])) : ∀ (v0 : Option Nat) (v1 : Int32) (v2 : Int32) (G : tG) (H : Heap) (locs : List Loc) (ls : Array Slot), tg_W D A s H G → va_S A s.heap H locs → tl ls 3 [(0, .inr (.inr v0)), (1, .inl v1), (2, .inl v2)] → w_X1_partsThere_4_b K post k4 v0 v1 v2 G → W p l e ({ frames := 1, cells := 0, slots := 0, locals := 21 } : Room) s m args below meth c H locs 0 0 (MQ below (tc_Qc D A (retI post)) args s 0 0 A) (F0 m 4 ls []) := by
  intro v0 v1 v2 G H locs ls hW hS hl hw
  unfold w_X1_partsThere_4_b at hw
  refine tr_iload_n (k := 2) (x := v2) C hl 2 rfl dX1_partsThere_4 ?_
  refine lv_bipush (v := (7 : Int32)) C.1.1 C.1.2.1 dX1_partsThere_5 (by decide) ?_
  refine lv_icmp_ge (tgt := 32) C.1.1 C.1.2.1 dX1_partsThere_7 (by decide) (fun hc => ?_) (fun hc => ?_)
  · have hw := hw.1 hc
    refine tr_iload_n (k := 1) (x := v1) C hl 1 rfl dX1_partsThere_32 ?_
    exact tr_iret C hr dX1_partsThere_33 (Nat.le_of_ble_eq_true rfl) (Nat.le_of_ble_eq_true rfl) hW hS hw
  · have hw := hw.2 hc
    refine tr_iload_n (k := 1) (x := v1) C hl 1 rfl dX1_partsThere_10 ?_
    refine tr_aload_n (k := 0) (x := v0) C hl 0 rfl dX1_partsThere_11 ?_
    refine tr_iload_n (k := 2) (x := v2) C hl 2 rfl dX1_partsThere_12 ?_
    refine tr_backR (tr_runV (r := v0) (As := [.int v2]) C hl.1 (c_X1_listOrNull l hll K _ v0 v2) (cwV 1 C.1.2.2.2.2 (gi_V (zm kw_65) (zm kw_66) (zm kw_67) (zm kw_33) (zm kw_64)) rfl rfl rfl (by decide +kernel) ⟨(Nat.le_of_ble_eq_true rfl), (Nat.le_of_ble_eq_true rfl)⟩) rfl rfl dX1_partsThere_13 ⟨(Nat.le_of_ble_eq_true rfl), (Nat.le_of_ble_eq_true rfl)⟩ [.inl v1] rfl (Nat.le_of_ble_eq_true rfl) rfl hW hS hw) hS (fun x_13 G_13 H locs hw hW hS => ?_)
    refine tr_ifnonnull (tgt := 23) C dX1_partsThere_16 (by decide) (fun hc => ?_) (fun hc => ?_)
    · have hw := hw.1 hc
      refine lv_iconst (v := (1 : Int32)) C.1.1 C.1.2.1 dX1_partsThere_23 (by decide) ?_
      exact s_X1_partsThere_24 C hr hll post k4 hk4 v0 v2 v1 ((1 : Int32)) _ _ _ _ hW hS (tl_sub hl [0, 2] rfl) hw
    · have hw := hw.2 hc
      refine lv_iconst (v := (0 : Int32)) C.1.1 C.1.2.1 dX1_partsThere_19 (by decide) ?_
      refine lv_goto (tgt := 24) C.1.1 C.1.2.1 dX1_partsThere_20 (by decide) ?_
      exact s_X1_partsThere_24 C hr hll post k4 hk4 v0 v2 v1 ((0 : Int32)) _ _ _ _ hW hS (tl_sub hl [0, 2] rfl) hw
set_option maxHeartbeats 4000000 in
set_option maxRecDepth 100000 in
theorem s_X1_partsThere_4 {K : tK} (C : tc_B p l s m args meth c D K A wz_X1_partsThere RX1 cX1_partsThere 3) (hr : meth.sig.returnType = (some .int)) (hll : l.stackTraces = false)  (post : Int32 → tG → Prop) : ∀ (n : Nat) (v0 : Option Nat) (v1 : Int32) (v2 : Int32) (G : tG) (H : Heap) (locs : List Loc) (ls : Array Slot), tg_W D A s H G → va_S A s.heap H locs → tl ls 3 [(0, .inr (.inr v0)), (1, .inl v1), (2, .inl v2)] → w_X1_partsThere_4 K post n v0 v1 v2 G → W p l e ({ frames := 1, cells := 0, slots := 0, locals := 21 } : Room) s m args below meth c H locs 0 0 (MQ below (tc_Qc D A (retI post)) args s 0 0 A) (F0 m 4 ls []) := by
  intro n
  induction n with
  | zero =>
    intro v0 v1 v2 G H locs ls hW hS hl hw
    exact hw.elim
  | succ n ih => exact s_X1_partsThere_4_b C hr hll post _ ih
set_option maxHeartbeats 4000000 in
set_option maxRecDepth 100000 in
theorem s_X1_partsThere {K : tK} (C : tc_B p l s m args meth c D K A wz_X1_partsThere RX1 cX1_partsThere 3) (hr : meth.sig.returnType = (some .int)) (hll : l.stackTraces = false)  (post : Int32 → tG → Prop) (v0 : Option Nat) : ∀ (G : tG) (H : Heap) (locs : List Loc) (ls : Array Slot), tg_W D A s H G → va_S A s.heap H locs → tl ls 3 [(0, .inr (.inr v0))] → w_X1_partsThere K post v0 G → W p l e ({ frames := 1, cells := 0, slots := 0, locals := 21 } : Room) s m args below meth c H locs 0 0 (MQ below (tc_Qc D A (retI post)) args s 0 0 A) (F0 m 0 ls []) := by
  intro G H locs ls hW hS hl hw
  unfold w_X1_partsThere at hw
  refine lv_iconst (v := (0 : Int32)) C.1.1 C.1.2.1 dX1_partsThere_0 (by decide) ?_
  refine tr_istore_n (k := 1) (x := (0 : Int32)) C hl [(1, .inl (0 : Int32)), (0, .inr (.inr v0))] (by decide) rfl dX1_partsThere_1 (fun ls hl => ?_)
  refine lv_iconst (v := (3 : Int32)) C.1.1 C.1.2.1 dX1_partsThere_2 (by decide) ?_
  refine tr_istore_n (k := 2) (x := (3 : Int32)) C hl [(2, .inl (3 : Int32)), (1, .inl (0 : Int32)), (0, .inr (.inr v0))] (by decide) rfl dX1_partsThere_3 (fun ls hl => ?_)
  obtain ⟨n4, hw⟩ := hw
  exact s_X1_partsThere_4 C hr hll post n4 v0 ((0 : Int32)) ((3 : Int32)) _ _ _ _ hW hS (tl_sub hl [2, 1, 0] rfl) hw
end Z_X1_partsThere
set_option maxHeartbeats 4000000 in
set_option maxRecDepth 100000 in
theorem c_X1_partsThere (l : Launch) (hll : l.stackTraces = false) (K : tK) (post : Int32 → tG → Prop) (v0 : Option Nat) : Ct l yX1_partsThere wz_X1_partsThere ({ frames := 1, cells := 0, slots := 0, locals := 21 } : Room) 0 0 [va_rf v0] K (retI post) (fun G => w_X1_partsThere K post v0 G) := by
  refine tc_of (cc := cX1_partsThere) (maxL := 3) (ret := (some .int)) (own := RX1) (plainFor_of_name (by decide)) rfl rfl hll [.inr (.inr v0)] rfl (Nat.le_of_ble_eq_true rfl) ?_
  intro p e s m args below meth c D A G ls C hr hn ht hl hW hS hw
  exact s_X1_partsThere C hr hll post v0 _ _ _ _ hW hS hl hw

/-! X1_house -/
def wz_X1_house : List Cond := Cond.code yX1_house cX1_house 2 (some .int) :: w0
section Z_X1_house
variable {p : Program} {l : Launch} {e : Env} {s : State} {m : MethodId} {args : Array Value} {below : List Frame} {meth : Method} {c : Code} {D : va_G} {A : Nat → Prop}
set_option maxHeartbeats 4000000 in
set_option maxRecDepth 100000 in
theorem s_X1_house {K : tK} (C : tc_B p l s m args meth c D K A wz_X1_house RX1 cX1_house 2) (hr : meth.sig.returnType = (some .int)) (ht : ∀ x ∈ c.exceptionTable.toList, False) (hll : l.stackTraces = false)  (post : Int32 → tG → Prop) (postX : String → tG → Prop) (v0 : Option Nat) (v1 : Int32) : ∀ (G : tG) (H : Heap) (locs : List Loc) (ls : Array Slot), tg_W D A s H G → va_S A s.heap H locs → tl ls 2 [(0, .inr (.inr v0)), (1, .inl v1)] → w_X1_house K post postX v0 v1 G → W p l e ({ frames := 8, cells := 4, slots := 24, locals := 126 } : Room) s m args below meth c H locs 0 0 (vx_MQ below (tc_Qc D A (retI post)) (tc_XC D A postX) args s 4 24 A) (F0 m 0 ls []) := by
  intro G H locs ls hW hS hl hw
  unfold w_X1_house at hw
  refine tr_iload_n (k := 1) (x := v1) C hl 1 rfl dX1_house_0 ?_
  refine lv_iconst (v := (0 : Int32)) C.1.1 C.1.2.1 dX1_house_1 (by decide) ?_
  refine lv_iconst (v := (3 : Int32)) C.1.1 C.1.2.1 dX1_house_2 (by decide) ?_
  refine tx_backV (tx_runS (As := [.int v1, .int ((0 : Int32)), .int ((3 : Int32))]) C hl.1 (c_X1_checkNumber l hll K _ _ v1 ((0 : Int32)) ((3 : Int32))) (va_cwS 3 C.1.2.2.2.2 (gi_S (zm kw_89) (zm kw_90) (zm kw_33) (zm kw_88)) rfl rfl rfl (by decide +kernel) ⟨(Nat.le_of_ble_eq_true rfl), (Nat.le_of_ble_eq_true rfl)⟩) rfl dX1_house_3 ⟨(Nat.le_of_ble_eq_true rfl), (Nat.le_of_ble_eq_true rfl)⟩ [] rfl (Nat.le_of_ble_eq_true rfl) rfl hW hS hw) hS C.2.1 ht (Nat.le_of_ble_eq_true rfl) (Nat.le_of_ble_eq_true rfl) (fun G_3 H locs hw hW hS => ?_)
  refine tr_iload_n (k := 1) (x := v1) C hl 1 rfl dX1_house_6 ?_
  by_cases hc0 : v1 = (0 : Int32)
  · have hw := hw.1 hc0
    refine lv_tableIn (off := 25) (tgt := 32) C.1.1 C.1.2.1 dX1_house_7 (by rw [hc0]; decide) (by rw [hc0]; decide) (by rw [hc0]; rfl) (by decide) ?_
    refine tr_aload_n (k := 0) (x := v0) C hl 0 rfl dX1_house_32 ?_
    refine tr_gfI (C0 := RX1) (T := TX1) (N := 4) (ci := 3) (ref := "Twinrow") (k := 2) (r := v0) C (zh hw_X1) rfl (by decide) (zm kw_17) rfl dX1_house_33 hW hw (fun x_33 hw => ?_)
    exact vx_ret (tr_iret C hr dX1_house_36 (Nat.le_of_ble_eq_true rfl) (Nat.le_of_ble_eq_true rfl) hW hS hw)
  have hw := hw.2
  by_cases hc1 : v1 = (1 : Int32)
  · have hw := hw.1 hc1
    refine lv_tableIn (off := 30) (tgt := 37) C.1.1 C.1.2.1 dX1_house_7 (by rw [hc1]; decide) (by rw [hc1]; decide) (by rw [hc1]; rfl) (by decide) ?_
    refine tr_aload_n (k := 0) (x := v0) C hl 0 rfl dX1_house_37 ?_
    refine tr_gfI (C0 := RX1) (T := TX1) (N := 4) (ci := 3) (ref := "Twinrow") (k := 3) (r := v0) C (zh hw_X1) rfl (by decide) (zm kw_18) rfl dX1_house_38 hW hw (fun x_38 hw => ?_)
    exact vx_ret (tr_iret C hr dX1_house_41 (Nat.le_of_ble_eq_true rfl) (Nat.le_of_ble_eq_true rfl) hW hS hw)
  have hw := hw.2
  by_cases hc2 : v1 = (2 : Int32)
  · have hw := hw.1 hc2
    refine lv_tableIn (off := 35) (tgt := 42) C.1.1 C.1.2.1 dX1_house_7 (by rw [hc2]; decide) (by rw [hc2]; decide) (by rw [hc2]; rfl) (by decide) ?_
    refine tr_aload_n (k := 0) (x := v0) C hl 0 rfl dX1_house_42 ?_
    refine tr_backI (tr_runV (r := v0) (As := []) C hl.1 (c_X1_partsThere l hll K _ v0) (cwV 0 C.1.2.2.2.2 (gi_V (zm kw_125) (zm kw_126) (zm kw_127) (zm kw_33) (zm kw_124)) rfl rfl rfl (by decide +kernel) ⟨(Nat.le_of_ble_eq_true rfl), (Nat.le_of_ble_eq_true rfl)⟩) rfl rfl dX1_house_43 ⟨(Nat.le_of_ble_eq_true rfl), (Nat.le_of_ble_eq_true rfl)⟩ [] rfl (Nat.le_of_ble_eq_true rfl) rfl hW hS hw) hS (fun x_43 G_43 H locs hw hW hS => ?_)
    exact vx_ret (tr_iret C hr dX1_house_46 (Nat.le_of_ble_eq_true rfl) (Nat.le_of_ble_eq_true rfl) hW hS hw)
  have hw := hw.2
  have hcd : ((v1).toInt < 0 ∨ 2 < (v1).toInt) := by
    have q0 := lv_neT (a := 0) hc0 (by decide)
    have q1 := lv_neT (a := 1) hc1 (by decide)
    have q2 := lv_neT (a := 2) hc2 (by decide)
    omega
  have hw := hw hcd
  refine lv_tableOut (tgt := 47) C.1.1 C.1.2.1 dX1_house_7 hcd (by decide) ?_
  refine tr_aload_n (k := 0) (x := v0) C hl 0 rfl dX1_house_47 ?_
  refine tx_backI (tx_runV (r := v0) (As := []) C hl.1 (c_X1_placesOfRows l hll K _ _ v0) (cwV 0 C.1.2.2.2.2 (gi_V (zm kw_129) (zm kw_130) (zm kw_131) (zm kw_33) (zm kw_128)) rfl rfl rfl (by decide +kernel) ⟨(Nat.le_of_ble_eq_true rfl), (Nat.le_of_ble_eq_true rfl)⟩) rfl rfl dX1_house_48 ⟨(Nat.le_of_ble_eq_true rfl), (Nat.le_of_ble_eq_true rfl)⟩ [] rfl (Nat.le_of_ble_eq_true rfl) rfl hW hS hw) hS C.2.1 ht (Nat.le_of_ble_eq_true rfl) (Nat.le_of_ble_eq_true rfl) (fun x_48 G_48 H locs hw hW hS => ?_)
  exact vx_ret (tr_iret C hr dX1_house_51 (Nat.le_of_ble_eq_true rfl) (Nat.le_of_ble_eq_true rfl) hW hS hw)
end Z_X1_house
set_option maxHeartbeats 4000000 in
set_option maxRecDepth 100000 in
theorem c_X1_house (l : Launch) (hll : l.stackTraces = false) (K : tK) (post : Int32 → tG → Prop) (postX : String → tG → Prop) (v0 : Option Nat) (v1 : Int32) : Cx l yX1_house wz_X1_house ({ frames := 8, cells := 4, slots := 24, locals := 126 } : Room) 4 24 [va_rf v0, .int v1] K (retI post) postX (fun G => w_X1_house K post postX v0 v1 G) := by
  refine tx_of (cc := cX1_house) (maxL := 2) (ret := (some .int)) (own := RX1) (by decide) rfl rfl hll [.inr (.inr v0), .inl v1] rfl (Nat.le_of_ble_eq_true rfl) ?_
  intro p e s m args below meth c D A G ls C hr hn ht hl hW hS hw
  exact s_X1_house C hr ht hll post postX v0 v1 _ _ _ _ hW hS hl hw

/-! X1_digest -/
def wz_X1_digest : List Cond := Cond.code yX1_digest cX1_digest 4 (some .long) :: w0
section Z_X1_digest
variable {p : Program} {l : Launch} {e : Env} {s : State} {m : MethodId} {args : Array Value} {below : List Frame} {meth : Method} {c : Code} {D : va_G} {A : Nat → Prop}
set_option maxHeartbeats 4000000 in
set_option maxRecDepth 100000 in
theorem s_X1_digest_82 {K : tK} (C : tc_B p l s m args meth c D K A wz_X1_digest RX1 cX1_digest 4) (hr : meth.sig.returnType = (some .long)) (ht : ∀ x ∈ c.exceptionTable.toList, False) (hll : l.stackTraces = false)  (post : Int64 → tG → Prop) (postX : String → tG → Prop) : ∀ (nc ns : Nat) (u0 : Int64) (u1 : Int64) (G : tG) (H : Heap) (locs : List Loc) (ls : Array Slot), nc ≤ 61 ∧ ns ≤ 352 → tg_W D A s H G → va_S A s.heap H locs → tl ls 4 [] → w_X1_digest_82 K post postX nc ns u0 u1 G → W p l e ({ frames := 9, cells := 61, slots := 352, locals := 153 } : Room) s m args below meth c H locs nc ns (vx_MQ below (tc_Qc D A (retL post)) (tc_XC D A postX) args s 61 352 A) (F0 m 82 ls [.long u1, .long u0]) := by
  intro nc ns u0 u1 G H locs ls hcn hW hS hl hw
  unfold w_X1_digest_82 at hw
  refine tr_backL (tr_runS (As := [.long u0, .long u1]) C hl.1 (c_X1_mixed l hll K _ u0 u1) (va_cwS 2 C.1.2.2.2.2 (gi_S (zm kw_102) (zm kw_103) (zm kw_33) (zm kw_101)) rfl rfl rfl (by decide +kernel) ⟨(Nat.le_of_ble_eq_true rfl), (Nat.le_of_ble_eq_true rfl)⟩) rfl dX1_digest_82 ⟨(show nc + 0 ≤ 61 by omega), (show ns + 0 ≤ 352 by omega)⟩ [] rfl (Nat.le_of_ble_eq_true rfl) rfl hW hS hw) hS (fun x_82 G_82 H locs hw hW hS => ?_)
  exact vx_ret (tr_lret C hr dX1_digest_85 (show nc ≤ 61 by omega) (show ns ≤ 352 by omega) hW hS hw)
set_option maxHeartbeats 4000000 in
set_option maxRecDepth 100000 in
theorem s_X1_digest_50_b {K : tK} (C : tc_B p l s m args meth c D K A wz_X1_digest RX1 cX1_digest 4) (hr : meth.sig.returnType = (some .long)) (ht : ∀ x ∈ c.exceptionTable.toList, False) (hll : l.stackTraces = false)  (post : Int64 → tG → Prop) (postX : String → tG → Prop) (k50 : Nat → Nat → Option Nat → Int64 → Int32 → tG → Prop) (hk50 : ∀ (nc ns : Nat) (v0 : Option Nat) (v1 : Int64) (v3 : Int32) (G : tG) (H : Heap) (locs : List Loc) (ls : Array Slot), nc ≤ 61 ∧ ns ≤ 352 → tg_W D A s H G → va_S A s.heap H locs → tl ls 4 [(0, .inr (.inr v0)), (1, .inr (.inl v1)), (3, .inl v3)] → k50 nc ns v0 v1 v3 G → W p l e ({ frames := 9, cells := 61, slots := 352, locals := 153 } : Room) s m args below meth c H locs nc ns (vx_MQ below (tc_Qc D A (retL post)) (tc_XC D A postX) args s 61 352 A) (F0 m 50 ls [])) : ∀ (nc ns : Nat) (v0 : Option Nat) (v1 : Int64) (v3 : Int32) (G : tG) (H : Heap) (locs : List Loc) (ls : Array Slot), nc ≤ 61 ∧ ns ≤ 352 → tg_W D A s H G → va_S A s.heap H locs → tl ls 4 [(0, .inr (.inr v0)), (1, .inr (.inl v1)), (3, .inl v3)] → w_X1_digest_50_b K post postX k50 nc ns v0 v1 v3 G → W p l e ({ frames := 9, cells := 61, slots := 352, locals := 153 } : Room) s m args below meth c H locs nc ns (vx_MQ below (tc_Qc D A (retL post)) (tc_XC D A postX) args s 61 352 A) (F0 m 50 ls []) := by
  intro nc ns v0 v1 v3 G H locs ls hcn hW hS hl hw
  unfold w_X1_digest_50_b at hw
  refine tr_iload_n (k := 3) (x := v3) C hl 2 rfl dX1_digest_50 ?_
  refine lv_bipush (v := (7 : Int32)) C.1.1 C.1.2.1 dX1_digest_51 (by decide) ?_
  refine lv_icmp_ge (tgt := 69) C.1.1 C.1.2.1 dX1_digest_53 (by decide) (fun hc => ?_) (fun hc => ?_)
  · have hw := hw.1 hc
    refine tr_lload_n (k := 1) (x := v1) C hl 1 rfl dX1_digest_69 ?_
    refine tr_aload_n (k := 0) (x := v0) C hl 0 rfl dX1_digest_70 ?_
    have hq1 := hw.1
    have hw := hw.2
    refine tr_backI (tr_runV (r := v0) (As := []) C hl.1 (c_X1_isSound l hll K _ v0) (cwV 0 C.1.2.2.2.2 (gi_V (zm kw_133) (zm kw_134) (zm kw_135) (zm kw_33) (zm kw_132)) rfl rfl rfl (by decide +kernel) ⟨(Nat.le_of_ble_eq_true rfl), (Nat.le_of_ble_eq_true rfl)⟩) rfl rfl dX1_digest_71 ⟨hq1.1, hq1.2⟩ [.inr (.inl v1)] rfl (Nat.le_of_ble_eq_true rfl) rfl hW hS hw) hS (fun x_71 G_71 H locs hw hW hS => ?_)
    refine lv_if_eq (tgt := 81) C.1.1 C.1.2.1 dX1_digest_74 (by decide) (fun hc => ?_) (fun hc => ?_)
    · have hw := hw.1 hc
      refine lv_lconst (v := (0 : Int64)) C.1.1 C.1.2.1 dX1_digest_81 (by decide) ?_
      exact s_X1_digest_82 C hr ht hll post postX ((nc + 7)) ((ns + 28)) v1 ((0 : Int64)) _ _ _ _ (show (nc + 7) ≤ 61 ∧ (ns + 28) ≤ 352 by omega) hW hS (tl_sub hl [] rfl) hw
    · have hw := hw.2 hc
      refine lv_lconst (v := (1 : Int64)) C.1.1 C.1.2.1 dX1_digest_77 (by decide) ?_
      refine lv_goto (tgt := 82) C.1.1 C.1.2.1 dX1_digest_78 (by decide) ?_
      exact s_X1_digest_82 C hr ht hll post postX ((nc + 7)) ((ns + 28)) v1 ((1 : Int64)) _ _ _ _ (show (nc + 7) ≤ 61 ∧ (ns + 28) ≤ 352 by omega) hW hS (tl_sub hl [] rfl) hw
  · have hw := hw.2 hc
    refine tr_aload_n (k := 0) (x := v0) C hl 0 rfl dX1_digest_56 ?_
    refine tr_lload_n (k := 1) (x := v1) C hl 1 rfl dX1_digest_57 ?_
    refine tr_iload_n (k := 3) (x := v3) C hl 2 rfl dX1_digest_58 ?_
    have hq2 := hw.1
    have hw := hw.2
    refine tx_backL (tx_runV (r := v0) (As := [.long v1, .int v3]) C hl.1 (c_X1_mixedWithList l hll K _ _ v0 v1 v3) (cwV 2 C.1.2.2.2.2 (gi_V (zm kw_137) (zm kw_138) (zm kw_139) (zm kw_33) (zm kw_136)) rfl rfl rfl (by decide +kernel) ⟨(Nat.le_of_ble_eq_true rfl), (Nat.le_of_ble_eq_true rfl)⟩) rfl rfl dX1_digest_59 ⟨hq2.1, hq2.2⟩ [] rfl (Nat.le_of_ble_eq_true rfl) rfl hW hS hw) hS C.2.1 ht hq2.1 hq2.2 (fun x_59 G_59 H locs hw hW hS => ?_)
    refine tr_lstore_n (k := 1) (x := x_59) C hl [(1, .inr (.inl x_59)), (0, .inr (.inr v0)), (3, .inl v3)] (by decide) rfl dX1_digest_62 (fun ls hl => ?_)
    refine tr_iinc C hl 2 (v3 + (1 : Int32)) [(3, .inl (v3 + (1 : Int32))), (1, .inr (.inl x_59)), (0, .inr (.inr v0))] rfl rfl (by decide) rfl dX1_digest_63 (fun ls hl => ?_)
    refine lv_goto (tgt := 50) C.1.1 C.1.2.1 dX1_digest_66 (by decide) ?_
    exact hk50 ((nc + 5)) ((ns + 30)) v0 x_59 ((v3 + (1 : Int32))) _ _ _ _ (show (nc + 5) ≤ 61 ∧ (ns + 30) ≤ 352 by omega) hW hS (tl_sub hl [2, 1, 0] rfl) hw
set_option maxHeartbeats 4000000 in
set_option maxRecDepth 100000 in
theorem s_X1_digest_50 {K : tK} (C : tc_B p l s m args meth c D K A wz_X1_digest RX1 cX1_digest 4) (hr : meth.sig.returnType = (some .long)) (ht : ∀ x ∈ c.exceptionTable.toList, False) (hll : l.stackTraces = false)  (post : Int64 → tG → Prop) (postX : String → tG → Prop) : ∀ (n : Nat) (nc ns : Nat) (v0 : Option Nat) (v1 : Int64) (v3 : Int32) (G : tG) (H : Heap) (locs : List Loc) (ls : Array Slot), nc ≤ 61 ∧ ns ≤ 352 → tg_W D A s H G → va_S A s.heap H locs → tl ls 4 [(0, .inr (.inr v0)), (1, .inr (.inl v1)), (3, .inl v3)] → w_X1_digest_50 K post postX n nc ns v0 v1 v3 G → W p l e ({ frames := 9, cells := 61, slots := 352, locals := 153 } : Room) s m args below meth c H locs nc ns (vx_MQ below (tc_Qc D A (retL post)) (tc_XC D A postX) args s 61 352 A) (F0 m 50 ls []) := by
  intro n
  induction n with
  | zero =>
    intro nc ns v0 v1 v3 G H locs ls hcn hW hS hl hw
    exact hw.elim
  | succ n ih => exact s_X1_digest_50_b C hr ht hll post postX _ ih
set_option maxHeartbeats 4000000 in
set_option maxRecDepth 100000 in
theorem s_X1_digest_30_b {K : tK} (C : tc_B p l s m args meth c D K A wz_X1_digest RX1 cX1_digest 4) (hr : meth.sig.returnType = (some .long)) (ht : ∀ x ∈ c.exceptionTable.toList, False) (hll : l.stackTraces = false)  (post : Int64 → tG → Prop) (postX : String → tG → Prop) (k30 : Nat → Nat → Option Nat → Int64 → Int32 → tG → Prop) (hk30 : ∀ (nc ns : Nat) (v0 : Option Nat) (v1 : Int64) (v3 : Int32) (G : tG) (H : Heap) (locs : List Loc) (ls : Array Slot), nc ≤ 61 ∧ ns ≤ 352 → tg_W D A s H G → va_S A s.heap H locs → tl ls 4 [(0, .inr (.inr v0)), (1, .inr (.inl v1)), (3, .inl v3)] → k30 nc ns v0 v1 v3 G → W p l e ({ frames := 9, cells := 61, slots := 352, locals := 153 } : Room) s m args below meth c H locs nc ns (vx_MQ below (tc_Qc D A (retL post)) (tc_XC D A postX) args s 61 352 A) (F0 m 30 ls [])) : ∀ (nc ns : Nat) (v0 : Option Nat) (v1 : Int64) (v3 : Int32) (G : tG) (H : Heap) (locs : List Loc) (ls : Array Slot), nc ≤ 61 ∧ ns ≤ 352 → tg_W D A s H G → va_S A s.heap H locs → tl ls 4 [(0, .inr (.inr v0)), (1, .inr (.inl v1)), (3, .inl v3)] → w_X1_digest_30_b K post postX k30 nc ns v0 v1 v3 G → W p l e ({ frames := 9, cells := 61, slots := 352, locals := 153 } : Room) s m args below meth c H locs nc ns (vx_MQ below (tc_Qc D A (retL post)) (tc_XC D A postX) args s 61 352 A) (F0 m 30 ls []) := by
  intro nc ns v0 v1 v3 G H locs ls hcn hW hS hl hw
  unfold w_X1_digest_30_b at hw
  refine tr_iload_n (k := 3) (x := v3) C hl 2 rfl dX1_digest_30 ?_
  refine lv_iconst (v := (3 : Int32)) C.1.1 C.1.2.1 dX1_digest_31 (by decide) ?_
  refine lv_icmp_ge (tgt := 48) C.1.1 C.1.2.1 dX1_digest_32 (by decide) (fun hc => ?_) (fun hc => ?_)
  · have hw := hw.1 hc
    refine lv_iconst (v := (0 : Int32)) C.1.1 C.1.2.1 dX1_digest_48 (by decide) ?_
    refine tr_istore_n (k := 3) (x := (0 : Int32)) C hl [(3, .inl (0 : Int32)), (0, .inr (.inr v0)), (1, .inr (.inl v1))] (by decide) rfl dX1_digest_49 (fun ls hl => ?_)
    obtain ⟨n50, hw⟩ := hw
    exact s_X1_digest_50 C hr ht hll post postX n50 nc ns v0 v1 ((0 : Int32)) _ _ _ _ (show nc ≤ 61 ∧ ns ≤ 352 by omega) hW hS (tl_sub hl [1, 2, 0] rfl) hw
  · have hw := hw.2 hc
    refine tr_aload_n (k := 0) (x := v0) C hl 0 rfl dX1_digest_35 ?_
    refine tr_lload_n (k := 1) (x := v1) C hl 1 rfl dX1_digest_36 ?_
    refine tr_iload_n (k := 3) (x := v3) C hl 2 rfl dX1_digest_37 ?_
    have hq3 := hw.1
    have hw := hw.2
    refine tx_backL (tx_runV (r := v0) (As := [.long v1, .int v3]) C hl.1 (c_X1_mixedWithRow l hll K _ _ v0 v1 v3) (cwV 2 C.1.2.2.2.2 (gi_V (zm kw_141) (zm kw_142) (zm kw_143) (zm kw_33) (zm kw_140)) rfl rfl rfl (by decide +kernel) ⟨(Nat.le_of_ble_eq_true rfl), (Nat.le_of_ble_eq_true rfl)⟩) rfl rfl dX1_digest_38 ⟨hq3.1, hq3.2⟩ [] rfl (Nat.le_of_ble_eq_true rfl) rfl hW hS hw) hS C.2.1 ht hq3.1 hq3.2 (fun x_38 G_38 H locs hw hW hS => ?_)
    refine tr_lstore_n (k := 1) (x := x_38) C hl [(1, .inr (.inl x_38)), (0, .inr (.inr v0)), (3, .inl v3)] (by decide) rfl dX1_digest_41 (fun ls hl => ?_)
    refine tr_iinc C hl 2 (v3 + (1 : Int32)) [(3, .inl (v3 + (1 : Int32))), (1, .inr (.inl x_38)), (0, .inr (.inr v0))] rfl rfl (by decide) rfl dX1_digest_42 (fun ls hl => ?_)
    refine lv_goto (tgt := 30) C.1.1 C.1.2.1 dX1_digest_45 (by decide) ?_
    exact hk30 ((nc + 1)) ((ns + 6)) v0 x_38 ((v3 + (1 : Int32))) _ _ _ _ (show (nc + 1) ≤ 61 ∧ (ns + 6) ≤ 352 by omega) hW hS (tl_sub hl [2, 1, 0] rfl) hw
set_option maxHeartbeats 4000000 in
set_option maxRecDepth 100000 in
theorem s_X1_digest_30 {K : tK} (C : tc_B p l s m args meth c D K A wz_X1_digest RX1 cX1_digest 4) (hr : meth.sig.returnType = (some .long)) (ht : ∀ x ∈ c.exceptionTable.toList, False) (hll : l.stackTraces = false)  (post : Int64 → tG → Prop) (postX : String → tG → Prop) : ∀ (n : Nat) (nc ns : Nat) (v0 : Option Nat) (v1 : Int64) (v3 : Int32) (G : tG) (H : Heap) (locs : List Loc) (ls : Array Slot), nc ≤ 61 ∧ ns ≤ 352 → tg_W D A s H G → va_S A s.heap H locs → tl ls 4 [(0, .inr (.inr v0)), (1, .inr (.inl v1)), (3, .inl v3)] → w_X1_digest_30 K post postX n nc ns v0 v1 v3 G → W p l e ({ frames := 9, cells := 61, slots := 352, locals := 153 } : Room) s m args below meth c H locs nc ns (vx_MQ below (tc_Qc D A (retL post)) (tc_XC D A postX) args s 61 352 A) (F0 m 30 ls []) := by
  intro n
  induction n with
  | zero =>
    intro nc ns v0 v1 v3 G H locs ls hcn hW hS hl hw
    exact hw.elim
  | succ n ih => exact s_X1_digest_30_b C hr ht hll post postX _ ih
set_option maxHeartbeats 4000000 in
set_option maxRecDepth 100000 in
theorem s_X1_digest_6_b {K : tK} (C : tc_B p l s m args meth c D K A wz_X1_digest RX1 cX1_digest 4) (hr : meth.sig.returnType = (some .long)) (ht : ∀ x ∈ c.exceptionTable.toList, False) (hll : l.stackTraces = false)  (post : Int64 → tG → Prop) (postX : String → tG → Prop) (k6 : Nat → Nat → Option Nat → Int64 → Int32 → tG → Prop) (hk6 : ∀ (nc ns : Nat) (v0 : Option Nat) (v1 : Int64) (v3 : Int32) (G : tG) (H : Heap) (locs : List Loc) (ls : Array Slot), nc ≤ 61 ∧ ns ≤ 352 → tg_W D A s H G → va_S A s.heap H locs → tl ls 4 [(0, .inr (.inr v0)), (1, .inr (.inl v1)), (3, .inl v3)] → k6 nc ns v0 v1 v3 G → W p l e ({ frames := 9, cells := 61, slots := 352, locals := 153 } : Room) s m args below meth c H locs nc ns (vx_MQ below (tc_Qc D A (retL post)) (tc_XC D A postX) args s 61 352 A) (F0 m 6 ls [])) : ∀ (nc ns : Nat) (v0 : Option Nat) (v1 : Int64) (v3 : Int32) (G : tG) (H : Heap) (locs : List Loc) (ls : Array Slot), nc ≤ 61 ∧ ns ≤ 352 → tg_W D A s H G → va_S A s.heap H locs → tl ls 4 [(0, .inr (.inr v0)), (1, .inr (.inl v1)), (3, .inl v3)] → w_X1_digest_6_b K post postX k6 nc ns v0 v1 v3 G → W p l e ({ frames := 9, cells := 61, slots := 352, locals := 153 } : Room) s m args below meth c H locs nc ns (vx_MQ below (tc_Qc D A (retL post)) (tc_XC D A postX) args s 61 352 A) (F0 m 6 ls []) := by
  intro nc ns v0 v1 v3 G H locs ls hcn hW hS hl hw
  unfold w_X1_digest_6_b at hw
  refine tr_iload_n (k := 3) (x := v3) C hl 2 rfl dX1_digest_6 ?_
  refine lv_iconst (v := (3 : Int32)) C.1.1 C.1.2.1 dX1_digest_7 (by decide) ?_
  refine lv_icmp_gt (tgt := 28) C.1.1 C.1.2.1 dX1_digest_8 (by decide) (fun hc => ?_) (fun hc => ?_)
  · have hw := hw.1 hc
    refine lv_iconst (v := (0 : Int32)) C.1.1 C.1.2.1 dX1_digest_28 (by decide) ?_
    refine tr_istore_n (k := 3) (x := (0 : Int32)) C hl [(3, .inl (0 : Int32)), (0, .inr (.inr v0)), (1, .inr (.inl v1))] (by decide) rfl dX1_digest_29 (fun ls hl => ?_)
    obtain ⟨n30, hw⟩ := hw
    exact s_X1_digest_30 C hr ht hll post postX n30 nc ns v0 v1 ((0 : Int32)) _ _ _ _ (show nc ≤ 61 ∧ ns ≤ 352 by omega) hW hS (tl_sub hl [1, 2, 0] rfl) hw
  · have hw := hw.2 hc
    refine tr_lload_n (k := 1) (x := v1) C hl 1 rfl dX1_digest_11 ?_
    refine tr_aload_n (k := 0) (x := v0) C hl 0 rfl dX1_digest_12 ?_
    refine tr_iload_n (k := 3) (x := v3) C hl 2 rfl dX1_digest_13 ?_
    have hq4 := hw.1
    have hw := hw.2
    refine tx_backI (tx_runV (r := v0) (As := [.int v3]) C hl.1 (c_X1_house l hll K _ _ v0 v3) (cwV 1 C.1.2.2.2.2 (gi_V (zm kw_145) (zm kw_146) (zm kw_147) (zm kw_33) (zm kw_144)) rfl rfl rfl (by decide +kernel) ⟨(Nat.le_of_ble_eq_true rfl), (Nat.le_of_ble_eq_true rfl)⟩) rfl rfl dX1_digest_14 ⟨hq4.1, hq4.2⟩ [.inr (.inl v1)] rfl (Nat.le_of_ble_eq_true rfl) rfl hW hS hw) hS C.2.1 ht hq4.1 hq4.2 (fun x_14 G_14 H locs hw hW hS => ?_)
    refine lv_i2l (v := ((x_14).toInt64)) C.1.1 C.1.2.1 dX1_digest_17 rfl ?_
    refine tr_backL (tr_runS (As := [.long v1, .long (((x_14).toInt64))]) C hl.1 (c_X1_mixed l hll K _ v1 (((x_14).toInt64))) (va_cwS 2 C.1.2.2.2.2 (gi_S (zm kw_102) (zm kw_103) (zm kw_33) (zm kw_101)) rfl rfl rfl (by decide +kernel) ⟨(Nat.le_of_ble_eq_true rfl), (Nat.le_of_ble_eq_true rfl)⟩) rfl dX1_digest_18 ⟨(show (nc + 4) + 0 ≤ 61 by omega), (show (ns + 24) + 0 ≤ 352 by omega)⟩ [] rfl (Nat.le_of_ble_eq_true rfl) rfl hW hS hw) hS (fun x_18 G_18 H locs hw hW hS => ?_)
    refine tr_lstore_n (k := 1) (x := x_18) C hl [(1, .inr (.inl x_18)), (0, .inr (.inr v0)), (3, .inl v3)] (by decide) rfl dX1_digest_21 (fun ls hl => ?_)
    refine tr_iinc C hl 2 (v3 + (1 : Int32)) [(3, .inl (v3 + (1 : Int32))), (1, .inr (.inl x_18)), (0, .inr (.inr v0))] rfl rfl (by decide) rfl dX1_digest_22 (fun ls hl => ?_)
    refine lv_goto (tgt := 6) C.1.1 C.1.2.1 dX1_digest_25 (by decide) ?_
    exact hk6 ((nc + 4)) ((ns + 24)) v0 x_18 ((v3 + (1 : Int32))) _ _ _ _ (show (nc + 4) ≤ 61 ∧ (ns + 24) ≤ 352 by omega) hW hS (tl_sub hl [2, 1, 0] rfl) hw
set_option maxHeartbeats 4000000 in
set_option maxRecDepth 100000 in
theorem s_X1_digest_6 {K : tK} (C : tc_B p l s m args meth c D K A wz_X1_digest RX1 cX1_digest 4) (hr : meth.sig.returnType = (some .long)) (ht : ∀ x ∈ c.exceptionTable.toList, False) (hll : l.stackTraces = false)  (post : Int64 → tG → Prop) (postX : String → tG → Prop) : ∀ (n : Nat) (nc ns : Nat) (v0 : Option Nat) (v1 : Int64) (v3 : Int32) (G : tG) (H : Heap) (locs : List Loc) (ls : Array Slot), nc ≤ 61 ∧ ns ≤ 352 → tg_W D A s H G → va_S A s.heap H locs → tl ls 4 [(0, .inr (.inr v0)), (1, .inr (.inl v1)), (3, .inl v3)] → w_X1_digest_6 K post postX n nc ns v0 v1 v3 G → W p l e ({ frames := 9, cells := 61, slots := 352, locals := 153 } : Room) s m args below meth c H locs nc ns (vx_MQ below (tc_Qc D A (retL post)) (tc_XC D A postX) args s 61 352 A) (F0 m 6 ls []) := by
  intro n
  induction n with
  | zero =>
    intro nc ns v0 v1 v3 G H locs ls hcn hW hS hl hw
    exact hw.elim
  | succ n ih => exact s_X1_digest_6_b C hr ht hll post postX _ ih
set_option maxHeartbeats 4000000 in
set_option maxRecDepth 100000 in
theorem s_X1_digest {K : tK} (C : tc_B p l s m args meth c D K A wz_X1_digest RX1 cX1_digest 4) (hr : meth.sig.returnType = (some .long)) (ht : ∀ x ∈ c.exceptionTable.toList, False) (hll : l.stackTraces = false)  (post : Int64 → tG → Prop) (postX : String → tG → Prop) (v0 : Option Nat) : ∀ (G : tG) (H : Heap) (locs : List Loc) (ls : Array Slot), tg_W D A s H G → va_S A s.heap H locs → tl ls 4 [(0, .inr (.inr v0))] → w_X1_digest K post postX v0 G → W p l e ({ frames := 9, cells := 61, slots := 352, locals := 153 } : Room) s m args below meth c H locs 0 0 (vx_MQ below (tc_Qc D A (retL post)) (tc_XC D A postX) args s 61 352 A) (F0 m 0 ls []) := by
  intro G H locs ls hW hS hl hw
  unfold w_X1_digest at hw
  refine lv_ldc2 (v := (7778 : Int64)) C.1.1 C.1.2.1 C.1.2.2.2.1 (C.1.2.2.2.2 _ (zm kw_148)) dX1_digest_0 ?_
  refine tr_lstore_n (k := 1) (x := (7778 : Int64)) C hl [(1, .inr (.inl (7778 : Int64))), (0, .inr (.inr v0))] (by decide) rfl dX1_digest_3 (fun ls hl => ?_)
  refine lv_iconst (v := (0 : Int32)) C.1.1 C.1.2.1 dX1_digest_4 (by decide) ?_
  refine tr_istore_n (k := 3) (x := (0 : Int32)) C hl [(3, .inl (0 : Int32)), (1, .inr (.inl (7778 : Int64))), (0, .inr (.inr v0))] (by decide) rfl dX1_digest_5 (fun ls hl => ?_)
  obtain ⟨n6, hw⟩ := hw
  exact s_X1_digest_6 C hr ht hll post postX n6 0 0 v0 ((7778 : Int64)) ((0 : Int32)) _ _ _ _ (show 0 ≤ 61 ∧ 0 ≤ 352 by omega) hW hS (tl_sub hl [2, 1, 0] rfl) hw
end Z_X1_digest
set_option maxHeartbeats 4000000 in
set_option maxRecDepth 100000 in
theorem c_X1_digest (l : Launch) (hll : l.stackTraces = false) (K : tK) (post : Int64 → tG → Prop) (postX : String → tG → Prop) (v0 : Option Nat) : Cx l yX1_digest wz_X1_digest ({ frames := 9, cells := 61, slots := 352, locals := 153 } : Room) 61 352 [va_rf v0] K (retL post) postX (fun G => w_X1_digest K post postX v0 G) := by
  refine tx_of (cc := cX1_digest) (maxL := 4) (ret := (some .long)) (own := RX1) (by decide) rfl rfl hll [.inr (.inr v0)] rfl (Nat.le_of_ble_eq_true rfl) ?_
  intro p e s m args below meth c D A G ls C hr hn ht hl hW hS hw
  exact s_X1_digest C hr ht hll post postX v0 _ _ _ _ hW hS hl hw
