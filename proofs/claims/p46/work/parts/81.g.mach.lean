/-! X3_lay -/
def wz_X3_lay : List Cond := Cond.code yX3_lay cX3_lay 5 (some .int) :: w0
section Z_X3_lay
variable {p : Program} {l : Launch} {e : Env} {s : State} {m : MethodId} {args : Array Value} {below : List Frame} {meth : Method} {c : Code} {D : va_G} {A : Nat → Prop}
set_option maxHeartbeats 4000000 in
set_option maxRecDepth 100000 in
theorem s_X3_lay_88 {K : tK} (C : tc_B p l s m args meth c D K A wz_X3_lay RX3 cX3_lay 5) (hr : meth.sig.returnType = (some .int)) (hll : l.stackTraces = false)  (post : Int32 → tG → Prop) (k59 : Option Nat → Int32 → Int32 → Int32 → tG → Prop) (hk59 : ∀ (v0 : Option Nat) (v1 : Int32) (v3 : Int32) (v4 : Int32) (G : tG) (H : Heap) (locs : List Loc) (ls : Array Slot), tg_W D A s H G → va_S A s.heap H locs → tl ls 5 [(0, .inr (.inr v0)), (1, .inl v1), (3, .inl v3), (4, .inl v4)] → k59 v0 v1 v3 v4 G → W p l e ({ frames := 1, cells := 1, slots := 12, locals := 22 } : Room) s m args below meth c H locs 1 12 (MQ below (tc_Qc D A (retI post)) args s 1 12 A) (F0 m 59 ls [])) : ∀ (v0 : Option Nat) (v1 : Int32) (v3 : Int32) (v4 : Int32) (G : tG) (H : Heap) (locs : List Loc) (ls : Array Slot), tg_W D A s H G → va_S A s.heap H locs → tl ls 5 [(0, .inr (.inr v0)), (1, .inl v1), (3, .inl v3), (4, .inl v4)] → w_X3_lay_88 K post k59 v0 v1 v3 v4 G → W p l e ({ frames := 1, cells := 1, slots := 12, locals := 22 } : Room) s m args below meth c H locs 1 12 (MQ below (tc_Qc D A (retI post)) args s 1 12 A) (F0 m 88 ls []) := by
  intro v0 v1 v3 v4 G H locs ls hW hS hl hw
  unfold w_X3_lay_88 at hw
  refine tr_iinc C hl 3 (v4 + (1 : Int32)) [(4, .inl (v4 + (1 : Int32))), (0, .inr (.inr v0)), (1, .inl v1), (3, .inl v3)] rfl rfl (by decide) rfl dX3_lay_88 (fun ls hl => ?_)
  refine lv_goto (tgt := 59) C.1.1 C.1.2.1 dX3_lay_91 (by decide) ?_
  exact hk59 v0 v1 v3 ((v4 + (1 : Int32))) _ _ _ _ hW hS (tl_sub hl [1, 2, 3, 0] rfl) hw
set_option maxHeartbeats 4000000 in
set_option maxRecDepth 100000 in
theorem s_X3_lay_59_b {K : tK} (C : tc_B p l s m args meth c D K A wz_X3_lay RX3 cX3_lay 5) (hr : meth.sig.returnType = (some .int)) (hll : l.stackTraces = false)  (post : Int32 → tG → Prop) (k59 : Option Nat → Int32 → Int32 → Int32 → tG → Prop) (hk59 : ∀ (v0 : Option Nat) (v1 : Int32) (v3 : Int32) (v4 : Int32) (G : tG) (H : Heap) (locs : List Loc) (ls : Array Slot), tg_W D A s H G → va_S A s.heap H locs → tl ls 5 [(0, .inr (.inr v0)), (1, .inl v1), (3, .inl v3), (4, .inl v4)] → k59 v0 v1 v3 v4 G → W p l e ({ frames := 1, cells := 1, slots := 12, locals := 22 } : Room) s m args below meth c H locs 1 12 (MQ below (tc_Qc D A (retI post)) args s 1 12 A) (F0 m 59 ls [])) : ∀ (v0 : Option Nat) (v1 : Int32) (v3 : Int32) (v4 : Int32) (G : tG) (H : Heap) (locs : List Loc) (ls : Array Slot), tg_W D A s H G → va_S A s.heap H locs → tl ls 5 [(0, .inr (.inr v0)), (1, .inl v1), (3, .inl v3), (4, .inl v4)] → w_X3_lay_59_b K post k59 v0 v1 v3 v4 G → W p l e ({ frames := 1, cells := 1, slots := 12, locals := 22 } : Room) s m args below meth c H locs 1 12 (MQ below (tc_Qc D A (retI post)) args s 1 12 A) (F0 m 59 ls []) := by
  intro v0 v1 v3 v4 G H locs ls hW hS hl hw
  unfold w_X3_lay_59_b at hw
  refine tr_iload (x := v4) C hl 3 rfl dX3_lay_59 ?_
  refine lv_bipush (v := (7 : Int32)) C.1.1 C.1.2.1 dX3_lay_61 (by decide) ?_
  refine lv_icmp_ge (tgt := 94) C.1.1 C.1.2.1 dX3_lay_63 (by decide) (fun hc => ?_) (fun hc => ?_)
  · have hw := hw.1 hc
    refine tr_iload_n (k := 3) (x := v3) C hl 2 rfl dX3_lay_94 ?_
    exact tr_iret C hr dX3_lay_95 (Nat.le_of_ble_eq_true rfl) (Nat.le_of_ble_eq_true rfl) hW hS hw
  · have hw := hw.2 hc
    refine tr_aload_n (k := 0) (x := v0) C hl 0 rfl dX3_lay_66 ?_
    refine tr_gfR (C0 := RX3) (T := TX3) (N := 8) (ci := 5) (ref := "TwinrowModel") (k := 1) (r := v0) C (zh hw_X3) rfl (by decide) (zm kw_22) rfl dX3_lay_67 hW hw (fun x_67 hw => ?_)
    refine tr_iload (x := v4) C hl 3 rfl dX3_lay_70 ?_
    refine tr_alI (r := x_67) C dX3_lay_72 hW hw (fun x_72 hw => ?_)
    refine tr_iload_n (k := 1) (x := v1) C hl 1 rfl dX3_lay_73 ?_
    refine lv_icmp_ne (tgt := 88) C.1.1 C.1.2.1 dX3_lay_74 (by decide) (fun hc => ?_) (fun hc => ?_)
    · have hw := hw.1 hc
      exact s_X3_lay_88 C hr hll post k59 hk59 v0 v1 v3 v4 _ _ _ _ hW hS (tl_sub hl [0, 1, 2, 3] rfl) hw
    · have hw := hw.2 hc
      refine tr_aload_n (k := 0) (x := v0) C hl 0 rfl dX3_lay_77 ?_
      refine tr_gfR (C0 := RX3) (T := TX3) (N := 8) (ci := 5) (ref := "TwinrowModel") (k := 1) (r := v0) C (zh hw_X3) rfl (by decide) (zm kw_22) rfl dX3_lay_78 hW hw (fun x_78 hw => ?_)
      refine tr_iload (x := v4) C hl 3 rfl dX3_lay_81 ?_
      refine lv_iconst (v := (-1 : Int32)) C.1.1 C.1.2.1 dX3_lay_83 (by decide) ?_
      refine tr_asI (r := x_78) C dX3_lay_84 hW hS hw (fun G_84 H locs hw hW hS => ?_)
      refine tr_iinc C hl 2 (v3 + (1 : Int32)) [(3, .inl (v3 + (1 : Int32))), (0, .inr (.inr v0)), (1, .inl v1), (4, .inl v4)] rfl rfl (by decide) rfl dX3_lay_85 (fun ls hl => ?_)
      exact s_X3_lay_88 C hr hll post k59 hk59 v0 v1 ((v3 + (1 : Int32))) v4 _ _ _ _ hW hS (tl_sub hl [1, 2, 0, 3] rfl) hw
set_option maxHeartbeats 4000000 in
set_option maxRecDepth 100000 in
theorem s_X3_lay_59 {K : tK} (C : tc_B p l s m args meth c D K A wz_X3_lay RX3 cX3_lay 5) (hr : meth.sig.returnType = (some .int)) (hll : l.stackTraces = false)  (post : Int32 → tG → Prop) : ∀ (n : Nat) (v0 : Option Nat) (v1 : Int32) (v3 : Int32) (v4 : Int32) (G : tG) (H : Heap) (locs : List Loc) (ls : Array Slot), tg_W D A s H G → va_S A s.heap H locs → tl ls 5 [(0, .inr (.inr v0)), (1, .inl v1), (3, .inl v3), (4, .inl v4)] → w_X3_lay_59 K post n v0 v1 v3 v4 G → W p l e ({ frames := 1, cells := 1, slots := 12, locals := 22 } : Room) s m args below meth c H locs 1 12 (MQ below (tc_Qc D A (retI post)) args s 1 12 A) (F0 m 59 ls []) := by
  intro n
  induction n with
  | zero =>
    intro v0 v1 v3 v4 G H locs ls hW hS hl hw
    exact hw.elim
  | succ n ih => exact s_X3_lay_59_b C hr hll post _ ih
set_option maxHeartbeats 4000000 in
set_option maxRecDepth 100000 in
theorem s_X3_lay_30 {K : tK} (C : tc_B p l s m args meth c D K A wz_X3_lay RX3 cX3_lay 5) (hr : meth.sig.returnType = (some .int)) (hll : l.stackTraces = false)  (post : Int32 → tG → Prop) : ∀ (v0 : Option Nat) (v1 : Int32) (v2 : Int32) (u0 : Option Nat) (u1 : Int32) (u2 : Int32) (G : tG) (H : Heap) (locs : List Loc) (ls : Array Slot), tg_W D A s H G → va_S A s.heap H locs → tl ls 5 [(0, .inr (.inr v0)), (1, .inl v1), (2, .inl v2)] → w_X3_lay_30 K post v0 v1 v2 u0 u1 u2 G → W p l e ({ frames := 1, cells := 1, slots := 12, locals := 22 } : Room) s m args below meth c H locs 0 0 (MQ below (tc_Qc D A (retI post)) args s 1 12 A) (F0 m 30 ls [.int u2, .int u1, va_rf u0]) := by
  intro v0 v1 v2 u0 u1 u2 G H locs ls hW hS hl hw
  unfold w_X3_lay_30 at hw
  refine tr_backI (tr_runV (r := u0) (As := [.int u1, .int u2]) C hl.1 (c_X3_fails l hll K _ u0 u1 u2) (cwV 2 C.1.2.2.2.2 (gi_V (zm kw_190) (zm kw_191) (zm kw_192) (zm kw_155) (zm kw_189)) rfl rfl rfl (by decide +kernel) ⟨(Nat.le_of_ble_eq_true rfl), (Nat.le_of_ble_eq_true rfl)⟩) rfl rfl dX3_lay_30 ⟨(Nat.le_of_ble_eq_true rfl), (Nat.le_of_ble_eq_true rfl)⟩ [] rfl (Nat.le_of_ble_eq_true rfl) rfl hW hS hw) hS (fun x_30 G_30 H locs hw hW hS => ?_)
  refine lv_if_eq (tgt := 38) C.1.1 C.1.2.1 dX3_lay_33 (by decide) (fun hc => ?_) (fun hc => ?_)
  · have hw := hw.1 hc
    refine tr_aload_n (k := 0) (x := v0) C hl 0 rfl dX3_lay_38 ?_
    refine tr_gfR (C0 := RX3) (T := TX3) (N := 8) (ci := 5) (ref := "TwinrowModel") (k := 0) (r := v0) C (zh hw_X3) rfl (by decide) (zm kw_21) rfl dX3_lay_39 hW hw (fun x_39 hw => ?_)
    refine tr_iload_n (k := 1) (x := v1) C hl 1 rfl dX3_lay_42 ?_
    refine tr_iload_n (k := 2) (x := v2) C hl 2 rfl dX3_lay_43 ?_
    refine tr_newarr (atype := .int) (ty := .int) (lim := 12) (z := (.inl (fun _ => 0))) C (zm kw_11) rfl (fun _ h => h) (fun _ _ => rfl) (Nat.le_of_ble_eq_true rfl) (Nat.le_of_ble_eq_true rfl) (Nat.le_of_ble_eq_true rfl) dX3_lay_44 hW hS hw (fun r_44 G_44 H hw hW hS => ?_)
    have hv0 := hw.1
    have hw := hw.2
    refine tr_asA (r := x_39) (v := r_44) C dX3_lay_46 hW hS hw hv0 (fun G_46 H locs hw hW hS => ?_)
    refine tr_aload_n (k := 0) (x := v0) C hl 0 rfl dX3_lay_47 ?_
    refine tr_gfR (C0 := RX3) (T := TX3) (N := 8) (ci := 5) (ref := "TwinrowModel") (k := 3) (r := v0) C (zh hw_X3) rfl (by decide) (zm kw_24) rfl dX3_lay_48 hW hw (fun x_48 hw => ?_)
    refine tr_iload_n (k := 1) (x := v1) C hl 1 rfl dX3_lay_51 ?_
    refine tr_iload_n (k := 2) (x := v2) C hl 2 rfl dX3_lay_52 ?_
    refine tr_asI (r := x_48) C dX3_lay_53 hW hS hw (fun G_53 H locs hw hW hS => ?_)
    refine lv_iconst (v := (0 : Int32)) C.1.1 C.1.2.1 dX3_lay_54 (by decide) ?_
    refine tr_istore_n (k := 3) (x := (0 : Int32)) C hl [(3, .inl (0 : Int32)), (0, .inr (.inr v0)), (1, .inl v1), (2, .inl v2)] (by decide) rfl dX3_lay_55 (fun ls hl => ?_)
    refine lv_iconst (v := (3 : Int32)) C.1.1 C.1.2.1 dX3_lay_56 (by decide) ?_
    refine tr_istore (x := (3 : Int32)) C hl [(4, .inl (3 : Int32)), (3, .inl (0 : Int32)), (0, .inr (.inr v0)), (1, .inl v1), (2, .inl v2)] (by decide) rfl dX3_lay_57 (fun ls hl => ?_)
    obtain ⟨n59, hw⟩ := hw
    exact s_X3_lay_59 C hr hll post n59 v0 v1 ((0 : Int32)) ((3 : Int32)) _ _ _ _ hW hS (tl_sub hl [2, 3, 1, 0] rfl) hw
  · have hw := hw.2 hc
    refine lv_iconst (v := (0 : Int32)) C.1.1 C.1.2.1 dX3_lay_36 (by decide) ?_
    exact tr_iret C hr dX3_lay_37 (Nat.le_of_ble_eq_true rfl) (Nat.le_of_ble_eq_true rfl) hW hS hw
set_option maxHeartbeats 4000000 in
set_option maxRecDepth 100000 in
theorem s_X3_lay_15 {K : tK} (C : tc_B p l s m args meth c D K A wz_X3_lay RX3 cX3_lay 5) (hr : meth.sig.returnType = (some .int)) (hll : l.stackTraces = false)  (post : Int32 → tG → Prop) : ∀ (v0 : Option Nat) (v1 : Int32) (v2 : Int32) (u0 : Option Nat) (u1 : Int32) (G : tG) (H : Heap) (locs : List Loc) (ls : Array Slot), tg_W D A s H G → va_S A s.heap H locs → tl ls 5 [(0, .inr (.inr v0)), (1, .inl v1), (2, .inl v2)] → w_X3_lay_15 K post v0 v1 v2 u0 u1 G → W p l e ({ frames := 1, cells := 1, slots := 12, locals := 22 } : Room) s m args below meth c H locs 0 0 (MQ below (tc_Qc D A (retI post)) args s 1 12 A) (F0 m 15 ls [.int u1, va_rf u0]) := by
  intro v0 v1 v2 u0 u1 G H locs ls hW hS hl hw
  unfold w_X3_lay_15 at hw
  refine tr_iload_n (k := 2) (x := v2) C hl 2 rfl dX3_lay_15 ?_
  refine lv_iconst (v := (0 : Int32)) C.1.1 C.1.2.1 dX3_lay_16 (by decide) ?_
  refine lv_bipush (v := (12 : Int32)) C.1.1 C.1.2.1 dX3_lay_17 (by decide) ?_
  refine tr_backI (tr_runS (As := [.int v2, .int ((0 : Int32)), .int ((12 : Int32))]) C hl.1 (c_X3_isIn l hll K _ v2 ((0 : Int32)) ((12 : Int32))) (va_cwS 3 C.1.2.2.2.2 (gi_S (zm kw_194) (zm kw_195) (zm kw_155) (zm kw_193)) rfl rfl rfl (by decide +kernel) ⟨(Nat.le_of_ble_eq_true rfl), (Nat.le_of_ble_eq_true rfl)⟩) rfl dX3_lay_19 ⟨(Nat.le_of_ble_eq_true rfl), (Nat.le_of_ble_eq_true rfl)⟩ [.inl u1, .inr (.inr u0)] rfl (Nat.le_of_ble_eq_true rfl) rfl hW hS hw) hS (fun x_19 G_19 H locs hw hW hS => ?_)
  refine lv_if_ne (tgt := 29) C.1.1 C.1.2.1 dX3_lay_22 (by decide) (fun hc => ?_) (fun hc => ?_)
  · have hw := hw.1 hc
    refine lv_iconst (v := (0 : Int32)) C.1.1 C.1.2.1 dX3_lay_29 (by decide) ?_
    exact s_X3_lay_30 C hr hll post v0 v1 v2 u0 u1 ((0 : Int32)) _ _ _ _ hW hS (tl_sub hl [0, 1, 2] rfl) hw
  · have hw := hw.2 hc
    refine lv_iconst (v := (1 : Int32)) C.1.1 C.1.2.1 dX3_lay_25 (by decide) ?_
    refine lv_goto (tgt := 30) C.1.1 C.1.2.1 dX3_lay_26 (by decide) ?_
    exact s_X3_lay_30 C hr hll post v0 v1 v2 u0 u1 ((1 : Int32)) _ _ _ _ hW hS (tl_sub hl [0, 1, 2] rfl) hw
set_option maxHeartbeats 4000000 in
set_option maxRecDepth 100000 in
theorem s_X3_lay {K : tK} (C : tc_B p l s m args meth c D K A wz_X3_lay RX3 cX3_lay 5) (hr : meth.sig.returnType = (some .int)) (hll : l.stackTraces = false)  (post : Int32 → tG → Prop) (v0 : Option Nat) (v1 : Int32) (v2 : Int32) : ∀ (G : tG) (H : Heap) (locs : List Loc) (ls : Array Slot), tg_W D A s H G → va_S A s.heap H locs → tl ls 5 [(0, .inr (.inr v0)), (1, .inl v1), (2, .inl v2)] → w_X3_lay K post v0 v1 v2 G → W p l e ({ frames := 1, cells := 1, slots := 12, locals := 22 } : Room) s m args below meth c H locs 0 0 (MQ below (tc_Qc D A (retI post)) args s 1 12 A) (F0 m 0 ls []) := by
  intro G H locs ls hW hS hl hw
  unfold w_X3_lay at hw
  refine tr_aload_n (k := 0) (x := v0) C hl 0 rfl dX3_lay_0 ?_
  refine tr_iload_n (k := 1) (x := v1) C hl 1 rfl dX3_lay_1 ?_
  refine lv_iconst (v := (0 : Int32)) C.1.1 C.1.2.1 dX3_lay_2 (by decide) ?_
  refine lv_iconst (v := (2 : Int32)) C.1.1 C.1.2.1 dX3_lay_3 (by decide) ?_
  refine tr_backI (tr_runS (As := [.int v1, .int ((0 : Int32)), .int ((2 : Int32))]) C hl.1 (c_X3_isIn l hll K _ v1 ((0 : Int32)) ((2 : Int32))) (va_cwS 3 C.1.2.2.2.2 (gi_S (zm kw_194) (zm kw_195) (zm kw_155) (zm kw_193)) rfl rfl rfl (by decide +kernel) ⟨(Nat.le_of_ble_eq_true rfl), (Nat.le_of_ble_eq_true rfl)⟩) rfl dX3_lay_4 ⟨(Nat.le_of_ble_eq_true rfl), (Nat.le_of_ble_eq_true rfl)⟩ [.inr (.inr v0)] rfl (Nat.le_of_ble_eq_true rfl) rfl hW hS hw) hS (fun x_4 G_4 H locs hw hW hS => ?_)
  refine lv_if_ne (tgt := 14) C.1.1 C.1.2.1 dX3_lay_7 (by decide) (fun hc => ?_) (fun hc => ?_)
  · have hw := hw.1 hc
    refine lv_iconst (v := (0 : Int32)) C.1.1 C.1.2.1 dX3_lay_14 (by decide) ?_
    exact s_X3_lay_15 C hr hll post v0 v1 v2 v0 ((0 : Int32)) _ _ _ _ hW hS (tl_sub hl [0, 1, 2] rfl) hw
  · have hw := hw.2 hc
    refine lv_iconst (v := (1 : Int32)) C.1.1 C.1.2.1 dX3_lay_10 (by decide) ?_
    refine lv_goto (tgt := 15) C.1.1 C.1.2.1 dX3_lay_11 (by decide) ?_
    exact s_X3_lay_15 C hr hll post v0 v1 v2 v0 ((1 : Int32)) _ _ _ _ hW hS (tl_sub hl [0, 1, 2] rfl) hw
end Z_X3_lay
set_option maxHeartbeats 4000000 in
set_option maxRecDepth 100000 in
theorem c_X3_lay (l : Launch) (hll : l.stackTraces = false) (K : tK) (post : Int32 → tG → Prop) (v0 : Option Nat) (v1 : Int32) (v2 : Int32) : Ct l yX3_lay wz_X3_lay ({ frames := 1, cells := 1, slots := 12, locals := 22 } : Room) 1 12 [va_rf v0, .int v1, .int v2] K (retI post) (fun G => w_X3_lay K post v0 v1 v2 G) := by
  refine tc_of (cc := cX3_lay) (maxL := 5) (ret := (some .int)) (own := RX3) (plainFor_of_name (by decide)) rfl rfl hll [.inr (.inr v0), .inl v1, .inl v2] rfl (Nat.le_of_ble_eq_true rfl) ?_
  intro p e s m args below meth c D A G ls C hr hn ht hl hW hS hw
  exact s_X3_lay C hr hll post v0 v1 v2 _ _ _ _ hW hS hl hw
