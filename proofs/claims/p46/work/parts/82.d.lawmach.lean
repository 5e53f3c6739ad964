/-! L_law -/
def wz_L_law : List Cond := Cond.initialized RX1 :: w0
section Z_L_law
variable {p : Program} {l : Launch} {e : Env} {s : State} {m : MethodId} {args : Array Value} {below : List Frame} {meth : Method} {c : Code} {D : va_G} {A : Nat → Prop} {b xL : Nat} {xs : Nat → Int32}
set_option maxHeartbeats 4000000 in
set_option maxRecDepth 100000 in
theorem s_L_law_2056 {K : tK} (C : tc_B p l s m #[Value.ref b] meth c D K A wz_L_law RL cL_law 7) (hr : meth.sig.returnType = (some .boolean)) (hX : va_X b xL xs s s.heap) (hbl : b < s.heap.size) (hbA : ¬ A b) (hA2 : ∀ q : Nat, A q → s.heap.size ≤ q) (hcN : va_Nw tw_nest s) (hll : l.stackTraces = false)  (k27 : Nat → Nat → Option Nat → Option Nat → Option Nat → Int32 → tG → Prop) (hk27 : ∀ (nc ns : Nat) (v1 : Option Nat) (v2 : Option Nat) (v3 : Option Nat) (v4 : Int32) (G : tG) (H : Heap) (locs : List Loc) (ls : Array Slot), nc ≤ 646169 ∧ ns ≤ 7157597 → tg_W D A s H G → va_S A s.heap H locs → tl ls 7 [(1, .inr (.inr v1)), (2, .inr (.inr v2)), (3, .inr (.inr v3)), (4, .inl v4), (0, .inr (.inr (some b)))] → k27 nc ns v1 v2 v3 v4 G → W p l e room_1 s m #[Value.ref b] below meth c H locs nc ns (lw_Z below #[Value.ref b] s) (F0 m 27 ls [])) : ∀ (nc ns : Nat) (v1 : Option Nat) (v2 : Option Nat) (v3 : Option Nat) (v4 : Int32) (G : tG) (H : Heap) (locs : List Loc) (ls : Array Slot), nc ≤ 646169 ∧ ns ≤ 7157597 → tg_W D A s H G → va_S A s.heap H locs → tl ls 7 [(1, .inr (.inr v1)), (2, .inr (.inr v2)), (3, .inr (.inr v3)), (4, .inl v4), (0, .inr (.inr (some b)))] → w_L_law_2056 K xL xs k27 nc ns v1 v2 v3 v4 G → W p l e room_1 s m #[Value.ref b] below meth c H locs nc ns (lw_Z below #[Value.ref b] s) (F0 m 2056 ls []) := by
  intro nc ns v1 v2 v3 v4 G H locs ls hcn hW hS hl hw
  unfold w_L_law_2056 at hw
  refine tr_iinc C hl 3 (v4 + (6 : Int32)) [(4, .inl (v4 + (6 : Int32))), (1, .inr (.inr v1)), (2, .inr (.inr v2)), (3, .inr (.inr v3)), (0, .inr (.inr (some b)))] rfl rfl (by decide) rfl dL_law_2056 (fun ls hl => ?_)
  refine lv_goto (tgt := 27) C.1.1 C.1.2.1 dL_law_2059 (by decide) ?_
  exact hk27 nc ns v1 v2 v3 ((v4 + (6 : Int32))) _ _ _ _ (show nc ≤ 646169 ∧ ns ≤ 7157597 by omega) hW hS (tl_sub hl [1, 2, 3, 0, 4] rfl) hw
set_option maxHeartbeats 4000000 in
set_option maxRecDepth 100000 in
theorem s_L_law_1060 {K : tK} (C : tc_B p l s m #[Value.ref b] meth c D K A wz_L_law RL cL_law 7) (hr : meth.sig.returnType = (some .boolean)) (hX : va_X b xL xs s s.heap) (hbl : b < s.heap.size) (hbA : ¬ A b) (hA2 : ∀ q : Nat, A q → s.heap.size ≤ q) (hcN : va_Nw tw_nest s) (hll : l.stackTraces = false)  (k27 : Nat → Nat → Option Nat → Option Nat → Option Nat → Int32 → tG → Prop) (hk27 : ∀ (nc ns : Nat) (v1 : Option Nat) (v2 : Option Nat) (v3 : Option Nat) (v4 : Int32) (G : tG) (H : Heap) (locs : List Loc) (ls : Array Slot), nc ≤ 646169 ∧ ns ≤ 7157597 → tg_W D A s H G → va_S A s.heap H locs → tl ls 7 [(1, .inr (.inr v1)), (2, .inr (.inr v2)), (3, .inr (.inr v3)), (4, .inl v4), (0, .inr (.inr (some b)))] → k27 nc ns v1 v2 v3 v4 G → W p l e room_1 s m #[Value.ref b] below meth c H locs nc ns (lw_Z below #[Value.ref b] s) (F0 m 27 ls [])) : ∀ (nc ns : Nat) (v1 : Option Nat) (v2 : Option Nat) (v3 : Option Nat) (v4 : Int32) (u0 : Option Nat) (u1 : Int32) (u2 : Int32) (u3 : Int32) (u4 : Int32) (G : tG) (H : Heap) (locs : List Loc) (ls : Array Slot), nc ≤ 646169 ∧ ns ≤ 7157597 → tg_W D A s H G → va_S A s.heap H locs → tl ls 7 [(1, .inr (.inr v1)), (2, .inr (.inr v2)), (3, .inr (.inr v3)), (4, .inl v4), (0, .inr (.inr (some b)))] → w_L_law_1060 K xL xs k27 nc ns v1 v2 v3 v4 u0 u1 u2 u3 u4 G → W p l e room_1 s m #[Value.ref b] below meth c H locs nc ns (lw_Z below #[Value.ref b] s) (F0 m 1060 ls [.int u4, .int u3, .int u2, .int u1, va_rf u0]) := by
  intro nc ns v1 v2 v3 v4 u0 u1 u2 u3 u4 G H locs ls hcn hW hS hl hw
  unfold w_L_law_1060 at hw
  obtain ⟨mc_1060, ms_1060, hb1060, hd1060, hw⟩ := hw
  refine tr_backR (tr_runV (r := u0) (As := [.int u1, .int u2, .int u3, .int u4]) C hl.1 (c_X3_walk l hll K mc_1060 ms_1060 _ u0 u1 u2 u3 u4) (cwV 4 C.1.2.2.2.2 (gi_V (zm kw_674) (zm kw_675) (zm kw_676) (zm kw_155) (zm kw_673)) rfl rfl rfl (by decide +kernel) ⟨(Nat.le_of_ble_eq_true rfl), (Nat.le_of_ble_eq_true rfl)⟩) rfl rfl dL_law_1060 ⟨hb1060, hd1060⟩ [] rfl (Nat.le_of_ble_eq_true rfl) rfl hW hS hw) hS (fun x_1060 G_1060 H locs hw hW hS => ?_)
  refine tr_astore (x := x_1060) C hl [(6, .inr (.inr x_1060)), (1, .inr (.inr v1)), (2, .inr (.inr v2)), (3, .inr (.inr v3)), (4, .inl v4), (0, .inr (.inr (some b)))] (by decide) rfl dL_law_1063 (fun ls hl => ?_)
  refine lv_goto (tgt := 2056) C.1.1 C.1.2.1 dL_law_1065 (by decide) ?_
  exact s_L_law_2056 C hr hX hbl hbA hA2 hcN hll k27 hk27 ((nc + mc_1060)) ((ns + ms_1060)) v1 v2 v3 v4 _ _ _ _ (show (nc + mc_1060) ≤ 646169 ∧ (ns + ms_1060) ≤ 7157597 by omega) hW hS (tl_sub hl [1, 2, 3, 4, 5] rfl) hw
set_option maxHeartbeats 4000000 in
set_option maxRecDepth 100000 in
theorem s_L_law_1021 {K : tK} (C : tc_B p l s m #[Value.ref b] meth c D K A wz_L_law RL cL_law 7) (hr : meth.sig.returnType = (some .boolean)) (hX : va_X b xL xs s s.heap) (hbl : b < s.heap.size) (hbA : ¬ A b) (hA2 : ∀ q : Nat, A q → s.heap.size ≤ q) (hcN : va_Nw tw_nest s) (hll : l.stackTraces = false)  (k27 : Nat → Nat → Option Nat → Option Nat → Option Nat → Int32 → tG → Prop) (hk27 : ∀ (nc ns : Nat) (v1 : Option Nat) (v2 : Option Nat) (v3 : Option Nat) (v4 : Int32) (G : tG) (H : Heap) (locs : List Loc) (ls : Array Slot), nc ≤ 646169 ∧ ns ≤ 7157597 → tg_W D A s H G → va_S A s.heap H locs → tl ls 7 [(1, .inr (.inr v1)), (2, .inr (.inr v2)), (3, .inr (.inr v3)), (4, .inl v4), (0, .inr (.inr (some b)))] → k27 nc ns v1 v2 v3 v4 G → W p l e room_1 s m #[Value.ref b] below meth c H locs nc ns (lw_Z below #[Value.ref b] s) (F0 m 27 ls [])) : ∀ (nc ns : Nat) (v1 : Option Nat) (v2 : Option Nat) (v3 : Option Nat) (v4 : Int32) (u0 : Option Nat) (u1 : Int32) (u2 : Int32) (u3 : Int32) (u4 : Int32) (G : tG) (H : Heap) (locs : List Loc) (ls : Array Slot), nc ≤ 646169 ∧ ns ≤ 7157597 → tg_W D A s H G → va_S A s.heap H locs → tl ls 7 [(1, .inr (.inr v1)), (2, .inr (.inr v2)), (3, .inr (.inr v3)), (4, .inl v4), (0, .inr (.inr (some b)))] → w_L_law_1021 K xL xs k27 nc ns v1 v2 v3 v4 u0 u1 u2 u3 u4 G → W p l e room_1 s m #[Value.ref b] below meth c H locs nc ns (lw_Z below #[Value.ref b] s) (F0 m 1021 ls [.int u4, .int u3, .int u2, .int u1, va_rf u0]) := by
  intro nc ns v1 v2 v3 v4 u0 u1 u2 u3 u4 G H locs ls hcn hW hS hl hw
  unfold w_L_law_1021 at hw
  refine tr_aload_n (k := 3) (x := v3) C hl 2 rfl dL_law_1021 ?_
  obtain ⟨mc_1022, ms_1022, hb1022, hd1022, hw⟩ := hw
  refine tx_backNI (tx_runSX (As := [va_rf u0, .int u1, .int u2, .int u3, .int u4, va_rf v3]) C hl.1 (c_L_walk l hll K mc_1022 ms_1022 _ u0 u1 u2 u3 u4 v3) (vx_cwSW 6 C.1.2.2.2.2 (gi_SX (zm kw_678) (zm kw_679) (zm kw_680) (zm kw_677)) rfl rfl rfl (by decide +kernel) ⟨(Nat.le_of_ble_eq_true rfl), (Nat.le_of_ble_eq_true rfl)⟩) rfl dL_law_1022 ⟨hb1022, hd1022⟩ [] rfl (Nat.le_of_ble_eq_true rfl) rfl hW hS hw) hS (fun x_1022 G_1022 H locs hw hW hS => ?_)
  refine tr_istore (x := x_1022) C hl [(5, .inl x_1022), (1, .inr (.inr v1)), (2, .inr (.inr v2)), (3, .inr (.inr v3)), (4, .inl v4), (0, .inr (.inr (some b)))] (by decide) rfl dL_law_1025 (fun ls hl => ?_)
  refine tr_aload_n (k := 2) (x := v2) C hl 2 rfl dL_law_1027 ?_
  refine tr_aload_n (k := 0) (x := (some b)) C hl 5 rfl dL_law_1028 ?_
  refine tr_iload (x := v4) C hl 4 rfl dL_law_1029 ?_
  refine lv_iconst (v := (1 : Int32)) C.1.1 C.1.2.1 dL_law_1031 (by decide) ?_
  refine lv_iadd C.1.1 C.1.2.1 dL_law_1032 ?_
  refine tr_sld C hX hbl hbA hS dL_law_1033 hw (fun x_1033 hw => ?_)
  refine tr_aload_n (k := 0) (x := (some b)) C hl 5 rfl dL_law_1034 ?_
  refine tr_iload (x := v4) C hl 4 rfl dL_law_1035 ?_
  refine lv_iconst (v := (2 : Int32)) C.1.1 C.1.2.1 dL_law_1037 (by decide) ?_
  refine lv_iadd C.1.1 C.1.2.1 dL_law_1038 ?_
  refine tr_sld C hX hbl hbA hS dL_law_1039 hw (fun x_1039 hw => ?_)
  refine tr_aload_n (k := 0) (x := (some b)) C hl 5 rfl dL_law_1040 ?_
  refine tr_iload (x := v4) C hl 4 rfl dL_law_1041 ?_
  refine lv_iconst (v := (3 : Int32)) C.1.1 C.1.2.1 dL_law_1043 (by decide) ?_
  refine lv_iadd C.1.1 C.1.2.1 dL_law_1044 ?_
  refine tr_sld C hX hbl hbA hS dL_law_1045 hw (fun x_1045 hw => ?_)
  refine tr_aload_n (k := 0) (x := (some b)) C hl 5 rfl dL_law_1046 ?_
  refine tr_iload (x := v4) C hl 4 rfl dL_law_1047 ?_
  refine lv_iconst (v := (4 : Int32)) C.1.1 C.1.2.1 dL_law_1049 (by decide) ?_
  refine lv_iadd C.1.1 C.1.2.1 dL_law_1050 ?_
  refine tr_sld C hX hbl hbA hS dL_law_1051 hw (fun x_1051 hw => ?_)
  refine lv_if_eq (tgt := 1059) C.1.1 C.1.2.1 dL_law_1052 (by decide) (fun hc => ?_) (fun hc => ?_)
  · have hw := hw.1 hc
    refine lv_iconst (v := (0 : Int32)) C.1.1 C.1.2.1 dL_law_1059 (by decide) ?_
    exact s_L_law_1060 C hr hX hbl hbA hA2 hcN hll k27 hk27 ((nc + mc_1022)) ((ns + ms_1022)) v1 v2 v3 v4 v2 x_1033 x_1039 x_1045 ((0 : Int32)) _ _ _ _ (show (nc + mc_1022) ≤ 646169 ∧ (ns + ms_1022) ≤ 7157597 by omega) hW hS (tl_sub hl [1, 2, 3, 4, 5] rfl) hw
  · have hw := hw.2 hc
    refine lv_iconst (v := (1 : Int32)) C.1.1 C.1.2.1 dL_law_1055 (by decide) ?_
    refine lv_goto (tgt := 1060) C.1.1 C.1.2.1 dL_law_1056 (by decide) ?_
    exact s_L_law_1060 C hr hX hbl hbA hA2 hcN hll k27 hk27 ((nc + mc_1022)) ((ns + ms_1022)) v1 v2 v3 v4 v2 x_1033 x_1039 x_1045 ((1 : Int32)) _ _ _ _ (show (nc + mc_1022) ≤ 646169 ∧ (ns + ms_1022) ≤ 7157597 by omega) hW hS (tl_sub hl [1, 2, 3, 4, 5] rfl) hw
set_option maxHeartbeats 4000000 in
set_option maxRecDepth 100000 in
theorem s_L_law_1180 {K : tK} (C : tc_B p l s m #[Value.ref b] meth c D K A wz_L_law RL cL_law 7) (hr : meth.sig.returnType = (some .boolean)) (hX : va_X b xL xs s s.heap) (hbl : b < s.heap.size) (hbA : ¬ A b) (hA2 : ∀ q : Nat, A q → s.heap.size ≤ q) (hcN : va_Nw tw_nest s) (hll : l.stackTraces = false)  (k27 : Nat → Nat → Option Nat → Option Nat → Option Nat → Int32 → tG → Prop) (hk27 : ∀ (nc ns : Nat) (v1 : Option Nat) (v2 : Option Nat) (v3 : Option Nat) (v4 : Int32) (G : tG) (H : Heap) (locs : List Loc) (ls : Array Slot), nc ≤ 646169 ∧ ns ≤ 7157597 → tg_W D A s H G → va_S A s.heap H locs → tl ls 7 [(1, .inr (.inr v1)), (2, .inr (.inr v2)), (3, .inr (.inr v3)), (4, .inl v4), (0, .inr (.inr (some b)))] → k27 nc ns v1 v2 v3 v4 G → W p l e room_1 s m #[Value.ref b] below meth c H locs nc ns (lw_Z below #[Value.ref b] s) (F0 m 27 ls [])) : ∀ (nc ns : Nat) (v1 : Option Nat) (v2 : Option Nat) (v3 : Option Nat) (v4 : Int32) (u0 : Option Nat) (u1 : Int32) (u2 : Int32) (u3 : Int32) (u4 : Int32) (u5 : Int32) (G : tG) (H : Heap) (locs : List Loc) (ls : Array Slot), nc ≤ 646169 ∧ ns ≤ 7157597 → tg_W D A s H G → va_S A s.heap H locs → tl ls 7 [(1, .inr (.inr v1)), (2, .inr (.inr v2)), (3, .inr (.inr v3)), (4, .inl v4), (0, .inr (.inr (some b)))] → w_L_law_1180 K xL xs k27 nc ns v1 v2 v3 v4 u0 u1 u2 u3 u4 u5 G → W p l e room_1 s m #[Value.ref b] below meth c H locs nc ns (lw_Z below #[Value.ref b] s) (F0 m 1180 ls [.int u5, .int u4, .int u3, .int u2, .int u1, va_rf u0]) := by
  intro nc ns v1 v2 v3 v4 u0 u1 u2 u3 u4 u5 G H locs ls hcn hW hS hl hw
  unfold w_L_law_1180 at hw
  refine tr_backI (tr_runV (r := u0) (As := [.int u1, .int u2, .int u3, .int u4, .int u5]) C hl.1 (c_X3_walkSet l hll K _ u0 u1 u2 u3 u4 u5) (cwV 5 C.1.2.2.2.2 (gi_V (zm kw_682) (zm kw_683) (zm kw_684) (zm kw_155) (zm kw_681)) rfl rfl rfl (by decide +kernel) ⟨(Nat.le_of_ble_eq_true rfl), (Nat.le_of_ble_eq_true rfl)⟩) rfl rfl dL_law_1180 ⟨(show nc + 0 ≤ 646169 by omega), (show ns + 0 ≤ 7157597 by omega)⟩ [] rfl (Nat.le_of_ble_eq_true rfl) rfl hW hS hw) hS (fun x_1180 G_1180 H locs hw hW hS => ?_)
  refine tr_istore (x := x_1180) C hl [(6, .inl x_1180), (1, .inr (.inr v1)), (2, .inr (.inr v2)), (3, .inr (.inr v3)), (4, .inl v4), (0, .inr (.inr (some b)))] (by decide) rfl dL_law_1183 (fun ls hl => ?_)
  refine lv_goto (tgt := 2056) C.1.1 C.1.2.1 dL_law_1185 (by decide) ?_
  exact s_L_law_2056 C hr hX hbl hbA hA2 hcN hll k27 hk27 nc ns v1 v2 v3 v4 _ _ _ _ (show nc ≤ 646169 ∧ ns ≤ 7157597 by omega) hW hS (tl_sub hl [1, 2, 3, 4, 5] rfl) hw
set_option maxHeartbeats 4000000 in
set_option maxRecDepth 100000 in
theorem s_L_law_1135 {K : tK} (C : tc_B p l s m #[Value.ref b] meth c D K A wz_L_law RL cL_law 7) (hr : meth.sig.returnType = (some .boolean)) (hX : va_X b xL xs s s.heap) (hbl : b < s.heap.size) (hbA : ¬ A b) (hA2 : ∀ q : Nat, A q → s.heap.size ≤ q) (hcN : va_Nw tw_nest s) (hll : l.stackTraces = false)  (k27 : Nat → Nat → Option Nat → Option Nat → Option Nat → Int32 → tG → Prop) (hk27 : ∀ (nc ns : Nat) (v1 : Option Nat) (v2 : Option Nat) (v3 : Option Nat) (v4 : Int32) (G : tG) (H : Heap) (locs : List Loc) (ls : Array Slot), nc ≤ 646169 ∧ ns ≤ 7157597 → tg_W D A s H G → va_S A s.heap H locs → tl ls 7 [(1, .inr (.inr v1)), (2, .inr (.inr v2)), (3, .inr (.inr v3)), (4, .inl v4), (0, .inr (.inr (some b)))] → k27 nc ns v1 v2 v3 v4 G → W p l e room_1 s m #[Value.ref b] below meth c H locs nc ns (lw_Z below #[Value.ref b] s) (F0 m 27 ls [])) : ∀ (nc ns : Nat) (v1 : Option Nat) (v2 : Option Nat) (v3 : Option Nat) (v4 : Int32) (u0 : Option Nat) (u1 : Int32) (u2 : Int32) (u3 : Int32) (u4 : Int32) (u5 : Int32) (G : tG) (H : Heap) (locs : List Loc) (ls : Array Slot), nc ≤ 646169 ∧ ns ≤ 7157597 → tg_W D A s H G → va_S A s.heap H locs → tl ls 7 [(1, .inr (.inr v1)), (2, .inr (.inr v2)), (3, .inr (.inr v3)), (4, .inl v4), (0, .inr (.inr (some b)))] → w_L_law_1135 K xL xs k27 nc ns v1 v2 v3 v4 u0 u1 u2 u3 u4 u5 G → W p l e room_1 s m #[Value.ref b] below meth c H locs nc ns (lw_Z below #[Value.ref b] s) (F0 m 1135 ls [.int u5, .int u4, .int u3, .int u2, .int u1, va_rf u0]) := by
  intro nc ns v1 v2 v3 v4 u0 u1 u2 u3 u4 u5 G H locs ls hcn hW hS hl hw
  unfold w_L_law_1135 at hw
  refine tr_aload_n (k := 3) (x := v3) C hl 2 rfl dL_law_1135 ?_
  have hq1 := hw.1
  have hw := hw.2
  refine tx_backNI (tx_runSX (As := [va_rf u0, .int u1, .int u2, .int u3, .int u4, .int u5, va_rf v3]) C hl.1 (c_L_walkSet l hll K _ u0 u1 u2 u3 u4 u5 v3) (vx_cwSW 7 C.1.2.2.2.2 (gi_SX (zm kw_686) (zm kw_687) (zm kw_680) (zm kw_685)) rfl rfl rfl (by decide +kernel) ⟨(Nat.le_of_ble_eq_true rfl), (Nat.le_of_ble_eq_true rfl)⟩) rfl dL_law_1136 ⟨hq1.1, hq1.2⟩ [] rfl (Nat.le_of_ble_eq_true rfl) rfl hW hS hw) hS (fun x_1136 G_1136 H locs hw hW hS => ?_)
  refine tr_istore (x := x_1136) C hl [(5, .inl x_1136), (1, .inr (.inr v1)), (2, .inr (.inr v2)), (3, .inr (.inr v3)), (4, .inl v4), (0, .inr (.inr (some b)))] (by decide) rfl dL_law_1139 (fun ls hl => ?_)
  refine tr_aload_n (k := 2) (x := v2) C hl 2 rfl dL_law_1141 ?_
  refine tr_aload_n (k := 0) (x := (some b)) C hl 5 rfl dL_law_1142 ?_
  refine tr_iload (x := v4) C hl 4 rfl dL_law_1143 ?_
  refine lv_iconst (v := (1 : Int32)) C.1.1 C.1.2.1 dL_law_1145 (by decide) ?_
  refine lv_iadd C.1.1 C.1.2.1 dL_law_1146 ?_
  refine tr_sld C hX hbl hbA hS dL_law_1147 hw (fun x_1147 hw => ?_)
  refine tr_aload_n (k := 0) (x := (some b)) C hl 5 rfl dL_law_1148 ?_
  refine tr_iload (x := v4) C hl 4 rfl dL_law_1149 ?_
  refine lv_iconst (v := (2 : Int32)) C.1.1 C.1.2.1 dL_law_1151 (by decide) ?_
  refine lv_iadd C.1.1 C.1.2.1 dL_law_1152 ?_
  refine tr_sld C hX hbl hbA hS dL_law_1153 hw (fun x_1153 hw => ?_)
  refine tr_aload_n (k := 0) (x := (some b)) C hl 5 rfl dL_law_1154 ?_
  refine tr_iload (x := v4) C hl 4 rfl dL_law_1155 ?_
  refine lv_iconst (v := (3 : Int32)) C.1.1 C.1.2.1 dL_law_1157 (by decide) ?_
  refine lv_iadd C.1.1 C.1.2.1 dL_law_1158 ?_
  refine tr_sld C hX hbl hbA hS dL_law_1159 hw (fun x_1159 hw => ?_)
  refine tr_aload_n (k := 0) (x := (some b)) C hl 5 rfl dL_law_1160 ?_
  refine tr_iload (x := v4) C hl 4 rfl dL_law_1161 ?_
  refine lv_iconst (v := (4 : Int32)) C.1.1 C.1.2.1 dL_law_1163 (by decide) ?_
  refine lv_iadd C.1.1 C.1.2.1 dL_law_1164 ?_
  refine tr_sld C hX hbl hbA hS dL_law_1165 hw (fun x_1165 hw => ?_)
  refine tr_aload_n (k := 0) (x := (some b)) C hl 5 rfl dL_law_1166 ?_
  refine tr_iload (x := v4) C hl 4 rfl dL_law_1167 ?_
  refine lv_iconst (v := (5 : Int32)) C.1.1 C.1.2.1 dL_law_1169 (by decide) ?_
  refine lv_iadd C.1.1 C.1.2.1 dL_law_1170 ?_
  refine tr_sld C hX hbl hbA hS dL_law_1171 hw (fun x_1171 hw => ?_)
  refine lv_if_eq (tgt := 1179) C.1.1 C.1.2.1 dL_law_1172 (by decide) (fun hc => ?_) (fun hc => ?_)
  · have hw := hw.1 hc
    refine lv_iconst (v := (0 : Int32)) C.1.1 C.1.2.1 dL_law_1179 (by decide) ?_
    exact s_L_law_1180 C hr hX hbl hbA hA2 hcN hll k27 hk27 ((nc + 4)) ((ns + 24)) v1 v2 v3 v4 v2 x_1147 x_1153 x_1159 x_1165 ((0 : Int32)) _ _ _ _ (show (nc + 4) ≤ 646169 ∧ (ns + 24) ≤ 7157597 by omega) hW hS (tl_sub hl [1, 2, 3, 4, 5] rfl) hw
  · have hw := hw.2 hc
    refine lv_iconst (v := (1 : Int32)) C.1.1 C.1.2.1 dL_law_1175 (by decide) ?_
    refine lv_goto (tgt := 1180) C.1.1 C.1.2.1 dL_law_1176 (by decide) ?_
    exact s_L_law_1180 C hr hX hbl hbA hA2 hcN hll k27 hk27 ((nc + 4)) ((ns + 24)) v1 v2 v3 v4 v2 x_1147 x_1153 x_1159 x_1165 ((1 : Int32)) _ _ _ _ (show (nc + 4) ≤ 646169 ∧ (ns + 24) ≤ 7157597 by omega) hW hS (tl_sub hl [1, 2, 3, 4, 5] rfl) hw
set_option maxHeartbeats 4000000 in
set_option maxRecDepth 100000 in
theorem s_L_law_1380 {K : tK} (C : tc_B p l s m #[Value.ref b] meth c D K A wz_L_law RL cL_law 7) (hr : meth.sig.returnType = (some .boolean)) (hX : va_X b xL xs s s.heap) (hbl : b < s.heap.size) (hbA : ¬ A b) (hA2 : ∀ q : Nat, A q → s.heap.size ≤ q) (hcN : va_Nw tw_nest s) (hll : l.stackTraces = false)  (k27 : Nat → Nat → Option Nat → Option Nat → Option Nat → Int32 → tG → Prop) (hk27 : ∀ (nc ns : Nat) (v1 : Option Nat) (v2 : Option Nat) (v3 : Option Nat) (v4 : Int32) (G : tG) (H : Heap) (locs : List Loc) (ls : Array Slot), nc ≤ 646169 ∧ ns ≤ 7157597 → tg_W D A s H G → va_S A s.heap H locs → tl ls 7 [(1, .inr (.inr v1)), (2, .inr (.inr v2)), (3, .inr (.inr v3)), (4, .inl v4), (0, .inr (.inr (some b)))] → k27 nc ns v1 v2 v3 v4 G → W p l e room_1 s m #[Value.ref b] below meth c H locs nc ns (lw_Z below #[Value.ref b] s) (F0 m 27 ls [])) : ∀ (nc ns : Nat) (v1 : Option Nat) (v2 : Option Nat) (v3 : Option Nat) (v4 : Int32) (u0 : Option Nat) (u1 : Int32) (u2 : Int32) (G : tG) (H : Heap) (locs : List Loc) (ls : Array Slot), nc ≤ 646169 ∧ ns ≤ 7157597 → tg_W D A s H G → va_S A s.heap H locs → tl ls 7 [(1, .inr (.inr v1)), (2, .inr (.inr v2)), (3, .inr (.inr v3)), (4, .inl v4), (0, .inr (.inr (some b)))] → w_L_law_1380 K xL xs k27 nc ns v1 v2 v3 v4 u0 u1 u2 G → W p l e room_1 s m #[Value.ref b] below meth c H locs nc ns (lw_Z below #[Value.ref b] s) (F0 m 1380 ls [.int u2, .int u1, va_rf u0]) := by
  intro nc ns v1 v2 v3 v4 u0 u1 u2 G H locs ls hcn hW hS hl hw
  unfold w_L_law_1380 at hw
  have hq2 := hw.1
  have hw := hw.2
  refine tr_backI (tr_runV (r := u0) (As := [.int u1, .int u2]) C hl.1 (c_X3_sort l hll K _ u0 u1 u2) (cwV 2 C.1.2.2.2.2 (gi_V (zm kw_689) (zm kw_690) (zm kw_691) (zm kw_155) (zm kw_688)) rfl rfl rfl (by decide +kernel) ⟨(Nat.le_of_ble_eq_true rfl), (Nat.le_of_ble_eq_true rfl)⟩) rfl rfl dL_law_1380 ⟨hq2.1, hq2.2⟩ [] rfl (Nat.le_of_ble_eq_true rfl) rfl hW hS hw) hS (fun x_1380 G_1380 H locs hw hW hS => ?_)
  refine tr_istore (x := x_1380) C hl [(6, .inl x_1380), (1, .inr (.inr v1)), (2, .inr (.inr v2)), (3, .inr (.inr v3)), (4, .inl v4), (0, .inr (.inr (some b)))] (by decide) rfl dL_law_1383 (fun ls hl => ?_)
  refine lv_goto (tgt := 2056) C.1.1 C.1.2.1 dL_law_1385 (by decide) ?_
  exact s_L_law_2056 C hr hX hbl hbA hA2 hcN hll k27 hk27 ((nc + 1)) ((ns + 12)) v1 v2 v3 v4 _ _ _ _ (show (nc + 1) ≤ 646169 ∧ (ns + 12) ≤ 7157597 by omega) hW hS (tl_sub hl [1, 2, 3, 4, 5] rfl) hw
set_option maxHeartbeats 4000000 in
set_option maxRecDepth 100000 in
theorem s_L_law_1353 {K : tK} (C : tc_B p l s m #[Value.ref b] meth c D K A wz_L_law RL cL_law 7) (hr : meth.sig.returnType = (some .boolean)) (hX : va_X b xL xs s s.heap) (hbl : b < s.heap.size) (hbA : ¬ A b) (hA2 : ∀ q : Nat, A q → s.heap.size ≤ q) (hcN : va_Nw tw_nest s) (hll : l.stackTraces = false)  (k27 : Nat → Nat → Option Nat → Option Nat → Option Nat → Int32 → tG → Prop) (hk27 : ∀ (nc ns : Nat) (v1 : Option Nat) (v2 : Option Nat) (v3 : Option Nat) (v4 : Int32) (G : tG) (H : Heap) (locs : List Loc) (ls : Array Slot), nc ≤ 646169 ∧ ns ≤ 7157597 → tg_W D A s H G → va_S A s.heap H locs → tl ls 7 [(1, .inr (.inr v1)), (2, .inr (.inr v2)), (3, .inr (.inr v3)), (4, .inl v4), (0, .inr (.inr (some b)))] → k27 nc ns v1 v2 v3 v4 G → W p l e room_1 s m #[Value.ref b] below meth c H locs nc ns (lw_Z below #[Value.ref b] s) (F0 m 27 ls [])) : ∀ (nc ns : Nat) (v1 : Option Nat) (v2 : Option Nat) (v3 : Option Nat) (v4 : Int32) (u0 : Option Nat) (u1 : Int32) (u2 : Int32) (G : tG) (H : Heap) (locs : List Loc) (ls : Array Slot), nc ≤ 646169 ∧ ns ≤ 7157597 → tg_W D A s H G → va_S A s.heap H locs → tl ls 7 [(1, .inr (.inr v1)), (2, .inr (.inr v2)), (3, .inr (.inr v3)), (4, .inl v4), (0, .inr (.inr (some b)))] → w_L_law_1353 K xL xs k27 nc ns v1 v2 v3 v4 u0 u1 u2 G → W p l e room_1 s m #[Value.ref b] below meth c H locs nc ns (lw_Z below #[Value.ref b] s) (F0 m 1353 ls [.int u2, .int u1, va_rf u0]) := by
  intro nc ns v1 v2 v3 v4 u0 u1 u2 G H locs ls hcn hW hS hl hw
  unfold w_L_law_1353 at hw
  refine tr_aload_n (k := 3) (x := v3) C hl 2 rfl dL_law_1353 ?_
  have hq3 := hw.1
  have hw := hw.2
  refine tx_backNI (tx_runSX (As := [va_rf u0, .int u1, .int u2, va_rf v3]) C hl.1 (c_L_sort l hll K _ u0 u1 u2 v3) (vx_cwSW 4 C.1.2.2.2.2 (gi_SX (zm kw_693) (zm kw_694) (zm kw_680) (zm kw_692)) rfl rfl rfl (by decide +kernel) ⟨(Nat.le_of_ble_eq_true rfl), (Nat.le_of_ble_eq_true rfl)⟩) rfl dL_law_1354 ⟨hq3.1, hq3.2⟩ [] rfl (Nat.le_of_ble_eq_true rfl) rfl hW hS hw) hS (fun x_1354 G_1354 H locs hw hW hS => ?_)
  refine tr_istore (x := x_1354) C hl [(5, .inl x_1354), (1, .inr (.inr v1)), (2, .inr (.inr v2)), (3, .inr (.inr v3)), (4, .inl v4), (0, .inr (.inr (some b)))] (by decide) rfl dL_law_1357 (fun ls hl => ?_)
  refine tr_aload_n (k := 2) (x := v2) C hl 2 rfl dL_law_1359 ?_
  refine tr_aload_n (k := 0) (x := (some b)) C hl 5 rfl dL_law_1360 ?_
  refine tr_iload (x := v4) C hl 4 rfl dL_law_1361 ?_
  refine lv_iconst (v := (1 : Int32)) C.1.1 C.1.2.1 dL_law_1363 (by decide) ?_
  refine lv_iadd C.1.1 C.1.2.1 dL_law_1364 ?_
  refine tr_sld C hX hbl hbA hS dL_law_1365 hw (fun x_1365 hw => ?_)
  refine tr_aload_n (k := 0) (x := (some b)) C hl 5 rfl dL_law_1366 ?_
  refine tr_iload (x := v4) C hl 4 rfl dL_law_1367 ?_
  refine lv_iconst (v := (2 : Int32)) C.1.1 C.1.2.1 dL_law_1369 (by decide) ?_
  refine lv_iadd C.1.1 C.1.2.1 dL_law_1370 ?_
  refine tr_sld C hX hbl hbA hS dL_law_1371 hw (fun x_1371 hw => ?_)
  refine lv_if_eq (tgt := 1379) C.1.1 C.1.2.1 dL_law_1372 (by decide) (fun hc => ?_) (fun hc => ?_)
  · have hw := hw.1 hc
    refine lv_iconst (v := (0 : Int32)) C.1.1 C.1.2.1 dL_law_1379 (by decide) ?_
    exact s_L_law_1380 C hr hX hbl hbA hA2 hcN hll k27 hk27 ((nc + 1)) ((ns + 6)) v1 v2 v3 v4 v2 x_1365 ((0 : Int32)) _ _ _ _ (show (nc + 1) ≤ 646169 ∧ (ns + 6) ≤ 7157597 by omega) hW hS (tl_sub hl [1, 2, 3, 4, 5] rfl) hw
  · have hw := hw.2 hc
    refine lv_iconst (v := (1 : Int32)) C.1.1 C.1.2.1 dL_law_1375 (by decide) ?_
    refine lv_goto (tgt := 1380) C.1.1 C.1.2.1 dL_law_1376 (by decide) ?_
    exact s_L_law_1380 C hr hX hbl hbA hA2 hcN hll k27 hk27 ((nc + 1)) ((ns + 6)) v1 v2 v3 v4 v2 x_1365 ((1 : Int32)) _ _ _ _ (show (nc + 1) ≤ 646169 ∧ (ns + 6) ≤ 7157597 by omega) hW hS (tl_sub hl [1, 2, 3, 4, 5] rfl) hw
set_option maxHeartbeats 4000000 in
set_option maxRecDepth 100000 in
theorem s_L_law_27_b {K : tK} (C : tc_B p l s m #[Value.ref b] meth c D K A wz_L_law RL cL_law 7) (hr : meth.sig.returnType = (some .boolean)) (hX : va_X b xL xs s s.heap) (hbl : b < s.heap.size) (hbA : ¬ A b) (hA2 : ∀ q : Nat, A q → s.heap.size ≤ q) (hcN : va_Nw tw_nest s) (hll : l.stackTraces = false)  (k27 : Nat → Nat → Option Nat → Option Nat → Option Nat → Int32 → tG → Prop) (hk27 : ∀ (nc ns : Nat) (v1 : Option Nat) (v2 : Option Nat) (v3 : Option Nat) (v4 : Int32) (G : tG) (H : Heap) (locs : List Loc) (ls : Array Slot), nc ≤ 646169 ∧ ns ≤ 7157597 → tg_W D A s H G → va_S A s.heap H locs → tl ls 7 [(1, .inr (.inr v1)), (2, .inr (.inr v2)), (3, .inr (.inr v3)), (4, .inl v4), (0, .inr (.inr (some b)))] → k27 nc ns v1 v2 v3 v4 G → W p l e room_1 s m #[Value.ref b] below meth c H locs nc ns (lw_Z below #[Value.ref b] s) (F0 m 27 ls [])) : ∀ (nc ns : Nat) (v1 : Option Nat) (v2 : Option Nat) (v3 : Option Nat) (v4 : Int32) (G : tG) (H : Heap) (locs : List Loc) (ls : Array Slot), nc ≤ 646169 ∧ ns ≤ 7157597 → tg_W D A s H G → va_S A s.heap H locs → tl ls 7 [(1, .inr (.inr v1)), (2, .inr (.inr v2)), (3, .inr (.inr v3)), (4, .inl v4), (0, .inr (.inr (some b)))] → w_L_law_27_b K xL xs k27 nc ns v1 v2 v3 v4 G → W p l e room_1 s m #[Value.ref b] below meth c H locs nc ns (lw_Z below #[Value.ref b] s) (F0 m 27 ls []) := by
  intro nc ns v1 v2 v3 v4 G H locs ls hcn hW hS hl hw
  unfold w_L_law_27_b at hw
  refine tr_iload (x := v4) C hl 3 rfl dL_law_27 ?_
  refine tr_aload_n (k := 0) (x := (some b)) C hl 4 rfl dL_law_29 ?_
  refine tr_slen C hX hbl hbA hS dL_law_30 ?_
  refine lv_bipush (v := (6 : Int32)) C.1.1 C.1.2.1 dL_law_31 (by decide) ?_
  refine lv_isub C.1.1 C.1.2.1 dL_law_33 ?_
  refine lv_icmp_gt (tgt := 2062) C.1.1 C.1.2.1 dL_law_34 (by decide) (fun hc => ?_) (fun hc => ?_)
  · have hw := hw.1 hc
    refine lv_iconst (v := (1 : Int32)) C.1.1 C.1.2.1 dL_law_2062 (by decide) ?_
    exact tr_law C hr hA2 dL_law_2063 (show nc ≤ 646169 by omega) (show ns ≤ 7157597 by omega) hS hw
  · have hw := hw.2 hc
    refine tr_aload_n (k := 0) (x := (some b)) C hl 4 rfl dL_law_37 ?_
    refine tr_iload (x := v4) C hl 3 rfl dL_law_38 ?_
    refine tr_sld C hX hbl hbA hS dL_law_40 hw (fun x_40 hw => ?_)
    refine lv_bipush (v := (63 : Int32)) C.1.1 C.1.2.1 dL_law_41 (by decide) ?_
    refine lv_iand C.1.1 C.1.2.1 dL_law_43 ?_
    by_cases hc0 : (x_40 &&& (63 : Int32)) = (0 : Int32)
    · have hw := hw.1 hc0
      refine lv_tableIn (off := 196) (tgt := 240) C.1.1 C.1.2.1 dL_law_44 (by rw [hc0]; decide) (by rw [hc0]; decide) (by rw [hc0]; rfl) (by decide) ?_
      refine tr_aload_n (k := 1) (x := v1) C hl 0 rfl dL_law_240 ?_
      refine tr_aload_n (k := 0) (x := (some b)) C hl 4 rfl dL_law_241 ?_
      refine tr_iload (x := v4) C hl 3 rfl dL_law_242 ?_
      refine lv_iconst (v := (1 : Int32)) C.1.1 C.1.2.1 dL_law_244 (by decide) ?_
      refine lv_iadd C.1.1 C.1.2.1 dL_law_245 ?_
      refine tr_sld C hX hbl hbA hS dL_law_246 hw (fun x_246 hw => ?_)
      refine tr_aload_n (k := 0) (x := (some b)) C hl 4 rfl dL_law_247 ?_
      refine tr_iload (x := v4) C hl 3 rfl dL_law_248 ?_
      refine lv_iconst (v := (2 : Int32)) C.1.1 C.1.2.1 dL_law_250 (by decide) ?_
      refine lv_iadd C.1.1 C.1.2.1 dL_law_251 ?_
      refine tr_sld C hX hbl hbA hS dL_law_252 hw (fun x_252 hw => ?_)
      refine tr_aload_n (k := 3) (x := v3) C hl 2 rfl dL_law_253 ?_
      have hq4 := hw.1
      have hw := hw.2
      refine tx_backNI (tx_runSX (As := [va_rf v1, .int x_246, .int x_252, va_rf v3]) C hl.1 (c_L_lay l hll K _ v1 x_246 x_252 v3) (vx_cwSW 4 C.1.2.2.2.2 (gi_SX (zm kw_696) (zm kw_697) (zm kw_680) (zm kw_695)) rfl rfl rfl (by decide +kernel) ⟨(Nat.le_of_ble_eq_true rfl), (Nat.le_of_ble_eq_true rfl)⟩) rfl dL_law_254 ⟨hq4.1, hq4.2⟩ [] rfl (Nat.le_of_ble_eq_true rfl) rfl hW hS hw) hS (fun x_254 G_254 H locs hw hW hS => ?_)
      refine tr_istore (x := x_254) C hl [(5, .inl x_254), (1, .inr (.inr v1)), (2, .inr (.inr v2)), (3, .inr (.inr v3)), (4, .inl v4), (0, .inr (.inr (some b)))] (by decide) rfl dL_law_257 (fun ls hl => ?_)
      refine tr_aload_n (k := 2) (x := v2) C hl 2 rfl dL_law_259 ?_
      refine tr_aload_n (k := 0) (x := (some b)) C hl 5 rfl dL_law_260 ?_
      refine tr_iload (x := v4) C hl 4 rfl dL_law_261 ?_
      refine lv_iconst (v := (1 : Int32)) C.1.1 C.1.2.1 dL_law_263 (by decide) ?_
      refine lv_iadd C.1.1 C.1.2.1 dL_law_264 ?_
      refine tr_sld C hX hbl hbA hS dL_law_265 hw (fun x_265 hw => ?_)
      refine tr_aload_n (k := 0) (x := (some b)) C hl 5 rfl dL_law_266 ?_
      refine tr_iload (x := v4) C hl 4 rfl dL_law_267 ?_
      refine lv_iconst (v := (2 : Int32)) C.1.1 C.1.2.1 dL_law_269 (by decide) ?_
      refine lv_iadd C.1.1 C.1.2.1 dL_law_270 ?_
      refine tr_sld C hX hbl hbA hS dL_law_271 hw (fun x_271 hw => ?_)
      have hq5 := hw.1
      have hw := hw.2
      refine tr_backI (tr_runV (r := v2) (As := [.int x_265, .int x_271]) C hl.1 (c_X3_lay l hll K _ v2 x_265 x_271) (cwV 2 C.1.2.2.2.2 (gi_V (zm kw_699) (zm kw_700) (zm kw_701) (zm kw_155) (zm kw_698)) rfl rfl rfl (by decide +kernel) ⟨(Nat.le_of_ble_eq_true rfl), (Nat.le_of_ble_eq_true rfl)⟩) rfl rfl dL_law_272 ⟨hq5.1, hq5.2⟩ [] rfl (Nat.le_of_ble_eq_true rfl) rfl hW hS hw) hS (fun x_272 G_272 H locs hw hW hS => ?_)
      refine tr_istore (x := x_272) C hl [(6, .inl x_272), (5, .inl x_254), (1, .inr (.inr v1)), (2, .inr (.inr v2)), (3, .inr (.inr v3)), (4, .inl v4), (0, .inr (.inr (some b)))] (by decide) rfl dL_law_275 (fun ls hl => ?_)
      refine lv_goto (tgt := 2056) C.1.1 C.1.2.1 dL_law_277 (by decide) ?_
      exact s_L_law_2056 C hr hX hbl hbA hA2 hcN hll k27 hk27 (((nc + 3) + 1)) (((ns + 16) + 12)) v1 v2 v3 v4 _ _ _ _ (show ((nc + 3) + 1) ≤ 646169 ∧ ((ns + 16) + 12) ≤ 7157597 by omega) hW hS (tl_sub hl [2, 3, 4, 5, 6] rfl) hw
    have hw := hw.2
    by_cases hc1 : (x_40 &&& (63 : Int32)) = (1 : Int32)
    · have hw := hw.1 hc1
      refine lv_tableIn (off := 236) (tgt := 280) C.1.1 C.1.2.1 dL_law_44 (by rw [hc1]; decide) (by rw [hc1]; decide) (by rw [hc1]; rfl) (by decide) ?_
      refine tr_aload_n (k := 1) (x := v1) C hl 0 rfl dL_law_280 ?_
      refine tr_aload_n (k := 0) (x := (some b)) C hl 4 rfl dL_law_281 ?_
      refine tr_iload (x := v4) C hl 3 rfl dL_law_282 ?_
      refine lv_iconst (v := (1 : Int32)) C.1.1 C.1.2.1 dL_law_284 (by decide) ?_
      refine lv_iadd C.1.1 C.1.2.1 dL_law_285 ?_
      refine tr_sld C hX hbl hbA hS dL_law_286 hw (fun x_286 hw => ?_)
      refine tr_aload_n (k := 0) (x := (some b)) C hl 4 rfl dL_law_287 ?_
      refine tr_iload (x := v4) C hl 3 rfl dL_law_288 ?_
      refine lv_iconst (v := (2 : Int32)) C.1.1 C.1.2.1 dL_law_290 (by decide) ?_
      refine lv_iadd C.1.1 C.1.2.1 dL_law_291 ?_
      refine tr_sld C hX hbl hbA hS dL_law_292 hw (fun x_292 hw => ?_)
      refine tr_aload_n (k := 0) (x := (some b)) C hl 4 rfl dL_law_293 ?_
      refine tr_iload (x := v4) C hl 3 rfl dL_law_294 ?_
      refine lv_iconst (v := (3 : Int32)) C.1.1 C.1.2.1 dL_law_296 (by decide) ?_
      refine lv_iadd C.1.1 C.1.2.1 dL_law_297 ?_
      refine tr_sld C hX hbl hbA hS dL_law_298 hw (fun x_298 hw => ?_)
      refine tr_aload_n (k := 3) (x := v3) C hl 2 rfl dL_law_299 ?_
      have hq6 := hw.1
      have hw := hw.2
      refine tx_backNI (tx_runSX (As := [va_rf v1, .int x_286, .int x_292, .int x_298, va_rf v3]) C hl.1 (c_L_put l hll K _ v1 x_286 x_292 x_298 v3) (vx_cwSW 5 C.1.2.2.2.2 (gi_SX (zm kw_703) (zm kw_704) (zm kw_680) (zm kw_702)) rfl rfl rfl (by decide +kernel) ⟨(Nat.le_of_ble_eq_true rfl), (Nat.le_of_ble_eq_true rfl)⟩) rfl dL_law_300 ⟨hq6.1, hq6.2⟩ [] rfl (Nat.le_of_ble_eq_true rfl) rfl hW hS hw) hS (fun x_300 G_300 H locs hw hW hS => ?_)
      refine tr_istore (x := x_300) C hl [(5, .inl x_300), (1, .inr (.inr v1)), (2, .inr (.inr v2)), (3, .inr (.inr v3)), (4, .inl v4), (0, .inr (.inr (some b)))] (by decide) rfl dL_law_303 (fun ls hl => ?_)
      refine tr_aload_n (k := 2) (x := v2) C hl 2 rfl dL_law_305 ?_
      refine tr_aload_n (k := 0) (x := (some b)) C hl 5 rfl dL_law_306 ?_
      refine tr_iload (x := v4) C hl 4 rfl dL_law_307 ?_
      refine lv_iconst (v := (1 : Int32)) C.1.1 C.1.2.1 dL_law_309 (by decide) ?_
      refine lv_iadd C.1.1 C.1.2.1 dL_law_310 ?_
      refine tr_sld C hX hbl hbA hS dL_law_311 hw (fun x_311 hw => ?_)
      refine tr_aload_n (k := 0) (x := (some b)) C hl 5 rfl dL_law_312 ?_
      refine tr_iload (x := v4) C hl 4 rfl dL_law_313 ?_
      refine lv_iconst (v := (2 : Int32)) C.1.1 C.1.2.1 dL_law_315 (by decide) ?_
      refine lv_iadd C.1.1 C.1.2.1 dL_law_316 ?_
      refine tr_sld C hX hbl hbA hS dL_law_317 hw (fun x_317 hw => ?_)
      refine tr_aload_n (k := 0) (x := (some b)) C hl 5 rfl dL_law_318 ?_
      refine tr_iload (x := v4) C hl 4 rfl dL_law_319 ?_
      refine lv_iconst (v := (3 : Int32)) C.1.1 C.1.2.1 dL_law_321 (by decide) ?_
      refine lv_iadd C.1.1 C.1.2.1 dL_law_322 ?_
      refine tr_sld C hX hbl hbA hS dL_law_323 hw (fun x_323 hw => ?_)
      refine tr_backI (tr_runV (r := v2) (As := [.int x_311, .int x_317, .int x_323]) C hl.1 (c_X3_put l hll K _ v2 x_311 x_317 x_323) (cwV 3 C.1.2.2.2.2 (gi_V (zm kw_706) (zm kw_707) (zm kw_708) (zm kw_155) (zm kw_705)) rfl rfl rfl (by decide +kernel) ⟨(Nat.le_of_ble_eq_true rfl), (Nat.le_of_ble_eq_true rfl)⟩) rfl rfl dL_law_324 ⟨(show (nc + 3) + 0 ≤ 646169 by omega), (show (ns + 18) + 0 ≤ 7157597 by omega)⟩ [] rfl (Nat.le_of_ble_eq_true rfl) rfl hW hS hw) hS (fun x_324 G_324 H locs hw hW hS => ?_)
      refine tr_istore (x := x_324) C hl [(6, .inl x_324), (5, .inl x_300), (1, .inr (.inr v1)), (2, .inr (.inr v2)), (3, .inr (.inr v3)), (4, .inl v4), (0, .inr (.inr (some b)))] (by decide) rfl dL_law_327 (fun ls hl => ?_)
      refine lv_goto (tgt := 2056) C.1.1 C.1.2.1 dL_law_329 (by decide) ?_
      exact s_L_law_2056 C hr hX hbl hbA hA2 hcN hll k27 hk27 ((nc + 3)) ((ns + 18)) v1 v2 v3 v4 _ _ _ _ (show (nc + 3) ≤ 646169 ∧ (ns + 18) ≤ 7157597 by omega) hW hS (tl_sub hl [2, 3, 4, 5, 6] rfl) hw
    have hw := hw.2
    by_cases hc2 : (x_40 &&& (63 : Int32)) = (2 : Int32)
    · have hw := hw.1 hc2
      refine lv_tableIn (off := 288) (tgt := 332) C.1.1 C.1.2.1 dL_law_44 (by rw [hc2]; decide) (by rw [hc2]; decide) (by rw [hc2]; rfl) (by decide) ?_
      refine tr_aload_n (k := 1) (x := v1) C hl 0 rfl dL_law_332 ?_
      refine tr_aload_n (k := 0) (x := (some b)) C hl 4 rfl dL_law_333 ?_
      refine tr_iload (x := v4) C hl 3 rfl dL_law_334 ?_
      refine lv_iconst (v := (1 : Int32)) C.1.1 C.1.2.1 dL_law_336 (by decide) ?_
      refine lv_iadd C.1.1 C.1.2.1 dL_law_337 ?_
      refine tr_sld C hX hbl hbA hS dL_law_338 hw (fun x_338 hw => ?_)
      refine tr_aload_n (k := 0) (x := (some b)) C hl 4 rfl dL_law_339 ?_
      refine tr_iload (x := v4) C hl 3 rfl dL_law_340 ?_
      refine lv_iconst (v := (2 : Int32)) C.1.1 C.1.2.1 dL_law_342 (by decide) ?_
      refine lv_iadd C.1.1 C.1.2.1 dL_law_343 ?_
      refine tr_sld C hX hbl hbA hS dL_law_344 hw (fun x_344 hw => ?_)
      refine tr_aload_n (k := 3) (x := v3) C hl 2 rfl dL_law_345 ?_
      have hq7 := hw.1
      have hw := hw.2
      refine tx_backNI (tx_runSX (As := [va_rf v1, .int x_338, .int x_344, va_rf v3]) C hl.1 (c_L_at l hll K _ v1 x_338 x_344 v3) (vx_cwSW 4 C.1.2.2.2.2 (gi_SX (zm kw_710) (zm kw_711) (zm kw_680) (zm kw_709)) rfl rfl rfl (by decide +kernel) ⟨(Nat.le_of_ble_eq_true rfl), (Nat.le_of_ble_eq_true rfl)⟩) rfl dL_law_346 ⟨hq7.1, hq7.2⟩ [] rfl (Nat.le_of_ble_eq_true rfl) rfl hW hS hw) hS (fun x_346 G_346 H locs hw hW hS => ?_)
      refine tr_istore (x := x_346) C hl [(5, .inl x_346), (1, .inr (.inr v1)), (2, .inr (.inr v2)), (3, .inr (.inr v3)), (4, .inl v4), (0, .inr (.inr (some b)))] (by decide) rfl dL_law_349 (fun ls hl => ?_)
      refine tr_aload_n (k := 2) (x := v2) C hl 2 rfl dL_law_351 ?_
      refine tr_aload_n (k := 0) (x := (some b)) C hl 5 rfl dL_law_352 ?_
      refine tr_iload (x := v4) C hl 4 rfl dL_law_353 ?_
      refine lv_iconst (v := (1 : Int32)) C.1.1 C.1.2.1 dL_law_355 (by decide) ?_
      refine lv_iadd C.1.1 C.1.2.1 dL_law_356 ?_
      refine tr_sld C hX hbl hbA hS dL_law_357 hw (fun x_357 hw => ?_)
      refine tr_aload_n (k := 0) (x := (some b)) C hl 5 rfl dL_law_358 ?_
      refine tr_iload (x := v4) C hl 4 rfl dL_law_359 ?_
      refine lv_iconst (v := (2 : Int32)) C.1.1 C.1.2.1 dL_law_361 (by decide) ?_
      refine lv_iadd C.1.1 C.1.2.1 dL_law_362 ?_
      refine tr_sld C hX hbl hbA hS dL_law_363 hw (fun x_363 hw => ?_)
      refine tr_backI (tr_runV (r := v2) (As := [.int x_357, .int x_363]) C hl.1 (c_X3_at l hll K _ v2 x_357 x_363) (cwV 2 C.1.2.2.2.2 (gi_V (zm kw_713) (zm kw_714) (zm kw_715) (zm kw_155) (zm kw_712)) rfl rfl rfl (by decide +kernel) ⟨(Nat.le_of_ble_eq_true rfl), (Nat.le_of_ble_eq_true rfl)⟩) rfl rfl dL_law_364 ⟨(show (nc + 2) + 0 ≤ 646169 by omega), (show (ns + 12) + 0 ≤ 7157597 by omega)⟩ [] rfl (Nat.le_of_ble_eq_true rfl) rfl hW hS hw) hS (fun x_364 G_364 H locs hw hW hS => ?_)
      refine tr_istore (x := x_364) C hl [(6, .inl x_364), (5, .inl x_346), (1, .inr (.inr v1)), (2, .inr (.inr v2)), (3, .inr (.inr v3)), (4, .inl v4), (0, .inr (.inr (some b)))] (by decide) rfl dL_law_367 (fun ls hl => ?_)
      refine lv_goto (tgt := 2056) C.1.1 C.1.2.1 dL_law_369 (by decide) ?_
      exact s_L_law_2056 C hr hX hbl hbA hA2 hcN hll k27 hk27 ((nc + 2)) ((ns + 12)) v1 v2 v3 v4 _ _ _ _ (show (nc + 2) ≤ 646169 ∧ (ns + 12) ≤ 7157597 by omega) hW hS (tl_sub hl [2, 3, 4, 5, 6] rfl) hw
    have hw := hw.2
    by_cases hc3 : (x_40 &&& (63 : Int32)) = (3 : Int32)
    · have hw := hw.1 hc3
      refine lv_tableIn (off := 328) (tgt := 372) C.1.1 C.1.2.1 dL_law_44 (by rw [hc3]; decide) (by rw [hc3]; decide) (by rw [hc3]; rfl) (by decide) ?_
      refine tr_aload_n (k := 1) (x := v1) C hl 0 rfl dL_law_372 ?_
      refine tr_aload_n (k := 0) (x := (some b)) C hl 4 rfl dL_law_373 ?_
      refine tr_iload (x := v4) C hl 3 rfl dL_law_374 ?_
      refine lv_iconst (v := (1 : Int32)) C.1.1 C.1.2.1 dL_law_376 (by decide) ?_
      refine lv_iadd C.1.1 C.1.2.1 dL_law_377 ?_
      refine tr_sld C hX hbl hbA hS dL_law_378 hw (fun x_378 hw => ?_)
      refine tr_aload_n (k := 0) (x := (some b)) C hl 4 rfl dL_law_379 ?_
      refine tr_iload (x := v4) C hl 3 rfl dL_law_380 ?_
      refine lv_iconst (v := (2 : Int32)) C.1.1 C.1.2.1 dL_law_382 (by decide) ?_
      refine lv_iadd C.1.1 C.1.2.1 dL_law_383 ?_
      refine tr_sld C hX hbl hbA hS dL_law_384 hw (fun x_384 hw => ?_)
      refine tr_aload_n (k := 0) (x := (some b)) C hl 4 rfl dL_law_385 ?_
      refine tr_iload (x := v4) C hl 3 rfl dL_law_386 ?_
      refine lv_iconst (v := (3 : Int32)) C.1.1 C.1.2.1 dL_law_388 (by decide) ?_
      refine lv_iadd C.1.1 C.1.2.1 dL_law_389 ?_
      refine tr_sld C hX hbl hbA hS dL_law_390 hw (fun x_390 hw => ?_)
      refine tr_aload_n (k := 0) (x := (some b)) C hl 4 rfl dL_law_391 ?_
      refine tr_iload (x := v4) C hl 3 rfl dL_law_392 ?_
      refine lv_iconst (v := (4 : Int32)) C.1.1 C.1.2.1 dL_law_394 (by decide) ?_
      refine lv_iadd C.1.1 C.1.2.1 dL_law_395 ?_
      refine tr_sld C hX hbl hbA hS dL_law_396 hw (fun x_396 hw => ?_)
      refine tr_aload_n (k := 3) (x := v3) C hl 2 rfl dL_law_397 ?_
      have hq8 := hw.1
      have hw := hw.2
      refine tx_backNI (tx_runSX (As := [va_rf v1, .int x_378, .int x_384, .int x_390, .int x_396, va_rf v3]) C hl.1 (c_L_part l hll K _ v1 x_378 x_384 x_390 x_396 v3) (vx_cwSW 6 C.1.2.2.2.2 (gi_SX (zm kw_717) (zm kw_718) (zm kw_680) (zm kw_716)) rfl rfl rfl (by decide +kernel) ⟨(Nat.le_of_ble_eq_true rfl), (Nat.le_of_ble_eq_true rfl)⟩) rfl dL_law_398 ⟨hq8.1, hq8.2⟩ [] rfl (Nat.le_of_ble_eq_true rfl) rfl hW hS hw) hS (fun x_398 G_398 H locs hw hW hS => ?_)
      refine tr_istore (x := x_398) C hl [(5, .inl x_398), (1, .inr (.inr v1)), (2, .inr (.inr v2)), (3, .inr (.inr v3)), (4, .inl v4), (0, .inr (.inr (some b)))] (by decide) rfl dL_law_401 (fun ls hl => ?_)
      refine tr_aload_n (k := 2) (x := v2) C hl 2 rfl dL_law_403 ?_
      refine tr_aload_n (k := 0) (x := (some b)) C hl 5 rfl dL_law_404 ?_
      refine tr_iload (x := v4) C hl 4 rfl dL_law_405 ?_
      refine lv_iconst (v := (1 : Int32)) C.1.1 C.1.2.1 dL_law_407 (by decide) ?_
      refine lv_iadd C.1.1 C.1.2.1 dL_law_408 ?_
      refine tr_sld C hX hbl hbA hS dL_law_409 hw (fun x_409 hw => ?_)
      refine tr_aload_n (k := 0) (x := (some b)) C hl 5 rfl dL_law_410 ?_
      refine tr_iload (x := v4) C hl 4 rfl dL_law_411 ?_
      refine lv_iconst (v := (2 : Int32)) C.1.1 C.1.2.1 dL_law_413 (by decide) ?_
      refine lv_iadd C.1.1 C.1.2.1 dL_law_414 ?_
      refine tr_sld C hX hbl hbA hS dL_law_415 hw (fun x_415 hw => ?_)
      refine tr_aload_n (k := 0) (x := (some b)) C hl 5 rfl dL_law_416 ?_
      refine tr_iload (x := v4) C hl 4 rfl dL_law_417 ?_
      refine lv_iconst (v := (3 : Int32)) C.1.1 C.1.2.1 dL_law_419 (by decide) ?_
      refine lv_iadd C.1.1 C.1.2.1 dL_law_420 ?_
      refine tr_sld C hX hbl hbA hS dL_law_421 hw (fun x_421 hw => ?_)
      refine tr_aload_n (k := 0) (x := (some b)) C hl 5 rfl dL_law_422 ?_
      refine tr_iload (x := v4) C hl 4 rfl dL_law_423 ?_
      refine lv_iconst (v := (4 : Int32)) C.1.1 C.1.2.1 dL_law_425 (by decide) ?_
      refine lv_iadd C.1.1 C.1.2.1 dL_law_426 ?_
      refine tr_sld C hX hbl hbA hS dL_law_427 hw (fun x_427 hw => ?_)
      refine tr_backI (tr_runV (r := v2) (As := [.int x_409, .int x_415, .int x_421, .int x_427]) C hl.1 (c_X3_part l hll K _ v2 x_409 x_415 x_421 x_427) (cwV 4 C.1.2.2.2.2 (gi_V (zm kw_720) (zm kw_721) (zm kw_722) (zm kw_155) (zm kw_719)) rfl rfl rfl (by decide +kernel) ⟨(Nat.le_of_ble_eq_true rfl), (Nat.le_of_ble_eq_true rfl)⟩) rfl rfl dL_law_428 ⟨(show (nc + 5) + 0 ≤ 646169 by omega), (show (ns + 28) + 0 ≤ 7157597 by omega)⟩ [] rfl (Nat.le_of_ble_eq_true rfl) rfl hW hS hw) hS (fun x_428 G_428 H locs hw hW hS => ?_)
      refine tr_istore (x := x_428) C hl [(6, .inl x_428), (5, .inl x_398), (1, .inr (.inr v1)), (2, .inr (.inr v2)), (3, .inr (.inr v3)), (4, .inl v4), (0, .inr (.inr (some b)))] (by decide) rfl dL_law_431 (fun ls hl => ?_)
      refine lv_goto (tgt := 2056) C.1.1 C.1.2.1 dL_law_433 (by decide) ?_
      exact s_L_law_2056 C hr hX hbl hbA hA2 hcN hll k27 hk27 ((nc + 5)) ((ns + 28)) v1 v2 v3 v4 _ _ _ _ (show (nc + 5) ≤ 646169 ∧ (ns + 28) ≤ 7157597 by omega) hW hS (tl_sub hl [2, 3, 4, 5, 6] rfl) hw
    have hw := hw.2
    by_cases hc4 : (x_40 &&& (63 : Int32)) = (4 : Int32)
    · have hw := hw.1 hc4
      refine lv_tableIn (off := 392) (tgt := 436) C.1.1 C.1.2.1 dL_law_44 (by rw [hc4]; decide) (by rw [hc4]; decide) (by rw [hc4]; rfl) (by decide) ?_
      refine tr_aload_n (k := 1) (x := v1) C hl 0 rfl dL_law_436 ?_
      refine tr_aload_n (k := 0) (x := (some b)) C hl 4 rfl dL_law_437 ?_
      refine tr_iload (x := v4) C hl 3 rfl dL_law_438 ?_
      refine lv_iconst (v := (1 : Int32)) C.1.1 C.1.2.1 dL_law_440 (by decide) ?_
      refine lv_iadd C.1.1 C.1.2.1 dL_law_441 ?_
      refine tr_sld C hX hbl hbA hS dL_law_442 hw (fun x_442 hw => ?_)
      refine tr_aload_n (k := 0) (x := (some b)) C hl 4 rfl dL_law_443 ?_
      refine tr_iload (x := v4) C hl 3 rfl dL_law_444 ?_
      refine lv_iconst (v := (2 : Int32)) C.1.1 C.1.2.1 dL_law_446 (by decide) ?_
      refine lv_iadd C.1.1 C.1.2.1 dL_law_447 ?_
      refine tr_sld C hX hbl hbA hS dL_law_448 hw (fun x_448 hw => ?_)
      refine tr_aload_n (k := 0) (x := (some b)) C hl 4 rfl dL_law_449 ?_
      refine tr_iload (x := v4) C hl 3 rfl dL_law_450 ?_
      refine lv_iconst (v := (3 : Int32)) C.1.1 C.1.2.1 dL_law_452 (by decide) ?_
      refine lv_iadd C.1.1 C.1.2.1 dL_law_453 ?_
      refine tr_sld C hX hbl hbA hS dL_law_454 hw (fun x_454 hw => ?_)
      refine tr_aload_n (k := 3) (x := v3) C hl 2 rfl dL_law_455 ?_
      have hq9 := hw.1
      have hw := hw.2
      refine tx_backNI (tx_runSX (As := [va_rf v1, .int x_442, .int x_448, .int x_454, va_rf v3]) C hl.1 (c_L_set l hll K _ v1 x_442 x_448 x_454 v3) (vx_cwSW 5 C.1.2.2.2.2 (gi_SX (zm kw_724) (zm kw_725) (zm kw_680) (zm kw_723)) rfl rfl rfl (by decide +kernel) ⟨(Nat.le_of_ble_eq_true rfl), (Nat.le_of_ble_eq_true rfl)⟩) rfl dL_law_456 ⟨hq9.1, hq9.2⟩ [] rfl (Nat.le_of_ble_eq_true rfl) rfl hW hS hw) hS (fun x_456 G_456 H locs hw hW hS => ?_)
      refine tr_istore (x := x_456) C hl [(5, .inl x_456), (1, .inr (.inr v1)), (2, .inr (.inr v2)), (3, .inr (.inr v3)), (4, .inl v4), (0, .inr (.inr (some b)))] (by decide) rfl dL_law_459 (fun ls hl => ?_)
      refine tr_aload_n (k := 2) (x := v2) C hl 2 rfl dL_law_461 ?_
      refine tr_aload_n (k := 0) (x := (some b)) C hl 5 rfl dL_law_462 ?_
      refine tr_iload (x := v4) C hl 4 rfl dL_law_463 ?_
      refine lv_iconst (v := (1 : Int32)) C.1.1 C.1.2.1 dL_law_465 (by decide) ?_
      refine lv_iadd C.1.1 C.1.2.1 dL_law_466 ?_
      refine tr_sld C hX hbl hbA hS dL_law_467 hw (fun x_467 hw => ?_)
      refine tr_aload_n (k := 0) (x := (some b)) C hl 5 rfl dL_law_468 ?_
      refine tr_iload (x := v4) C hl 4 rfl dL_law_469 ?_
      refine lv_iconst (v := (2 : Int32)) C.1.1 C.1.2.1 dL_law_471 (by decide) ?_
      refine lv_iadd C.1.1 C.1.2.1 dL_law_472 ?_
      refine tr_sld C hX hbl hbA hS dL_law_473 hw (fun x_473 hw => ?_)
      refine tr_aload_n (k := 0) (x := (some b)) C hl 5 rfl dL_law_474 ?_
      refine tr_iload (x := v4) C hl 4 rfl dL_law_475 ?_
      refine lv_iconst (v := (3 : Int32)) C.1.1 C.1.2.1 dL_law_477 (by decide) ?_
      refine lv_iadd C.1.1 C.1.2.1 dL_law_478 ?_
      refine tr_sld C hX hbl hbA hS dL_law_479 hw (fun x_479 hw => ?_)
      refine tr_backI (tr_runV (r := v2) (As := [.int x_467, .int x_473, .int x_479]) C hl.1 (c_X3_set l hll K _ v2 x_467 x_473 x_479) (cwV 3 C.1.2.2.2.2 (gi_V (zm kw_727) (zm kw_728) (zm kw_729) (zm kw_155) (zm kw_726)) rfl rfl rfl (by decide +kernel) ⟨(Nat.le_of_ble_eq_true rfl), (Nat.le_of_ble_eq_true rfl)⟩) rfl rfl dL_law_480 ⟨(show (nc + 3) + 0 ≤ 646169 by omega), (show (ns + 18) + 0 ≤ 7157597 by omega)⟩ [] rfl (Nat.le_of_ble_eq_true rfl) rfl hW hS hw) hS (fun x_480 G_480 H locs hw hW hS => ?_)
      refine tr_istore (x := x_480) C hl [(6, .inl x_480), (5, .inl x_456), (1, .inr (.inr v1)), (2, .inr (.inr v2)), (3, .inr (.inr v3)), (4, .inl v4), (0, .inr (.inr (some b)))] (by decide) rfl dL_law_483 (fun ls hl => ?_)
      refine lv_goto (tgt := 2056) C.1.1 C.1.2.1 dL_law_485 (by decide) ?_
      exact s_L_law_2056 C hr hX hbl hbA hA2 hcN hll k27 hk27 ((nc + 3)) ((ns + 18)) v1 v2 v3 v4 _ _ _ _ (show (nc + 3) ≤ 646169 ∧ (ns + 18) ≤ 7157597 by omega) hW hS (tl_sub hl [2, 3, 4, 5, 6] rfl) hw
    have hw := hw.2
    by_cases hc5 : (x_40 &&& (63 : Int32)) = (5 : Int32)
    · have hw := hw.1 hc5
      refine lv_tableIn (off := 444) (tgt := 488) C.1.1 C.1.2.1 dL_law_44 (by rw [hc5]; decide) (by rw [hc5]; decide) (by rw [hc5]; rfl) (by decide) ?_
      refine tr_aload_n (k := 1) (x := v1) C hl 0 rfl dL_law_488 ?_
      refine tr_aload_n (k := 0) (x := (some b)) C hl 4 rfl dL_law_489 ?_
      refine tr_iload (x := v4) C hl 3 rfl dL_law_490 ?_
      refine lv_iconst (v := (1 : Int32)) C.1.1 C.1.2.1 dL_law_492 (by decide) ?_
      refine lv_iadd C.1.1 C.1.2.1 dL_law_493 ?_
      refine tr_sld C hX hbl hbA hS dL_law_494 hw (fun x_494 hw => ?_)
      refine tr_aload_n (k := 0) (x := (some b)) C hl 4 rfl dL_law_495 ?_
      refine tr_iload (x := v4) C hl 3 rfl dL_law_496 ?_
      refine lv_iconst (v := (2 : Int32)) C.1.1 C.1.2.1 dL_law_498 (by decide) ?_
      refine lv_iadd C.1.1 C.1.2.1 dL_law_499 ?_
      refine tr_sld C hX hbl hbA hS dL_law_500 hw (fun x_500 hw => ?_)
      refine tr_aload_n (k := 3) (x := v3) C hl 2 rfl dL_law_501 ?_
      have hq10 := hw.1
      have hw := hw.2
      refine tx_backNI (tx_runSX (As := [va_rf v1, .int x_494, .int x_500, va_rf v3]) C hl.1 (c_L_get l hll K _ v1 x_494 x_500 v3) (vx_cwSW 4 C.1.2.2.2.2 (gi_SX (zm kw_731) (zm kw_732) (zm kw_680) (zm kw_730)) rfl rfl rfl (by decide +kernel) ⟨(Nat.le_of_ble_eq_true rfl), (Nat.le_of_ble_eq_true rfl)⟩) rfl dL_law_502 ⟨hq10.1, hq10.2⟩ [] rfl (Nat.le_of_ble_eq_true rfl) rfl hW hS hw) hS (fun x_502 G_502 H locs hw hW hS => ?_)
      refine tr_istore (x := x_502) C hl [(5, .inl x_502), (1, .inr (.inr v1)), (2, .inr (.inr v2)), (3, .inr (.inr v3)), (4, .inl v4), (0, .inr (.inr (some b)))] (by decide) rfl dL_law_505 (fun ls hl => ?_)
      refine tr_aload_n (k := 2) (x := v2) C hl 2 rfl dL_law_507 ?_
      refine tr_aload_n (k := 0) (x := (some b)) C hl 5 rfl dL_law_508 ?_
      refine tr_iload (x := v4) C hl 4 rfl dL_law_509 ?_
      refine lv_iconst (v := (1 : Int32)) C.1.1 C.1.2.1 dL_law_511 (by decide) ?_
      refine lv_iadd C.1.1 C.1.2.1 dL_law_512 ?_
      refine tr_sld C hX hbl hbA hS dL_law_513 hw (fun x_513 hw => ?_)
      refine tr_aload_n (k := 0) (x := (some b)) C hl 5 rfl dL_law_514 ?_
      refine tr_iload (x := v4) C hl 4 rfl dL_law_515 ?_
      refine lv_iconst (v := (2 : Int32)) C.1.1 C.1.2.1 dL_law_517 (by decide) ?_
      refine lv_iadd C.1.1 C.1.2.1 dL_law_518 ?_
      refine tr_sld C hX hbl hbA hS dL_law_519 hw (fun x_519 hw => ?_)
      refine tr_backI (tr_runV (r := v2) (As := [.int x_513, .int x_519]) C hl.1 (c_X3_get l hll K _ v2 x_513 x_519) (cwV 2 C.1.2.2.2.2 (gi_V (zm kw_734) (zm kw_735) (zm kw_736) (zm kw_155) (zm kw_733)) rfl rfl rfl (by decide +kernel) ⟨(Nat.le_of_ble_eq_true rfl), (Nat.le_of_ble_eq_true rfl)⟩) rfl rfl dL_law_520 ⟨(show (nc + 2) + 0 ≤ 646169 by omega), (show (ns + 12) + 0 ≤ 7157597 by omega)⟩ [] rfl (Nat.le_of_ble_eq_true rfl) rfl hW hS hw) hS (fun x_520 G_520 H locs hw hW hS => ?_)
      refine tr_istore (x := x_520) C hl [(6, .inl x_520), (5, .inl x_502), (1, .inr (.inr v1)), (2, .inr (.inr v2)), (3, .inr (.inr v3)), (4, .inl v4), (0, .inr (.inr (some b)))] (by decide) rfl dL_law_523 (fun ls hl => ?_)
      refine lv_goto (tgt := 2056) C.1.1 C.1.2.1 dL_law_525 (by decide) ?_
      exact s_L_law_2056 C hr hX hbl hbA hA2 hcN hll k27 hk27 ((nc + 2)) ((ns + 12)) v1 v2 v3 v4 _ _ _ _ (show (nc + 2) ≤ 646169 ∧ (ns + 12) ≤ 7157597 by omega) hW hS (tl_sub hl [2, 3, 4, 5, 6] rfl) hw
    have hw := hw.2
    by_cases hc6 : (x_40 &&& (63 : Int32)) = (6 : Int32)
    · have hw := hw.1 hc6
      refine lv_tableIn (off := 484) (tgt := 528) C.1.1 C.1.2.1 dL_law_44 (by rw [hc6]; decide) (by rw [hc6]; decide) (by rw [hc6]; rfl) (by decide) ?_
      refine tr_aload_n (k := 1) (x := v1) C hl 0 rfl dL_law_528 ?_
      refine tr_aload_n (k := 0) (x := (some b)) C hl 4 rfl dL_law_529 ?_
      refine tr_iload (x := v4) C hl 3 rfl dL_law_530 ?_
      refine lv_iconst (v := (1 : Int32)) C.1.1 C.1.2.1 dL_law_532 (by decide) ?_
      refine lv_iadd C.1.1 C.1.2.1 dL_law_533 ?_
      refine tr_sld C hX hbl hbA hS dL_law_534 hw (fun x_534 hw => ?_)
      refine tr_aload_n (k := 3) (x := v3) C hl 2 rfl dL_law_535 ?_
      have hq11 := hw.1
      have hw := hw.2
      refine tx_backNI (tx_runSX (As := [va_rf v1, .int x_534, va_rf v3]) C hl.1 (c_L_length l hll K _ v1 x_534 v3) (vx_cwSW 3 C.1.2.2.2.2 (gi_SX (zm kw_738) (zm kw_739) (zm kw_680) (zm kw_737)) rfl rfl rfl (by decide +kernel) ⟨(Nat.le_of_ble_eq_true rfl), (Nat.le_of_ble_eq_true rfl)⟩) rfl dL_law_536 ⟨hq11.1, hq11.2⟩ [] rfl (Nat.le_of_ble_eq_true rfl) rfl hW hS hw) hS (fun x_536 G_536 H locs hw hW hS => ?_)
      refine tr_istore (x := x_536) C hl [(5, .inl x_536), (1, .inr (.inr v1)), (2, .inr (.inr v2)), (3, .inr (.inr v3)), (4, .inl v4), (0, .inr (.inr (some b)))] (by decide) rfl dL_law_539 (fun ls hl => ?_)
      refine tr_aload_n (k := 2) (x := v2) C hl 2 rfl dL_law_541 ?_
      refine tr_aload_n (k := 0) (x := (some b)) C hl 5 rfl dL_law_542 ?_
      refine tr_iload (x := v4) C hl 4 rfl dL_law_543 ?_
      refine lv_iconst (v := (1 : Int32)) C.1.1 C.1.2.1 dL_law_545 (by decide) ?_
      refine lv_iadd C.1.1 C.1.2.1 dL_law_546 ?_
      refine tr_sld C hX hbl hbA hS dL_law_547 hw (fun x_547 hw => ?_)
      refine tr_backI (tr_runV (r := v2) (As := [.int x_547]) C hl.1 (c_X3_length l hll K _ v2 x_547) (cwV 1 C.1.2.2.2.2 (gi_V (zm kw_741) (zm kw_742) (zm kw_743) (zm kw_155) (zm kw_740)) rfl rfl rfl (by decide +kernel) ⟨(Nat.le_of_ble_eq_true rfl), (Nat.le_of_ble_eq_true rfl)⟩) rfl rfl dL_law_548 ⟨(show (nc + 1) + 0 ≤ 646169 by omega), (show (ns + 6) + 0 ≤ 7157597 by omega)⟩ [] rfl (Nat.le_of_ble_eq_true rfl) rfl hW hS hw) hS (fun x_548 G_548 H locs hw hW hS => ?_)
      refine tr_istore (x := x_548) C hl [(6, .inl x_548), (5, .inl x_536), (1, .inr (.inr v1)), (2, .inr (.inr v2)), (3, .inr (.inr v3)), (4, .inl v4), (0, .inr (.inr (some b)))] (by decide) rfl dL_law_551 (fun ls hl => ?_)
      refine lv_goto (tgt := 2056) C.1.1 C.1.2.1 dL_law_553 (by decide) ?_
      exact s_L_law_2056 C hr hX hbl hbA hA2 hcN hll k27 hk27 ((nc + 1)) ((ns + 6)) v1 v2 v3 v4 _ _ _ _ (show (nc + 1) ≤ 646169 ∧ (ns + 6) ≤ 7157597 by omega) hW hS (tl_sub hl [2, 3, 4, 5, 6] rfl) hw
    have hw := hw.2
    by_cases hc7 : (x_40 &&& (63 : Int32)) = (7 : Int32)
    · have hw := hw.1 hc7
      refine lv_tableIn (off := 512) (tgt := 556) C.1.1 C.1.2.1 dL_law_44 (by rw [hc7]; decide) (by rw [hc7]; decide) (by rw [hc7]; rfl) (by decide) ?_
      refine tr_aload_n (k := 1) (x := v1) C hl 0 rfl dL_law_556 ?_
      refine tr_aload_n (k := 0) (x := (some b)) C hl 4 rfl dL_law_557 ?_
      refine tr_iload (x := v4) C hl 3 rfl dL_law_558 ?_
      refine lv_iconst (v := (1 : Int32)) C.1.1 C.1.2.1 dL_law_560 (by decide) ?_
      refine lv_iadd C.1.1 C.1.2.1 dL_law_561 ?_
      refine tr_sld C hX hbl hbA hS dL_law_562 hw (fun x_562 hw => ?_)
      refine tr_aload_n (k := 3) (x := v3) C hl 2 rfl dL_law_563 ?_
      have hq12 := hw.1
      have hw := hw.2
      refine tx_backNI (tx_runSX (As := [va_rf v1, .int x_562, va_rf v3]) C hl.1 (c_L_isEmpty l hll K _ v1 x_562 v3) (vx_cwSW 3 C.1.2.2.2.2 (gi_SX (zm kw_745) (zm kw_746) (zm kw_680) (zm kw_744)) rfl rfl rfl (by decide +kernel) ⟨(Nat.le_of_ble_eq_true rfl), (Nat.le_of_ble_eq_true rfl)⟩) rfl dL_law_564 ⟨hq12.1, hq12.2⟩ [] rfl (Nat.le_of_ble_eq_true rfl) rfl hW hS hw) hS (fun x_564 G_564 H locs hw hW hS => ?_)
      refine tr_istore (x := x_564) C hl [(5, .inl x_564), (1, .inr (.inr v1)), (2, .inr (.inr v2)), (3, .inr (.inr v3)), (4, .inl v4), (0, .inr (.inr (some b)))] (by decide) rfl dL_law_567 (fun ls hl => ?_)
      refine tr_aload_n (k := 2) (x := v2) C hl 2 rfl dL_law_569 ?_
      refine tr_aload_n (k := 0) (x := (some b)) C hl 5 rfl dL_law_570 ?_
      refine tr_iload (x := v4) C hl 4 rfl dL_law_571 ?_
      refine lv_iconst (v := (1 : Int32)) C.1.1 C.1.2.1 dL_law_573 (by decide) ?_
      refine lv_iadd C.1.1 C.1.2.1 dL_law_574 ?_
      refine tr_sld C hX hbl hbA hS dL_law_575 hw (fun x_575 hw => ?_)
      refine tr_backI (tr_runV (r := v2) (As := [.int x_575]) C hl.1 (c_X3_isEmpty l hll K _ v2 x_575) (cwV 1 C.1.2.2.2.2 (gi_V (zm kw_748) (zm kw_749) (zm kw_750) (zm kw_155) (zm kw_747)) rfl rfl rfl (by decide +kernel) ⟨(Nat.le_of_ble_eq_true rfl), (Nat.le_of_ble_eq_true rfl)⟩) rfl rfl dL_law_576 ⟨(show (nc + 1) + 0 ≤ 646169 by omega), (show (ns + 6) + 0 ≤ 7157597 by omega)⟩ [] rfl (Nat.le_of_ble_eq_true rfl) rfl hW hS hw) hS (fun x_576 G_576 H locs hw hW hS => ?_)
      refine tr_istore (x := x_576) C hl [(6, .inl x_576), (5, .inl x_564), (1, .inr (.inr v1)), (2, .inr (.inr v2)), (3, .inr (.inr v3)), (4, .inl v4), (0, .inr (.inr (some b)))] (by decide) rfl dL_law_579 (fun ls hl => ?_)
      refine lv_goto (tgt := 2056) C.1.1 C.1.2.1 dL_law_581 (by decide) ?_
      exact s_L_law_2056 C hr hX hbl hbA hA2 hcN hll k27 hk27 ((nc + 1)) ((ns + 6)) v1 v2 v3 v4 _ _ _ _ (show (nc + 1) ≤ 646169 ∧ (ns + 6) ≤ 7157597 by omega) hW hS (tl_sub hl [2, 3, 4, 5, 6] rfl) hw
    have hw := hw.2
    by_cases hc8 : (x_40 &&& (63 : Int32)) = (8 : Int32)
    · have hw := hw.1 hc8
      refine lv_tableIn (off := 540) (tgt := 584) C.1.1 C.1.2.1 dL_law_44 (by rw [hc8]; decide) (by rw [hc8]; decide) (by rw [hc8]; rfl) (by decide) ?_
      refine tr_aload_n (k := 1) (x := v1) C hl 0 rfl dL_law_584 ?_
      refine tr_aload_n (k := 0) (x := (some b)) C hl 4 rfl dL_law_585 ?_
      refine tr_iload (x := v4) C hl 3 rfl dL_law_586 ?_
      refine lv_iconst (v := (1 : Int32)) C.1.1 C.1.2.1 dL_law_588 (by decide) ?_
      refine lv_iadd C.1.1 C.1.2.1 dL_law_589 ?_
      refine tr_sld C hX hbl hbA hS dL_law_590 hw (fun x_590 hw => ?_)
      refine tr_aload_n (k := 3) (x := v3) C hl 2 rfl dL_law_591 ?_
      obtain ⟨mc_592, ms_592, hb592, hd592, hw⟩ := hw
      refine tx_backNI (tx_runSX (As := [va_rf v1, .int x_590, va_rf v3]) C hl.1 (c_L_text l hll K mc_592 ms_592 _ v1 x_590 v3) (vx_cwSW 3 C.1.2.2.2.2 (gi_SX (zm kw_752) (zm kw_753) (zm kw_680) (zm kw_751)) rfl rfl rfl (by decide +kernel) ⟨(Nat.le_of_ble_eq_true rfl), (Nat.le_of_ble_eq_true rfl)⟩) rfl dL_law_592 ⟨hb592, hd592⟩ [] rfl (Nat.le_of_ble_eq_true rfl) rfl hW hS hw) hS (fun x_592 G_592 H locs hw hW hS => ?_)
      refine tr_istore (x := x_592) C hl [(5, .inl x_592), (1, .inr (.inr v1)), (2, .inr (.inr v2)), (3, .inr (.inr v3)), (4, .inl v4), (0, .inr (.inr (some b)))] (by decide) rfl dL_law_595 (fun ls hl => ?_)
      refine tr_aload_n (k := 2) (x := v2) C hl 2 rfl dL_law_597 ?_
      refine tr_aload_n (k := 0) (x := (some b)) C hl 5 rfl dL_law_598 ?_
      refine tr_iload (x := v4) C hl 4 rfl dL_law_599 ?_
      refine lv_iconst (v := (1 : Int32)) C.1.1 C.1.2.1 dL_law_601 (by decide) ?_
      refine lv_iadd C.1.1 C.1.2.1 dL_law_602 ?_
      refine tr_sld C hX hbl hbA hS dL_law_603 hw (fun x_603 hw => ?_)
      obtain ⟨mc_604, ms_604, hb604, hd604, hw⟩ := hw
      refine tr_backR (tr_runV (r := v2) (As := [.int x_603]) C hl.1 (c_X3_text l hll K mc_604 ms_604 _ v2 x_603) (cwV 1 C.1.2.2.2.2 (gi_V (zm kw_755) (zm kw_756) (zm kw_757) (zm kw_155) (zm kw_754)) rfl rfl rfl (by decide +kernel) ⟨(Nat.le_of_ble_eq_true rfl), (Nat.le_of_ble_eq_true rfl)⟩) rfl rfl dL_law_604 ⟨hb604, hd604⟩ [] rfl (Nat.le_of_ble_eq_true rfl) rfl hW hS hw) hS (fun x_604 G_604 H locs hw hW hS => ?_)
      refine tr_astore (x := x_604) C hl [(6, .inr (.inr x_604)), (5, .inl x_592), (1, .inr (.inr v1)), (2, .inr (.inr v2)), (3, .inr (.inr v3)), (4, .inl v4), (0, .inr (.inr (some b)))] (by decide) rfl dL_law_607 (fun ls hl => ?_)
      refine lv_goto (tgt := 2056) C.1.1 C.1.2.1 dL_law_609 (by decide) ?_
      exact s_L_law_2056 C hr hX hbl hbA hA2 hcN hll k27 hk27 (((nc + mc_592) + mc_604)) (((ns + ms_592) + ms_604)) v1 v2 v3 v4 _ _ _ _ (show ((nc + mc_592) + mc_604) ≤ 646169 ∧ ((ns + ms_592) + ms_604) ≤ 7157597 by omega) hW hS (tl_sub hl [2, 3, 4, 5, 6] rfl) hw
    have hw := hw.2
    by_cases hc9 : (x_40 &&& (63 : Int32)) = (9 : Int32)
    · have hw := hw.1 hc9
      refine lv_tableIn (off := 568) (tgt := 612) C.1.1 C.1.2.1 dL_law_44 (by rw [hc9]; decide) (by rw [hc9]; decide) (by rw [hc9]; rfl) (by decide) ?_
      refine tr_aload_n (k := 1) (x := v1) C hl 0 rfl dL_law_612 ?_
      refine tr_aload_n (k := 0) (x := (some b)) C hl 4 rfl dL_law_613 ?_
      refine tr_iload (x := v4) C hl 3 rfl dL_law_614 ?_
      refine lv_iconst (v := (1 : Int32)) C.1.1 C.1.2.1 dL_law_616 (by decide) ?_
      refine lv_iadd C.1.1 C.1.2.1 dL_law_617 ?_
      refine tr_sld C hX hbl hbA hS dL_law_618 hw (fun x_618 hw => ?_)
      refine tr_aload_n (k := 3) (x := v3) C hl 2 rfl dL_law_619 ?_
      obtain ⟨mc_620, ms_620, hb620, hd620, hw⟩ := hw
      refine tx_backNI (tx_runSX (As := [va_rf v1, .int x_618, va_rf v3]) C hl.1 (c_L_back l hll K mc_620 ms_620 _ v1 x_618 v3) (vx_cwSW 3 C.1.2.2.2.2 (gi_SX (zm kw_759) (zm kw_760) (zm kw_680) (zm kw_758)) rfl rfl rfl (by decide +kernel) ⟨(Nat.le_of_ble_eq_true rfl), (Nat.le_of_ble_eq_true rfl)⟩) rfl dL_law_620 ⟨hb620, hd620⟩ [] rfl (Nat.le_of_ble_eq_true rfl) rfl hW hS hw) hS (fun x_620 G_620 H locs hw hW hS => ?_)
      refine tr_istore (x := x_620) C hl [(5, .inl x_620), (1, .inr (.inr v1)), (2, .inr (.inr v2)), (3, .inr (.inr v3)), (4, .inl v4), (0, .inr (.inr (some b)))] (by decide) rfl dL_law_623 (fun ls hl => ?_)
      refine tr_aload_n (k := 2) (x := v2) C hl 2 rfl dL_law_625 ?_
      refine tr_aload_n (k := 0) (x := (some b)) C hl 5 rfl dL_law_626 ?_
      refine tr_iload (x := v4) C hl 4 rfl dL_law_627 ?_
      refine lv_iconst (v := (1 : Int32)) C.1.1 C.1.2.1 dL_law_629 (by decide) ?_
      refine lv_iadd C.1.1 C.1.2.1 dL_law_630 ?_
      refine tr_sld C hX hbl hbA hS dL_law_631 hw (fun x_631 hw => ?_)
      obtain ⟨mc_632, ms_632, hb632, hd632, hw⟩ := hw
      refine tr_backR (tr_runV (r := v2) (As := [.int x_631]) C hl.1 (c_X3_back l hll K mc_632 ms_632 _ v2 x_631) (cwV 1 C.1.2.2.2.2 (gi_V (zm kw_762) (zm kw_763) (zm kw_764) (zm kw_155) (zm kw_761)) rfl rfl rfl (by decide +kernel) ⟨(Nat.le_of_ble_eq_true rfl), (Nat.le_of_ble_eq_true rfl)⟩) rfl rfl dL_law_632 ⟨hb632, hd632⟩ [] rfl (Nat.le_of_ble_eq_true rfl) rfl hW hS hw) hS (fun x_632 G_632 H locs hw hW hS => ?_)
      refine tr_astore (x := x_632) C hl [(6, .inr (.inr x_632)), (5, .inl x_620), (1, .inr (.inr v1)), (2, .inr (.inr v2)), (3, .inr (.inr v3)), (4, .inl v4), (0, .inr (.inr (some b)))] (by decide) rfl dL_law_635 (fun ls hl => ?_)
      refine lv_goto (tgt := 2056) C.1.1 C.1.2.1 dL_law_637 (by decide) ?_
      exact s_L_law_2056 C hr hX hbl hbA hA2 hcN hll k27 hk27 (((nc + mc_620) + mc_632)) (((ns + ms_620) + ms_632)) v1 v2 v3 v4 _ _ _ _ (show ((nc + mc_620) + mc_632) ≤ 646169 ∧ ((ns + ms_620) + ms_632) ≤ 7157597 by omega) hW hS (tl_sub hl [2, 3, 4, 5, 6] rfl) hw
    have hw := hw.2
    by_cases hc10 : (x_40 &&& (63 : Int32)) = (10 : Int32)
    · have hw := hw.1 hc10
      refine lv_tableIn (off := 596) (tgt := 640) C.1.1 C.1.2.1 dL_law_44 (by rw [hc10]; decide) (by rw [hc10]; decide) (by rw [hc10]; rfl) (by decide) ?_
      refine tr_aload_n (k := 1) (x := v1) C hl 0 rfl dL_law_640 ?_
      refine tr_aload_n (k := 0) (x := (some b)) C hl 4 rfl dL_law_641 ?_
      refine tr_iload (x := v4) C hl 3 rfl dL_law_642 ?_
      refine lv_iconst (v := (1 : Int32)) C.1.1 C.1.2.1 dL_law_644 (by decide) ?_
      refine lv_iadd C.1.1 C.1.2.1 dL_law_645 ?_
      refine tr_sld C hX hbl hbA hS dL_law_646 hw (fun x_646 hw => ?_)
      refine tr_aload_n (k := 0) (x := (some b)) C hl 4 rfl dL_law_647 ?_
      refine tr_iload (x := v4) C hl 3 rfl dL_law_648 ?_
      refine lv_iconst (v := (2 : Int32)) C.1.1 C.1.2.1 dL_law_650 (by decide) ?_
      refine lv_iadd C.1.1 C.1.2.1 dL_law_651 ?_
      refine tr_sld C hX hbl hbA hS dL_law_652 hw (fun x_652 hw => ?_)
      refine tr_aload_n (k := 3) (x := v3) C hl 2 rfl dL_law_653 ?_
      have hq13 := hw.1
      have hw := hw.2
      refine tx_backNI (tx_runSX (As := [va_rf v1, .int x_646, .int x_652, va_rf v3]) C hl.1 (c_L_indexOf l hll K _ v1 x_646 x_652 v3) (vx_cwSW 4 C.1.2.2.2.2 (gi_SX (zm kw_766) (zm kw_767) (zm kw_680) (zm kw_765)) rfl rfl rfl (by decide +kernel) ⟨(Nat.le_of_ble_eq_true rfl), (Nat.le_of_ble_eq_true rfl)⟩) rfl dL_law_654 ⟨hq13.1, hq13.2⟩ [] rfl (Nat.le_of_ble_eq_true rfl) rfl hW hS hw) hS (fun x_654 G_654 H locs hw hW hS => ?_)
      refine tr_istore (x := x_654) C hl [(5, .inl x_654), (1, .inr (.inr v1)), (2, .inr (.inr v2)), (3, .inr (.inr v3)), (4, .inl v4), (0, .inr (.inr (some b)))] (by decide) rfl dL_law_657 (fun ls hl => ?_)
      refine tr_aload_n (k := 2) (x := v2) C hl 2 rfl dL_law_659 ?_
      refine tr_aload_n (k := 0) (x := (some b)) C hl 5 rfl dL_law_660 ?_
      refine tr_iload (x := v4) C hl 4 rfl dL_law_661 ?_
      refine lv_iconst (v := (1 : Int32)) C.1.1 C.1.2.1 dL_law_663 (by decide) ?_
      refine lv_iadd C.1.1 C.1.2.1 dL_law_664 ?_
      refine tr_sld C hX hbl hbA hS dL_law_665 hw (fun x_665 hw => ?_)
      refine tr_aload_n (k := 0) (x := (some b)) C hl 5 rfl dL_law_666 ?_
      refine tr_iload (x := v4) C hl 4 rfl dL_law_667 ?_
      refine lv_iconst (v := (2 : Int32)) C.1.1 C.1.2.1 dL_law_669 (by decide) ?_
      refine lv_iadd C.1.1 C.1.2.1 dL_law_670 ?_
      refine tr_sld C hX hbl hbA hS dL_law_671 hw (fun x_671 hw => ?_)
      have hq14 := hw.1
      have hw := hw.2
      refine tr_backI (tr_runV (r := v2) (As := [.int x_665, .int x_671]) C hl.1 (c_X3_indexOf l hll K _ v2 x_665 x_671) (cwV 2 C.1.2.2.2.2 (gi_V (zm kw_769) (zm kw_770) (zm kw_771) (zm kw_155) (zm kw_768)) rfl rfl rfl (by decide +kernel) ⟨(Nat.le_of_ble_eq_true rfl), (Nat.le_of_ble_eq_true rfl)⟩) rfl rfl dL_law_672 ⟨hq14.1, hq14.2⟩ [] rfl (Nat.le_of_ble_eq_true rfl) rfl hW hS hw) hS (fun x_672 G_672 H locs hw hW hS => ?_)
      refine tr_istore (x := x_672) C hl [(6, .inl x_672), (5, .inl x_654), (1, .inr (.inr v1)), (2, .inr (.inr v2)), (3, .inr (.inr v3)), (4, .inl v4), (0, .inr (.inr (some b)))] (by decide) rfl dL_law_675 (fun ls hl => ?_)
      refine lv_goto (tgt := 2056) C.1.1 C.1.2.1 dL_law_677 (by decide) ?_
      exact s_L_law_2056 C hr hX hbl hbA hA2 hcN hll k27 hk27 (((nc + 2) + 1)) (((ns + 12) + 12)) v1 v2 v3 v4 _ _ _ _ (show ((nc + 2) + 1) ≤ 646169 ∧ ((ns + 12) + 12) ≤ 7157597 by omega) hW hS (tl_sub hl [2, 3, 4, 5, 6] rfl) hw
    have hw := hw.2
    by_cases hc11 : (x_40 &&& (63 : Int32)) = (11 : Int32)
    · have hw := hw.1 hc11
      refine lv_tableIn (off := 636) (tgt := 680) C.1.1 C.1.2.1 dL_law_44 (by rw [hc11]; decide) (by rw [hc11]; decide) (by rw [hc11]; rfl) (by decide) ?_
      refine tr_aload_n (k := 1) (x := v1) C hl 0 rfl dL_law_680 ?_
      refine tr_aload_n (k := 0) (x := (some b)) C hl 4 rfl dL_law_681 ?_
      refine tr_iload (x := v4) C hl 3 rfl dL_law_682 ?_
      refine lv_iconst (v := (1 : Int32)) C.1.1 C.1.2.1 dL_law_684 (by decide) ?_
      refine lv_iadd C.1.1 C.1.2.1 dL_law_685 ?_
      refine tr_sld C hX hbl hbA hS dL_law_686 hw (fun x_686 hw => ?_)
      refine tr_aload_n (k := 0) (x := (some b)) C hl 4 rfl dL_law_687 ?_
      refine tr_iload (x := v4) C hl 3 rfl dL_law_688 ?_
      refine lv_iconst (v := (2 : Int32)) C.1.1 C.1.2.1 dL_law_690 (by decide) ?_
      refine lv_iadd C.1.1 C.1.2.1 dL_law_691 ?_
      refine tr_sld C hX hbl hbA hS dL_law_692 hw (fun x_692 hw => ?_)
      refine tr_aload_n (k := 3) (x := v3) C hl 2 rfl dL_law_693 ?_
      have hq15 := hw.1
      have hw := hw.2
      refine tx_backNI (tx_runSX (As := [va_rf v1, .int x_686, .int x_692, va_rf v3]) C hl.1 (c_L_lastIndexOf l hll K _ v1 x_686 x_692 v3) (vx_cwSW 4 C.1.2.2.2.2 (gi_SX (zm kw_773) (zm kw_774) (zm kw_680) (zm kw_772)) rfl rfl rfl (by decide +kernel) ⟨(Nat.le_of_ble_eq_true rfl), (Nat.le_of_ble_eq_true rfl)⟩) rfl dL_law_694 ⟨hq15.1, hq15.2⟩ [] rfl (Nat.le_of_ble_eq_true rfl) rfl hW hS hw) hS (fun x_694 G_694 H locs hw hW hS => ?_)
      refine tr_istore (x := x_694) C hl [(5, .inl x_694), (1, .inr (.inr v1)), (2, .inr (.inr v2)), (3, .inr (.inr v3)), (4, .inl v4), (0, .inr (.inr (some b)))] (by decide) rfl dL_law_697 (fun ls hl => ?_)
      refine tr_aload_n (k := 2) (x := v2) C hl 2 rfl dL_law_699 ?_
      refine tr_aload_n (k := 0) (x := (some b)) C hl 5 rfl dL_law_700 ?_
      refine tr_iload (x := v4) C hl 4 rfl dL_law_701 ?_
      refine lv_iconst (v := (1 : Int32)) C.1.1 C.1.2.1 dL_law_703 (by decide) ?_
      refine lv_iadd C.1.1 C.1.2.1 dL_law_704 ?_
      refine tr_sld C hX hbl hbA hS dL_law_705 hw (fun x_705 hw => ?_)
      refine tr_aload_n (k := 0) (x := (some b)) C hl 5 rfl dL_law_706 ?_
      refine tr_iload (x := v4) C hl 4 rfl dL_law_707 ?_
      refine lv_iconst (v := (2 : Int32)) C.1.1 C.1.2.1 dL_law_709 (by decide) ?_
      refine lv_iadd C.1.1 C.1.2.1 dL_law_710 ?_
      refine tr_sld C hX hbl hbA hS dL_law_711 hw (fun x_711 hw => ?_)
      refine tr_backI (tr_runV (r := v2) (As := [.int x_705, .int x_711]) C hl.1 (c_X3_lastIndexOf l hll K _ v2 x_705 x_711) (cwV 2 C.1.2.2.2.2 (gi_V (zm kw_776) (zm kw_777) (zm kw_778) (zm kw_155) (zm kw_775)) rfl rfl rfl (by decide +kernel) ⟨(Nat.le_of_ble_eq_true rfl), (Nat.le_of_ble_eq_true rfl)⟩) rfl rfl dL_law_712 ⟨(show (nc + 2) + 0 ≤ 646169 by omega), (show (ns + 12) + 0 ≤ 7157597 by omega)⟩ [] rfl (Nat.le_of_ble_eq_true rfl) rfl hW hS hw) hS (fun x_712 G_712 H locs hw hW hS => ?_)
      refine tr_istore (x := x_712) C hl [(6, .inl x_712), (5, .inl x_694), (1, .inr (.inr v1)), (2, .inr (.inr v2)), (3, .inr (.inr v3)), (4, .inl v4), (0, .inr (.inr (some b)))] (by decide) rfl dL_law_715 (fun ls hl => ?_)
      refine lv_goto (tgt := 2056) C.1.1 C.1.2.1 dL_law_717 (by decide) ?_
      exact s_L_law_2056 C hr hX hbl hbA hA2 hcN hll k27 hk27 ((nc + 2)) ((ns + 12)) v1 v2 v3 v4 _ _ _ _ (show (nc + 2) ≤ 646169 ∧ (ns + 12) ≤ 7157597 by omega) hW hS (tl_sub hl [2, 3, 4, 5, 6] rfl) hw
    have hw := hw.2
    by_cases hc12 : (x_40 &&& (63 : Int32)) = (12 : Int32)
    · have hw := hw.1 hc12
      refine lv_tableIn (off := 676) (tgt := 720) C.1.1 C.1.2.1 dL_law_44 (by rw [hc12]; decide) (by rw [hc12]; decide) (by rw [hc12]; rfl) (by decide) ?_
      refine tr_aload_n (k := 1) (x := v1) C hl 0 rfl dL_law_720 ?_
      refine tr_aload_n (k := 0) (x := (some b)) C hl 4 rfl dL_law_721 ?_
      refine tr_iload (x := v4) C hl 3 rfl dL_law_722 ?_
      refine lv_iconst (v := (1 : Int32)) C.1.1 C.1.2.1 dL_law_724 (by decide) ?_
      refine lv_iadd C.1.1 C.1.2.1 dL_law_725 ?_
      refine tr_sld C hX hbl hbA hS dL_law_726 hw (fun x_726 hw => ?_)
      refine tr_aload_n (k := 0) (x := (some b)) C hl 4 rfl dL_law_727 ?_
      refine tr_iload (x := v4) C hl 3 rfl dL_law_728 ?_
      refine lv_iconst (v := (2 : Int32)) C.1.1 C.1.2.1 dL_law_730 (by decide) ?_
      refine lv_iadd C.1.1 C.1.2.1 dL_law_731 ?_
      refine tr_sld C hX hbl hbA hS dL_law_732 hw (fun x_732 hw => ?_)
      refine tr_aload_n (k := 3) (x := v3) C hl 2 rfl dL_law_733 ?_
      have hq16 := hw.1
      have hw := hw.2
      refine tx_backNI (tx_runSX (As := [va_rf v1, .int x_726, .int x_732, va_rf v3]) C hl.1 (c_L_has l hll K _ v1 x_726 x_732 v3) (vx_cwSW 4 C.1.2.2.2.2 (gi_SX (zm kw_780) (zm kw_781) (zm kw_680) (zm kw_779)) rfl rfl rfl (by decide +kernel) ⟨(Nat.le_of_ble_eq_true rfl), (Nat.le_of_ble_eq_true rfl)⟩) rfl dL_law_734 ⟨hq16.1, hq16.2⟩ [] rfl (Nat.le_of_ble_eq_true rfl) rfl hW hS hw) hS (fun x_734 G_734 H locs hw hW hS => ?_)
      refine tr_istore (x := x_734) C hl [(5, .inl x_734), (1, .inr (.inr v1)), (2, .inr (.inr v2)), (3, .inr (.inr v3)), (4, .inl v4), (0, .inr (.inr (some b)))] (by decide) rfl dL_law_737 (fun ls hl => ?_)
      refine tr_aload_n (k := 2) (x := v2) C hl 2 rfl dL_law_739 ?_
      refine tr_aload_n (k := 0) (x := (some b)) C hl 5 rfl dL_law_740 ?_
      refine tr_iload (x := v4) C hl 4 rfl dL_law_741 ?_
      refine lv_iconst (v := (1 : Int32)) C.1.1 C.1.2.1 dL_law_743 (by decide) ?_
      refine lv_iadd C.1.1 C.1.2.1 dL_law_744 ?_
      refine tr_sld C hX hbl hbA hS dL_law_745 hw (fun x_745 hw => ?_)
      refine tr_aload_n (k := 0) (x := (some b)) C hl 5 rfl dL_law_746 ?_
      refine tr_iload (x := v4) C hl 4 rfl dL_law_747 ?_
      refine lv_iconst (v := (2 : Int32)) C.1.1 C.1.2.1 dL_law_749 (by decide) ?_
      refine lv_iadd C.1.1 C.1.2.1 dL_law_750 ?_
      refine tr_sld C hX hbl hbA hS dL_law_751 hw (fun x_751 hw => ?_)
      have hq17 := hw.1
      have hw := hw.2
      refine tr_backI (tr_runV (r := v2) (As := [.int x_745, .int x_751]) C hl.1 (c_X3_has l hll K _ v2 x_745 x_751) (cwV 2 C.1.2.2.2.2 (gi_V (zm kw_783) (zm kw_784) (zm kw_785) (zm kw_155) (zm kw_782)) rfl rfl rfl (by decide +kernel) ⟨(Nat.le_of_ble_eq_true rfl), (Nat.le_of_ble_eq_true rfl)⟩) rfl rfl dL_law_752 ⟨hq17.1, hq17.2⟩ [] rfl (Nat.le_of_ble_eq_true rfl) rfl hW hS hw) hS (fun x_752 G_752 H locs hw hW hS => ?_)
      refine tr_istore (x := x_752) C hl [(6, .inl x_752), (5, .inl x_734), (1, .inr (.inr v1)), (2, .inr (.inr v2)), (3, .inr (.inr v3)), (4, .inl v4), (0, .inr (.inr (some b)))] (by decide) rfl dL_law_755 (fun ls hl => ?_)
      refine lv_goto (tgt := 2056) C.1.1 C.1.2.1 dL_law_757 (by decide) ?_
      exact s_L_law_2056 C hr hX hbl hbA hA2 hcN hll k27 hk27 (((nc + 2) + 1)) (((ns + 12) + 12)) v1 v2 v3 v4 _ _ _ _ (show ((nc + 2) + 1) ≤ 646169 ∧ ((ns + 12) + 12) ≤ 7157597 by omega) hW hS (tl_sub hl [2, 3, 4, 5, 6] rfl) hw
    have hw := hw.2
    by_cases hc13 : (x_40 &&& (63 : Int32)) = (13 : Int32)
    · have hw := hw.1 hc13
      refine lv_tableIn (off := 716) (tgt := 760) C.1.1 C.1.2.1 dL_law_44 (by rw [hc13]; decide) (by rw [hc13]; decide) (by rw [hc13]; rfl) (by decide) ?_
      refine tr_aload_n (k := 1) (x := v1) C hl 0 rfl dL_law_760 ?_
      refine tr_aload_n (k := 0) (x := (some b)) C hl 4 rfl dL_law_761 ?_
      refine tr_iload (x := v4) C hl 3 rfl dL_law_762 ?_
      refine lv_iconst (v := (1 : Int32)) C.1.1 C.1.2.1 dL_law_764 (by decide) ?_
      refine lv_iadd C.1.1 C.1.2.1 dL_law_765 ?_
      refine tr_sld C hX hbl hbA hS dL_law_766 hw (fun x_766 hw => ?_)
      refine tr_aload_n (k := 0) (x := (some b)) C hl 4 rfl dL_law_767 ?_
      refine tr_iload (x := v4) C hl 3 rfl dL_law_768 ?_
      refine lv_iconst (v := (2 : Int32)) C.1.1 C.1.2.1 dL_law_770 (by decide) ?_
      refine lv_iadd C.1.1 C.1.2.1 dL_law_771 ?_
      refine tr_sld C hX hbl hbA hS dL_law_772 hw (fun x_772 hw => ?_)
      refine tr_aload_n (k := 3) (x := v3) C hl 2 rfl dL_law_773 ?_
      have hq18 := hw.1
      have hw := hw.2
      refine tx_backNI (tx_runSX (As := [va_rf v1, .int x_766, .int x_772, va_rf v3]) C hl.1 (c_L_often l hll K _ v1 x_766 x_772 v3) (vx_cwSW 4 C.1.2.2.2.2 (gi_SX (zm kw_787) (zm kw_788) (zm kw_680) (zm kw_786)) rfl rfl rfl (by decide +kernel) ⟨(Nat.le_of_ble_eq_true rfl), (Nat.le_of_ble_eq_true rfl)⟩) rfl dL_law_774 ⟨hq18.1, hq18.2⟩ [] rfl (Nat.le_of_ble_eq_true rfl) rfl hW hS hw) hS (fun x_774 G_774 H locs hw hW hS => ?_)
      refine tr_istore (x := x_774) C hl [(5, .inl x_774), (1, .inr (.inr v1)), (2, .inr (.inr v2)), (3, .inr (.inr v3)), (4, .inl v4), (0, .inr (.inr (some b)))] (by decide) rfl dL_law_777 (fun ls hl => ?_)
      refine tr_aload_n (k := 2) (x := v2) C hl 2 rfl dL_law_779 ?_
      refine tr_aload_n (k := 0) (x := (some b)) C hl 5 rfl dL_law_780 ?_
      refine tr_iload (x := v4) C hl 4 rfl dL_law_781 ?_
      refine lv_iconst (v := (1 : Int32)) C.1.1 C.1.2.1 dL_law_783 (by decide) ?_
      refine lv_iadd C.1.1 C.1.2.1 dL_law_784 ?_
      refine tr_sld C hX hbl hbA hS dL_law_785 hw (fun x_785 hw => ?_)
      refine tr_aload_n (k := 0) (x := (some b)) C hl 5 rfl dL_law_786 ?_
      refine tr_iload (x := v4) C hl 4 rfl dL_law_787 ?_
      refine lv_iconst (v := (2 : Int32)) C.1.1 C.1.2.1 dL_law_789 (by decide) ?_
      refine lv_iadd C.1.1 C.1.2.1 dL_law_790 ?_
      refine tr_sld C hX hbl hbA hS dL_law_791 hw (fun x_791 hw => ?_)
      have hq19 := hw.1
      have hw := hw.2
      refine tr_backI (tr_runV (r := v2) (As := [.int x_785, .int x_791]) C hl.1 (c_X3_often l hll K _ v2 x_785 x_791) (cwV 2 C.1.2.2.2.2 (gi_V (zm kw_790) (zm kw_791) (zm kw_792) (zm kw_155) (zm kw_789)) rfl rfl rfl (by decide +kernel) ⟨(Nat.le_of_ble_eq_true rfl), (Nat.le_of_ble_eq_true rfl)⟩) rfl rfl dL_law_792 ⟨hq19.1, hq19.2⟩ [] rfl (Nat.le_of_ble_eq_true rfl) rfl hW hS hw) hS (fun x_792 G_792 H locs hw hW hS => ?_)
      refine tr_istore (x := x_792) C hl [(6, .inl x_792), (5, .inl x_774), (1, .inr (.inr v1)), (2, .inr (.inr v2)), (3, .inr (.inr v3)), (4, .inl v4), (0, .inr (.inr (some b)))] (by decide) rfl dL_law_795 (fun ls hl => ?_)
      refine lv_goto (tgt := 2056) C.1.1 C.1.2.1 dL_law_797 (by decide) ?_
      exact s_L_law_2056 C hr hX hbl hbA hA2 hcN hll k27 hk27 (((nc + 2) + 1)) (((ns + 12) + 12)) v1 v2 v3 v4 _ _ _ _ (show ((nc + 2) + 1) ≤ 646169 ∧ ((ns + 12) + 12) ≤ 7157597 by omega) hW hS (tl_sub hl [2, 3, 4, 5, 6] rfl) hw
    have hw := hw.2
    by_cases hc14 : (x_40 &&& (63 : Int32)) = (14 : Int32)
    · have hw := hw.1 hc14
      refine lv_tableIn (off := 756) (tgt := 800) C.1.1 C.1.2.1 dL_law_44 (by rw [hc14]; decide) (by rw [hc14]; decide) (by rw [hc14]; rfl) (by decide) ?_
      refine tr_aload_n (k := 1) (x := v1) C hl 0 rfl dL_law_800 ?_
      refine tr_aload_n (k := 0) (x := (some b)) C hl 4 rfl dL_law_801 ?_
      refine tr_iload (x := v4) C hl 3 rfl dL_law_802 ?_
      refine lv_iconst (v := (1 : Int32)) C.1.1 C.1.2.1 dL_law_804 (by decide) ?_
      refine lv_iadd C.1.1 C.1.2.1 dL_law_805 ?_
      refine tr_sld C hX hbl hbA hS dL_law_806 hw (fun x_806 hw => ?_)
      refine tr_aload_n (k := 0) (x := (some b)) C hl 4 rfl dL_law_807 ?_
      refine tr_iload (x := v4) C hl 3 rfl dL_law_808 ?_
      refine lv_iconst (v := (2 : Int32)) C.1.1 C.1.2.1 dL_law_810 (by decide) ?_
      refine lv_iadd C.1.1 C.1.2.1 dL_law_811 ?_
      refine tr_sld C hX hbl hbA hS dL_law_812 hw (fun x_812 hw => ?_)
      refine tr_aload_n (k := 3) (x := v3) C hl 2 rfl dL_law_813 ?_
      have hq20 := hw.1
      have hw := hw.2
      refine tx_backNI (tx_runSX (As := [va_rf v1, .int x_806, .int x_812, va_rf v3]) C hl.1 (c_L_hasAll l hll K _ v1 x_806 x_812 v3) (vx_cwSW 4 C.1.2.2.2.2 (gi_SX (zm kw_794) (zm kw_795) (zm kw_680) (zm kw_793)) rfl rfl rfl (by decide +kernel) ⟨(Nat.le_of_ble_eq_true rfl), (Nat.le_of_ble_eq_true rfl)⟩) rfl dL_law_814 ⟨hq20.1, hq20.2⟩ [] rfl (Nat.le_of_ble_eq_true rfl) rfl hW hS hw) hS (fun x_814 G_814 H locs hw hW hS => ?_)
      refine tr_istore (x := x_814) C hl [(5, .inl x_814), (1, .inr (.inr v1)), (2, .inr (.inr v2)), (3, .inr (.inr v3)), (4, .inl v4), (0, .inr (.inr (some b)))] (by decide) rfl dL_law_817 (fun ls hl => ?_)
      refine tr_aload_n (k := 2) (x := v2) C hl 2 rfl dL_law_819 ?_
      refine tr_aload_n (k := 0) (x := (some b)) C hl 5 rfl dL_law_820 ?_
      refine tr_iload (x := v4) C hl 4 rfl dL_law_821 ?_
      refine lv_iconst (v := (1 : Int32)) C.1.1 C.1.2.1 dL_law_823 (by decide) ?_
      refine lv_iadd C.1.1 C.1.2.1 dL_law_824 ?_
      refine tr_sld C hX hbl hbA hS dL_law_825 hw (fun x_825 hw => ?_)
      refine tr_aload_n (k := 0) (x := (some b)) C hl 5 rfl dL_law_826 ?_
      refine tr_iload (x := v4) C hl 4 rfl dL_law_827 ?_
      refine lv_iconst (v := (2 : Int32)) C.1.1 C.1.2.1 dL_law_829 (by decide) ?_
      refine lv_iadd C.1.1 C.1.2.1 dL_law_830 ?_
      refine tr_sld C hX hbl hbA hS dL_law_831 hw (fun x_831 hw => ?_)
      have hq21 := hw.1
      have hw := hw.2
      refine tr_backI (tr_runV (r := v2) (As := [.int x_825, .int x_831]) C hl.1 (c_X3_hasAll l hll K _ v2 x_825 x_831) (cwV 2 C.1.2.2.2.2 (gi_V (zm kw_797) (zm kw_798) (zm kw_799) (zm kw_155) (zm kw_796)) rfl rfl rfl (by decide +kernel) ⟨(Nat.le_of_ble_eq_true rfl), (Nat.le_of_ble_eq_true rfl)⟩) rfl rfl dL_law_832 ⟨hq21.1, hq21.2⟩ [] rfl (Nat.le_of_ble_eq_true rfl) rfl hW hS hw) hS (fun x_832 G_832 H locs hw hW hS => ?_)
      refine tr_istore (x := x_832) C hl [(6, .inl x_832), (5, .inl x_814), (1, .inr (.inr v1)), (2, .inr (.inr v2)), (3, .inr (.inr v3)), (4, .inl v4), (0, .inr (.inr (some b)))] (by decide) rfl dL_law_835 (fun ls hl => ?_)
      refine lv_goto (tgt := 2056) C.1.1 C.1.2.1 dL_law_837 (by decide) ?_
      exact s_L_law_2056 C hr hX hbl hbA hA2 hcN hll k27 hk27 (((nc + 2) + 13)) (((ns + 12) + 156)) v1 v2 v3 v4 _ _ _ _ (show ((nc + 2) + 13) ≤ 646169 ∧ ((ns + 12) + 156) ≤ 7157597 by omega) hW hS (tl_sub hl [2, 3, 4, 5, 6] rfl) hw
    have hw := hw.2
    by_cases hc15 : (x_40 &&& (63 : Int32)) = (15 : Int32)
    · have hw := hw.1 hc15
      refine lv_tableIn (off := 796) (tgt := 840) C.1.1 C.1.2.1 dL_law_44 (by rw [hc15]; decide) (by rw [hc15]; decide) (by rw [hc15]; rfl) (by decide) ?_
      refine tr_aload_n (k := 1) (x := v1) C hl 0 rfl dL_law_840 ?_
      refine tr_aload_n (k := 0) (x := (some b)) C hl 4 rfl dL_law_841 ?_
      refine tr_iload (x := v4) C hl 3 rfl dL_law_842 ?_
      refine lv_iconst (v := (1 : Int32)) C.1.1 C.1.2.1 dL_law_844 (by decide) ?_
      refine lv_iadd C.1.1 C.1.2.1 dL_law_845 ?_
      refine tr_sld C hX hbl hbA hS dL_law_846 hw (fun x_846 hw => ?_)
      refine tr_aload_n (k := 0) (x := (some b)) C hl 4 rfl dL_law_847 ?_
      refine tr_iload (x := v4) C hl 3 rfl dL_law_848 ?_
      refine lv_iconst (v := (2 : Int32)) C.1.1 C.1.2.1 dL_law_850 (by decide) ?_
      refine lv_iadd C.1.1 C.1.2.1 dL_law_851 ?_
      refine tr_sld C hX hbl hbA hS dL_law_852 hw (fun x_852 hw => ?_)
      refine tr_aload_n (k := 3) (x := v3) C hl 2 rfl dL_law_853 ?_
      have hq22 := hw.1
      have hw := hw.2
      refine tx_backNI (tx_runSX (As := [va_rf v1, .int x_846, .int x_852, va_rf v3]) C hl.1 (c_L_areApart l hll K _ v1 x_846 x_852 v3) (vx_cwSW 4 C.1.2.2.2.2 (gi_SX (zm kw_801) (zm kw_802) (zm kw_680) (zm kw_800)) rfl rfl rfl (by decide +kernel) ⟨(Nat.le_of_ble_eq_true rfl), (Nat.le_of_ble_eq_true rfl)⟩) rfl dL_law_854 ⟨hq22.1, hq22.2⟩ [] rfl (Nat.le_of_ble_eq_true rfl) rfl hW hS hw) hS (fun x_854 G_854 H locs hw hW hS => ?_)
      refine tr_istore (x := x_854) C hl [(5, .inl x_854), (1, .inr (.inr v1)), (2, .inr (.inr v2)), (3, .inr (.inr v3)), (4, .inl v4), (0, .inr (.inr (some b)))] (by decide) rfl dL_law_857 (fun ls hl => ?_)
      refine tr_aload_n (k := 2) (x := v2) C hl 2 rfl dL_law_859 ?_
      refine tr_aload_n (k := 0) (x := (some b)) C hl 5 rfl dL_law_860 ?_
      refine tr_iload (x := v4) C hl 4 rfl dL_law_861 ?_
      refine lv_iconst (v := (1 : Int32)) C.1.1 C.1.2.1 dL_law_863 (by decide) ?_
      refine lv_iadd C.1.1 C.1.2.1 dL_law_864 ?_
      refine tr_sld C hX hbl hbA hS dL_law_865 hw (fun x_865 hw => ?_)
      refine tr_aload_n (k := 0) (x := (some b)) C hl 5 rfl dL_law_866 ?_
      refine tr_iload (x := v4) C hl 4 rfl dL_law_867 ?_
      refine lv_iconst (v := (2 : Int32)) C.1.1 C.1.2.1 dL_law_869 (by decide) ?_
      refine lv_iadd C.1.1 C.1.2.1 dL_law_870 ?_
      refine tr_sld C hX hbl hbA hS dL_law_871 hw (fun x_871 hw => ?_)
      have hq23 := hw.1
      have hw := hw.2
      refine tr_backI (tr_runV (r := v2) (As := [.int x_865, .int x_871]) C hl.1 (c_X3_areApart l hll K _ v2 x_865 x_871) (cwV 2 C.1.2.2.2.2 (gi_V (zm kw_804) (zm kw_805) (zm kw_806) (zm kw_155) (zm kw_803)) rfl rfl rfl (by decide +kernel) ⟨(Nat.le_of_ble_eq_true rfl), (Nat.le_of_ble_eq_true rfl)⟩) rfl rfl dL_law_872 ⟨hq23.1, hq23.2⟩ [] rfl (Nat.le_of_ble_eq_true rfl) rfl hW hS hw) hS (fun x_872 G_872 H locs hw hW hS => ?_)
      refine tr_istore (x := x_872) C hl [(6, .inl x_872), (5, .inl x_854), (1, .inr (.inr v1)), (2, .inr (.inr v2)), (3, .inr (.inr v3)), (4, .inl v4), (0, .inr (.inr (some b)))] (by decide) rfl dL_law_875 (fun ls hl => ?_)
      refine lv_goto (tgt := 2056) C.1.1 C.1.2.1 dL_law_877 (by decide) ?_
      exact s_L_law_2056 C hr hX hbl hbA hA2 hcN hll k27 hk27 (((nc + 2) + 13)) (((ns + 12) + 156)) v1 v2 v3 v4 _ _ _ _ (show ((nc + 2) + 13) ≤ 646169 ∧ ((ns + 12) + 156) ≤ 7157597 by omega) hW hS (tl_sub hl [2, 3, 4, 5, 6] rfl) hw
    have hw := hw.2
    by_cases hc16 : (x_40 &&& (63 : Int32)) = (16 : Int32)
    · have hw := hw.1 hc16
      refine lv_tableIn (off := 836) (tgt := 880) C.1.1 C.1.2.1 dL_law_44 (by rw [hc16]; decide) (by rw [hc16]; decide) (by rw [hc16]; rfl) (by decide) ?_
      refine tr_aload_n (k := 1) (x := v1) C hl 0 rfl dL_law_880 ?_
      refine tr_aload_n (k := 0) (x := (some b)) C hl 4 rfl dL_law_881 ?_
      refine tr_iload (x := v4) C hl 3 rfl dL_law_882 ?_
      refine lv_iconst (v := (1 : Int32)) C.1.1 C.1.2.1 dL_law_884 (by decide) ?_
      refine lv_iadd C.1.1 C.1.2.1 dL_law_885 ?_
      refine tr_sld C hX hbl hbA hS dL_law_886 hw (fun x_886 hw => ?_)
      refine tr_aload_n (k := 0) (x := (some b)) C hl 4 rfl dL_law_887 ?_
      refine tr_iload (x := v4) C hl 3 rfl dL_law_888 ?_
      refine lv_iconst (v := (2 : Int32)) C.1.1 C.1.2.1 dL_law_890 (by decide) ?_
      refine lv_iadd C.1.1 C.1.2.1 dL_law_891 ?_
      refine tr_sld C hX hbl hbA hS dL_law_892 hw (fun x_892 hw => ?_)
      refine tr_aload_n (k := 3) (x := v3) C hl 2 rfl dL_law_893 ?_
      have hq24 := hw.1
      have hw := hw.2
      refine tx_backNI (tx_runSX (As := [va_rf v1, .int x_886, .int x_892, va_rf v3]) C hl.1 (c_L_indexOfAll l hll K _ v1 x_886 x_892 v3) (vx_cwSW 4 C.1.2.2.2.2 (gi_SX (zm kw_808) (zm kw_809) (zm kw_680) (zm kw_807)) rfl rfl rfl (by decide +kernel) ⟨(Nat.le_of_ble_eq_true rfl), (Nat.le_of_ble_eq_true rfl)⟩) rfl dL_law_894 ⟨hq24.1, hq24.2⟩ [] rfl (Nat.le_of_ble_eq_true rfl) rfl hW hS hw) hS (fun x_894 G_894 H locs hw hW hS => ?_)
      refine tr_istore (x := x_894) C hl [(5, .inl x_894), (1, .inr (.inr v1)), (2, .inr (.inr v2)), (3, .inr (.inr v3)), (4, .inl v4), (0, .inr (.inr (some b)))] (by decide) rfl dL_law_897 (fun ls hl => ?_)
      refine tr_aload_n (k := 2) (x := v2) C hl 2 rfl dL_law_899 ?_
      refine tr_aload_n (k := 0) (x := (some b)) C hl 5 rfl dL_law_900 ?_
      refine tr_iload (x := v4) C hl 4 rfl dL_law_901 ?_
      refine lv_iconst (v := (1 : Int32)) C.1.1 C.1.2.1 dL_law_903 (by decide) ?_
      refine lv_iadd C.1.1 C.1.2.1 dL_law_904 ?_
      refine tr_sld C hX hbl hbA hS dL_law_905 hw (fun x_905 hw => ?_)
      refine tr_aload_n (k := 0) (x := (some b)) C hl 5 rfl dL_law_906 ?_
      refine tr_iload (x := v4) C hl 4 rfl dL_law_907 ?_
      refine lv_iconst (v := (2 : Int32)) C.1.1 C.1.2.1 dL_law_909 (by decide) ?_
      refine lv_iadd C.1.1 C.1.2.1 dL_law_910 ?_
      refine tr_sld C hX hbl hbA hS dL_law_911 hw (fun x_911 hw => ?_)
      have hq25 := hw.1
      have hw := hw.2
      refine tr_backI (tr_runV (r := v2) (As := [.int x_905, .int x_911]) C hl.1 (c_X3_indexOfAll l hll K _ v2 x_905 x_911) (cwV 2 C.1.2.2.2.2 (gi_V (zm kw_811) (zm kw_812) (zm kw_813) (zm kw_155) (zm kw_810)) rfl rfl rfl (by decide +kernel) ⟨(Nat.le_of_ble_eq_true rfl), (Nat.le_of_ble_eq_true rfl)⟩) rfl rfl dL_law_912 ⟨hq25.1, hq25.2⟩ [] rfl (Nat.le_of_ble_eq_true rfl) rfl hW hS hw) hS (fun x_912 G_912 H locs hw hW hS => ?_)
      refine tr_istore (x := x_912) C hl [(6, .inl x_912), (5, .inl x_894), (1, .inr (.inr v1)), (2, .inr (.inr v2)), (3, .inr (.inr v3)), (4, .inl v4), (0, .inr (.inr (some b)))] (by decide) rfl dL_law_915 (fun ls hl => ?_)
      refine lv_goto (tgt := 2056) C.1.1 C.1.2.1 dL_law_917 (by decide) ?_
      exact s_L_law_2056 C hr hX hbl hbA hA2 hcN hll k27 hk27 (((nc + 2) + 26)) (((ns + 12) + 312)) v1 v2 v3 v4 _ _ _ _ (show ((nc + 2) + 26) ≤ 646169 ∧ ((ns + 12) + 312) ≤ 7157597 by omega) hW hS (tl_sub hl [2, 3, 4, 5, 6] rfl) hw
    have hw := hw.2
    by_cases hc17 : (x_40 &&& (63 : Int32)) = (17 : Int32)
    · have hw := hw.1 hc17
      refine lv_tableIn (off := 876) (tgt := 920) C.1.1 C.1.2.1 dL_law_44 (by rw [hc17]; decide) (by rw [hc17]; decide) (by rw [hc17]; rfl) (by decide) ?_
      refine tr_aload_n (k := 1) (x := v1) C hl 0 rfl dL_law_920 ?_
      refine tr_aload_n (k := 0) (x := (some b)) C hl 4 rfl dL_law_921 ?_
      refine tr_iload (x := v4) C hl 3 rfl dL_law_922 ?_
      refine lv_iconst (v := (1 : Int32)) C.1.1 C.1.2.1 dL_law_924 (by decide) ?_
      refine lv_iadd C.1.1 C.1.2.1 dL_law_925 ?_
      refine tr_sld C hX hbl hbA hS dL_law_926 hw (fun x_926 hw => ?_)
      refine tr_aload_n (k := 0) (x := (some b)) C hl 4 rfl dL_law_927 ?_
      refine tr_iload (x := v4) C hl 3 rfl dL_law_928 ?_
      refine lv_iconst (v := (2 : Int32)) C.1.1 C.1.2.1 dL_law_930 (by decide) ?_
      refine lv_iadd C.1.1 C.1.2.1 dL_law_931 ?_
      refine tr_sld C hX hbl hbA hS dL_law_932 hw (fun x_932 hw => ?_)
      refine tr_aload_n (k := 3) (x := v3) C hl 2 rfl dL_law_933 ?_
      have hq26 := hw.1
      have hw := hw.2
      refine tx_backNI (tx_runSX (As := [va_rf v1, .int x_926, .int x_932, va_rf v3]) C hl.1 (c_L_areEqual l hll K _ v1 x_926 x_932 v3) (vx_cwSW 4 C.1.2.2.2.2 (gi_SX (zm kw_815) (zm kw_816) (zm kw_680) (zm kw_814)) rfl rfl rfl (by decide +kernel) ⟨(Nat.le_of_ble_eq_true rfl), (Nat.le_of_ble_eq_true rfl)⟩) rfl dL_law_934 ⟨hq26.1, hq26.2⟩ [] rfl (Nat.le_of_ble_eq_true rfl) rfl hW hS hw) hS (fun x_934 G_934 H locs hw hW hS => ?_)
      refine tr_istore (x := x_934) C hl [(5, .inl x_934), (1, .inr (.inr v1)), (2, .inr (.inr v2)), (3, .inr (.inr v3)), (4, .inl v4), (0, .inr (.inr (some b)))] (by decide) rfl dL_law_937 (fun ls hl => ?_)
      refine tr_aload_n (k := 2) (x := v2) C hl 2 rfl dL_law_939 ?_
      refine tr_aload_n (k := 0) (x := (some b)) C hl 5 rfl dL_law_940 ?_
      refine tr_iload (x := v4) C hl 4 rfl dL_law_941 ?_
      refine lv_iconst (v := (1 : Int32)) C.1.1 C.1.2.1 dL_law_943 (by decide) ?_
      refine lv_iadd C.1.1 C.1.2.1 dL_law_944 ?_
      refine tr_sld C hX hbl hbA hS dL_law_945 hw (fun x_945 hw => ?_)
      refine tr_aload_n (k := 0) (x := (some b)) C hl 5 rfl dL_law_946 ?_
      refine tr_iload (x := v4) C hl 4 rfl dL_law_947 ?_
      refine lv_iconst (v := (2 : Int32)) C.1.1 C.1.2.1 dL_law_949 (by decide) ?_
      refine lv_iadd C.1.1 C.1.2.1 dL_law_950 ?_
      refine tr_sld C hX hbl hbA hS dL_law_951 hw (fun x_951 hw => ?_)
      have hq27 := hw.1
      have hw := hw.2
      refine tr_backI (tr_runV (r := v2) (As := [.int x_945, .int x_951]) C hl.1 (c_X3_areEqual l hll K _ v2 x_945 x_951) (cwV 2 C.1.2.2.2.2 (gi_V (zm kw_818) (zm kw_819) (zm kw_820) (zm kw_155) (zm kw_817)) rfl rfl rfl (by decide +kernel) ⟨(Nat.le_of_ble_eq_true rfl), (Nat.le_of_ble_eq_true rfl)⟩) rfl rfl dL_law_952 ⟨hq27.1, hq27.2⟩ [] rfl (Nat.le_of_ble_eq_true rfl) rfl hW hS hw) hS (fun x_952 G_952 H locs hw hW hS => ?_)
      refine tr_istore (x := x_952) C hl [(6, .inl x_952), (5, .inl x_934), (1, .inr (.inr v1)), (2, .inr (.inr v2)), (3, .inr (.inr v3)), (4, .inl v4), (0, .inr (.inr (some b)))] (by decide) rfl dL_law_955 (fun ls hl => ?_)
      refine lv_goto (tgt := 2056) C.1.1 C.1.2.1 dL_law_957 (by decide) ?_
      exact s_L_law_2056 C hr hX hbl hbA hA2 hcN hll k27 hk27 (((nc + 2) + 2)) (((ns + 12) + 24)) v1 v2 v3 v4 _ _ _ _ (show ((nc + 2) + 2) ≤ 646169 ∧ ((ns + 12) + 24) ≤ 7157597 by omega) hW hS (tl_sub hl [2, 3, 4, 5, 6] rfl) hw
    have hw := hw.2
    by_cases hc18 : (x_40 &&& (63 : Int32)) = (18 : Int32)
    · have hw := hw.1 hc18
      refine lv_tableIn (off := 916) (tgt := 960) C.1.1 C.1.2.1 dL_law_44 (by rw [hc18]; decide) (by rw [hc18]; decide) (by rw [hc18]; rfl) (by decide) ?_
      refine tr_aload_n (k := 1) (x := v1) C hl 0 rfl dL_law_960 ?_
      refine tr_aload_n (k := 0) (x := (some b)) C hl 4 rfl dL_law_961 ?_
      refine tr_iload (x := v4) C hl 3 rfl dL_law_962 ?_
      refine lv_iconst (v := (1 : Int32)) C.1.1 C.1.2.1 dL_law_964 (by decide) ?_
      refine lv_iadd C.1.1 C.1.2.1 dL_law_965 ?_
      refine tr_sld C hX hbl hbA hS dL_law_966 hw (fun x_966 hw => ?_)
      refine tr_aload_n (k := 3) (x := v3) C hl 2 rfl dL_law_967 ?_
      have hq28 := hw.1
      have hw := hw.2
      refine tx_backNI (tx_runSX (As := [va_rf v1, .int x_966, va_rf v3]) C hl.1 (c_L_code l hll K _ v1 x_966 v3) (vx_cwSW 3 C.1.2.2.2.2 (gi_SX (zm kw_822) (zm kw_823) (zm kw_680) (zm kw_821)) rfl rfl rfl (by decide +kernel) ⟨(Nat.le_of_ble_eq_true rfl), (Nat.le_of_ble_eq_true rfl)⟩) rfl dL_law_968 ⟨hq28.1, hq28.2⟩ [] rfl (Nat.le_of_ble_eq_true rfl) rfl hW hS hw) hS (fun x_968 G_968 H locs hw hW hS => ?_)
      refine tr_istore (x := x_968) C hl [(5, .inl x_968), (1, .inr (.inr v1)), (2, .inr (.inr v2)), (3, .inr (.inr v3)), (4, .inl v4), (0, .inr (.inr (some b)))] (by decide) rfl dL_law_971 (fun ls hl => ?_)
      refine tr_aload_n (k := 2) (x := v2) C hl 2 rfl dL_law_973 ?_
      refine tr_aload_n (k := 0) (x := (some b)) C hl 5 rfl dL_law_974 ?_
      refine tr_iload (x := v4) C hl 4 rfl dL_law_975 ?_
      refine lv_iconst (v := (1 : Int32)) C.1.1 C.1.2.1 dL_law_977 (by decide) ?_
      refine lv_iadd C.1.1 C.1.2.1 dL_law_978 ?_
      refine tr_sld C hX hbl hbA hS dL_law_979 hw (fun x_979 hw => ?_)
      have hq29 := hw.1
      have hw := hw.2
      refine tr_backI (tr_runV (r := v2) (As := [.int x_979]) C hl.1 (c_X3_code l hll K _ v2 x_979) (cwV 1 C.1.2.2.2.2 (gi_V (zm kw_825) (zm kw_826) (zm kw_827) (zm kw_155) (zm kw_824)) rfl rfl rfl (by decide +kernel) ⟨(Nat.le_of_ble_eq_true rfl), (Nat.le_of_ble_eq_true rfl)⟩) rfl rfl dL_law_980 ⟨hq29.1, hq29.2⟩ [] rfl (Nat.le_of_ble_eq_true rfl) rfl hW hS hw) hS (fun x_980 G_980 H locs hw hW hS => ?_)
      refine tr_istore (x := x_980) C hl [(6, .inl x_980), (5, .inl x_968), (1, .inr (.inr v1)), (2, .inr (.inr v2)), (3, .inr (.inr v3)), (4, .inl v4), (0, .inr (.inr (some b)))] (by decide) rfl dL_law_983 (fun ls hl => ?_)
      refine lv_goto (tgt := 2056) C.1.1 C.1.2.1 dL_law_985 (by decide) ?_
      exact s_L_law_2056 C hr hX hbl hbA hA2 hcN hll k27 hk27 (((nc + 1) + 1)) (((ns + 6) + 12)) v1 v2 v3 v4 _ _ _ _ (show ((nc + 1) + 1) ≤ 646169 ∧ ((ns + 6) + 12) ≤ 7157597 by omega) hW hS (tl_sub hl [2, 3, 4, 5, 6] rfl) hw
    have hw := hw.2
    by_cases hc19 : (x_40 &&& (63 : Int32)) = (19 : Int32)
    · have hw := hw.1 hc19
      refine lv_tableIn (off := 944) (tgt := 988) C.1.1 C.1.2.1 dL_law_44 (by rw [hc19]; decide) (by rw [hc19]; decide) (by rw [hc19]; rfl) (by decide) ?_
      refine tr_aload_n (k := 1) (x := v1) C hl 0 rfl dL_law_988 ?_
      refine tr_aload_n (k := 0) (x := (some b)) C hl 4 rfl dL_law_989 ?_
      refine tr_iload (x := v4) C hl 3 rfl dL_law_990 ?_
      refine lv_iconst (v := (1 : Int32)) C.1.1 C.1.2.1 dL_law_992 (by decide) ?_
      refine lv_iadd C.1.1 C.1.2.1 dL_law_993 ?_
      refine tr_sld C hX hbl hbA hS dL_law_994 hw (fun x_994 hw => ?_)
      refine tr_aload_n (k := 0) (x := (some b)) C hl 4 rfl dL_law_995 ?_
      refine tr_iload (x := v4) C hl 3 rfl dL_law_996 ?_
      refine lv_iconst (v := (2 : Int32)) C.1.1 C.1.2.1 dL_law_998 (by decide) ?_
      refine lv_iadd C.1.1 C.1.2.1 dL_law_999 ?_
      refine tr_sld C hX hbl hbA hS dL_law_1000 hw (fun x_1000 hw => ?_)
      refine tr_aload_n (k := 0) (x := (some b)) C hl 4 rfl dL_law_1001 ?_
      refine tr_iload (x := v4) C hl 3 rfl dL_law_1002 ?_
      refine lv_iconst (v := (3 : Int32)) C.1.1 C.1.2.1 dL_law_1004 (by decide) ?_
      refine lv_iadd C.1.1 C.1.2.1 dL_law_1005 ?_
      refine tr_sld C hX hbl hbA hS dL_law_1006 hw (fun x_1006 hw => ?_)
      refine tr_aload_n (k := 0) (x := (some b)) C hl 4 rfl dL_law_1007 ?_
      refine tr_iload (x := v4) C hl 3 rfl dL_law_1008 ?_
      refine lv_iconst (v := (4 : Int32)) C.1.1 C.1.2.1 dL_law_1010 (by decide) ?_
      refine lv_iadd C.1.1 C.1.2.1 dL_law_1011 ?_
      refine tr_sld C hX hbl hbA hS dL_law_1012 hw (fun x_1012 hw => ?_)
      refine lv_if_eq (tgt := 1020) C.1.1 C.1.2.1 dL_law_1013 (by decide) (fun hc => ?_) (fun hc => ?_)
      · have hw := hw.1 hc
        refine lv_iconst (v := (0 : Int32)) C.1.1 C.1.2.1 dL_law_1020 (by decide) ?_
        exact s_L_law_1021 C hr hX hbl hbA hA2 hcN hll k27 hk27 nc ns v1 v2 v3 v4 v1 x_994 x_1000 x_1006 ((0 : Int32)) _ _ _ _ (show nc ≤ 646169 ∧ ns ≤ 7157597 by omega) hW hS (tl_sub hl [0, 1, 2, 3, 4] rfl) hw
      · have hw := hw.2 hc
        refine lv_iconst (v := (1 : Int32)) C.1.1 C.1.2.1 dL_law_1016 (by decide) ?_
        refine lv_goto (tgt := 1021) C.1.1 C.1.2.1 dL_law_1017 (by decide) ?_
        exact s_L_law_1021 C hr hX hbl hbA hA2 hcN hll k27 hk27 nc ns v1 v2 v3 v4 v1 x_994 x_1000 x_1006 ((1 : Int32)) _ _ _ _ (show nc ≤ 646169 ∧ ns ≤ 7157597 by omega) hW hS (tl_sub hl [0, 1, 2, 3, 4] rfl) hw
    have hw := hw.2
    by_cases hc20 : (x_40 &&& (63 : Int32)) = (20 : Int32)
    · have hw := hw.1 hc20
      refine lv_tableIn (off := 1024) (tgt := 1068) C.1.1 C.1.2.1 dL_law_44 (by rw [hc20]; decide) (by rw [hc20]; decide) (by rw [hc20]; rfl) (by decide) ?_
      refine tr_aload_n (k := 1) (x := v1) C hl 0 rfl dL_law_1068 ?_
      refine tr_aload_n (k := 0) (x := (some b)) C hl 4 rfl dL_law_1069 ?_
      refine tr_iload (x := v4) C hl 3 rfl dL_law_1070 ?_
      refine lv_iconst (v := (1 : Int32)) C.1.1 C.1.2.1 dL_law_1072 (by decide) ?_
      refine lv_iadd C.1.1 C.1.2.1 dL_law_1073 ?_
      refine tr_sld C hX hbl hbA hS dL_law_1074 hw (fun x_1074 hw => ?_)
      refine tr_aload_n (k := 3) (x := v3) C hl 2 rfl dL_law_1075 ?_
      have hq30 := hw.1
      have hw := hw.2
      refine tx_backNI (tx_runSX (As := [va_rf v1, .int x_1074, va_rf v3]) C hl.1 (c_L_sum l hll K _ v1 x_1074 v3) (vx_cwSW 3 C.1.2.2.2.2 (gi_SX (zm kw_829) (zm kw_830) (zm kw_680) (zm kw_828)) rfl rfl rfl (by decide +kernel) ⟨(Nat.le_of_ble_eq_true rfl), (Nat.le_of_ble_eq_true rfl)⟩) rfl dL_law_1076 ⟨hq30.1, hq30.2⟩ [] rfl (Nat.le_of_ble_eq_true rfl) rfl hW hS hw) hS (fun x_1076 G_1076 H locs hw hW hS => ?_)
      refine tr_istore (x := x_1076) C hl [(5, .inl x_1076), (1, .inr (.inr v1)), (2, .inr (.inr v2)), (3, .inr (.inr v3)), (4, .inl v4), (0, .inr (.inr (some b)))] (by decide) rfl dL_law_1079 (fun ls hl => ?_)
      refine tr_aload_n (k := 2) (x := v2) C hl 2 rfl dL_law_1081 ?_
      refine tr_aload_n (k := 0) (x := (some b)) C hl 5 rfl dL_law_1082 ?_
      refine tr_iload (x := v4) C hl 4 rfl dL_law_1083 ?_
      refine lv_iconst (v := (1 : Int32)) C.1.1 C.1.2.1 dL_law_1085 (by decide) ?_
      refine lv_iadd C.1.1 C.1.2.1 dL_law_1086 ?_
      refine tr_sld C hX hbl hbA hS dL_law_1087 hw (fun x_1087 hw => ?_)
      have hq31 := hw.1
      have hw := hw.2
      refine tr_backI (tr_runV (r := v2) (As := [.int x_1087]) C hl.1 (c_X3_sum l hll K _ v2 x_1087) (cwV 1 C.1.2.2.2.2 (gi_V (zm kw_832) (zm kw_833) (zm kw_834) (zm kw_155) (zm kw_831)) rfl rfl rfl (by decide +kernel) ⟨(Nat.le_of_ble_eq_true rfl), (Nat.le_of_ble_eq_true rfl)⟩) rfl rfl dL_law_1088 ⟨hq31.1, hq31.2⟩ [] rfl (Nat.le_of_ble_eq_true rfl) rfl hW hS hw) hS (fun x_1088 G_1088 H locs hw hW hS => ?_)
      refine tr_istore (x := x_1088) C hl [(6, .inl x_1088), (5, .inl x_1076), (1, .inr (.inr v1)), (2, .inr (.inr v2)), (3, .inr (.inr v3)), (4, .inl v4), (0, .inr (.inr (some b)))] (by decide) rfl dL_law_1091 (fun ls hl => ?_)
      refine lv_goto (tgt := 2056) C.1.1 C.1.2.1 dL_law_1093 (by decide) ?_
      exact s_L_law_2056 C hr hX hbl hbA hA2 hcN hll k27 hk27 (((nc + 1) + 1)) (((ns + 6) + 12)) v1 v2 v3 v4 _ _ _ _ (show ((nc + 1) + 1) ≤ 646169 ∧ ((ns + 6) + 12) ≤ 7157597 by omega) hW hS (tl_sub hl [2, 3, 4, 5, 6] rfl) hw
    have hw := hw.2
    by_cases hc21 : (x_40 &&& (63 : Int32)) = (21 : Int32)
    · have hw := hw.1 hc21
      refine lv_tableIn (off := 1052) (tgt := 1096) C.1.1 C.1.2.1 dL_law_44 (by rw [hc21]; decide) (by rw [hc21]; decide) (by rw [hc21]; rfl) (by decide) ?_
      refine tr_aload_n (k := 1) (x := v1) C hl 0 rfl dL_law_1096 ?_
      refine tr_aload_n (k := 0) (x := (some b)) C hl 4 rfl dL_law_1097 ?_
      refine tr_iload (x := v4) C hl 3 rfl dL_law_1098 ?_
      refine lv_iconst (v := (1 : Int32)) C.1.1 C.1.2.1 dL_law_1100 (by decide) ?_
      refine lv_iadd C.1.1 C.1.2.1 dL_law_1101 ?_
      refine tr_sld C hX hbl hbA hS dL_law_1102 hw (fun x_1102 hw => ?_)
      refine tr_aload_n (k := 0) (x := (some b)) C hl 4 rfl dL_law_1103 ?_
      refine tr_iload (x := v4) C hl 3 rfl dL_law_1104 ?_
      refine lv_iconst (v := (2 : Int32)) C.1.1 C.1.2.1 dL_law_1106 (by decide) ?_
      refine lv_iadd C.1.1 C.1.2.1 dL_law_1107 ?_
      refine tr_sld C hX hbl hbA hS dL_law_1108 hw (fun x_1108 hw => ?_)
      refine tr_aload_n (k := 0) (x := (some b)) C hl 4 rfl dL_law_1109 ?_
      refine tr_iload (x := v4) C hl 3 rfl dL_law_1110 ?_
      refine lv_iconst (v := (3 : Int32)) C.1.1 C.1.2.1 dL_law_1112 (by decide) ?_
      refine lv_iadd C.1.1 C.1.2.1 dL_law_1113 ?_
      refine tr_sld C hX hbl hbA hS dL_law_1114 hw (fun x_1114 hw => ?_)
      refine tr_aload_n (k := 0) (x := (some b)) C hl 4 rfl dL_law_1115 ?_
      refine tr_iload (x := v4) C hl 3 rfl dL_law_1116 ?_
      refine lv_iconst (v := (4 : Int32)) C.1.1 C.1.2.1 dL_law_1118 (by decide) ?_
      refine lv_iadd C.1.1 C.1.2.1 dL_law_1119 ?_
      refine tr_sld C hX hbl hbA hS dL_law_1120 hw (fun x_1120 hw => ?_)
      refine tr_aload_n (k := 0) (x := (some b)) C hl 4 rfl dL_law_1121 ?_
      refine tr_iload (x := v4) C hl 3 rfl dL_law_1122 ?_
      refine lv_iconst (v := (5 : Int32)) C.1.1 C.1.2.1 dL_law_1124 (by decide) ?_
      refine lv_iadd C.1.1 C.1.2.1 dL_law_1125 ?_
      refine tr_sld C hX hbl hbA hS dL_law_1126 hw (fun x_1126 hw => ?_)
      refine lv_if_eq (tgt := 1134) C.1.1 C.1.2.1 dL_law_1127 (by decide) (fun hc => ?_) (fun hc => ?_)
      · have hw := hw.1 hc
        refine lv_iconst (v := (0 : Int32)) C.1.1 C.1.2.1 dL_law_1134 (by decide) ?_
        exact s_L_law_1135 C hr hX hbl hbA hA2 hcN hll k27 hk27 nc ns v1 v2 v3 v4 v1 x_1102 x_1108 x_1114 x_1120 ((0 : Int32)) _ _ _ _ (show nc ≤ 646169 ∧ ns ≤ 7157597 by omega) hW hS (tl_sub hl [0, 1, 2, 3, 4] rfl) hw
      · have hw := hw.2 hc
        refine lv_iconst (v := (1 : Int32)) C.1.1 C.1.2.1 dL_law_1130 (by decide) ?_
        refine lv_goto (tgt := 1135) C.1.1 C.1.2.1 dL_law_1131 (by decide) ?_
        exact s_L_law_1135 C hr hX hbl hbA hA2 hcN hll k27 hk27 nc ns v1 v2 v3 v4 v1 x_1102 x_1108 x_1114 x_1120 ((1 : Int32)) _ _ _ _ (show nc ≤ 646169 ∧ ns ≤ 7157597 by omega) hW hS (tl_sub hl [0, 1, 2, 3, 4] rfl) hw
    have hw := hw.2
    by_cases hc22 : (x_40 &&& (63 : Int32)) = (22 : Int32)
    · have hw := hw.1 hc22
      refine lv_tableIn (off := 1144) (tgt := 1188) C.1.1 C.1.2.1 dL_law_44 (by rw [hc22]; decide) (by rw [hc22]; decide) (by rw [hc22]; rfl) (by decide) ?_
      refine tr_aload_n (k := 1) (x := v1) C hl 0 rfl dL_law_1188 ?_
      refine tr_aload_n (k := 0) (x := (some b)) C hl 4 rfl dL_law_1189 ?_
      refine tr_iload (x := v4) C hl 3 rfl dL_law_1190 ?_
      refine lv_iconst (v := (1 : Int32)) C.1.1 C.1.2.1 dL_law_1192 (by decide) ?_
      refine lv_iadd C.1.1 C.1.2.1 dL_law_1193 ?_
      refine tr_sld C hX hbl hbA hS dL_law_1194 hw (fun x_1194 hw => ?_)
      refine tr_aload_n (k := 0) (x := (some b)) C hl 4 rfl dL_law_1195 ?_
      refine tr_iload (x := v4) C hl 3 rfl dL_law_1196 ?_
      refine lv_iconst (v := (2 : Int32)) C.1.1 C.1.2.1 dL_law_1198 (by decide) ?_
      refine lv_iadd C.1.1 C.1.2.1 dL_law_1199 ?_
      refine tr_sld C hX hbl hbA hS dL_law_1200 hw (fun x_1200 hw => ?_)
      refine tr_aload_n (k := 0) (x := (some b)) C hl 4 rfl dL_law_1201 ?_
      refine tr_iload (x := v4) C hl 3 rfl dL_law_1202 ?_
      refine lv_iconst (v := (3 : Int32)) C.1.1 C.1.2.1 dL_law_1204 (by decide) ?_
      refine lv_iadd C.1.1 C.1.2.1 dL_law_1205 ?_
      refine tr_sld C hX hbl hbA hS dL_law_1206 hw (fun x_1206 hw => ?_)
      refine tr_aload_n (k := 3) (x := v3) C hl 2 rfl dL_law_1207 ?_
      have hq32 := hw.1
      have hw := hw.2
      refine tx_backNI (tx_runSX (As := [va_rf v1, .int x_1194, .int x_1200, .int x_1206, va_rf v3]) C hl.1 (c_L_replaceAll l hll K _ v1 x_1194 x_1200 x_1206 v3) (vx_cwSW 5 C.1.2.2.2.2 (gi_SX (zm kw_836) (zm kw_837) (zm kw_680) (zm kw_835)) rfl rfl rfl (by decide +kernel) ⟨(Nat.le_of_ble_eq_true rfl), (Nat.le_of_ble_eq_true rfl)⟩) rfl dL_law_1208 ⟨hq32.1, hq32.2⟩ [] rfl (Nat.le_of_ble_eq_true rfl) rfl hW hS hw) hS (fun x_1208 G_1208 H locs hw hW hS => ?_)
      refine tr_istore (x := x_1208) C hl [(5, .inl x_1208), (1, .inr (.inr v1)), (2, .inr (.inr v2)), (3, .inr (.inr v3)), (4, .inl v4), (0, .inr (.inr (some b)))] (by decide) rfl dL_law_1211 (fun ls hl => ?_)
      refine tr_aload_n (k := 2) (x := v2) C hl 2 rfl dL_law_1213 ?_
      refine tr_aload_n (k := 0) (x := (some b)) C hl 5 rfl dL_law_1214 ?_
      refine tr_iload (x := v4) C hl 4 rfl dL_law_1215 ?_
      refine lv_iconst (v := (1 : Int32)) C.1.1 C.1.2.1 dL_law_1217 (by decide) ?_
      refine lv_iadd C.1.1 C.1.2.1 dL_law_1218 ?_
      refine tr_sld C hX hbl hbA hS dL_law_1219 hw (fun x_1219 hw => ?_)
      refine tr_aload_n (k := 0) (x := (some b)) C hl 5 rfl dL_law_1220 ?_
      refine tr_iload (x := v4) C hl 4 rfl dL_law_1221 ?_
      refine lv_iconst (v := (2 : Int32)) C.1.1 C.1.2.1 dL_law_1223 (by decide) ?_
      refine lv_iadd C.1.1 C.1.2.1 dL_law_1224 ?_
      refine tr_sld C hX hbl hbA hS dL_law_1225 hw (fun x_1225 hw => ?_)
      refine tr_aload_n (k := 0) (x := (some b)) C hl 5 rfl dL_law_1226 ?_
      refine tr_iload (x := v4) C hl 4 rfl dL_law_1227 ?_
      refine lv_iconst (v := (3 : Int32)) C.1.1 C.1.2.1 dL_law_1229 (by decide) ?_
      refine lv_iadd C.1.1 C.1.2.1 dL_law_1230 ?_
      refine tr_sld C hX hbl hbA hS dL_law_1231 hw (fun x_1231 hw => ?_)
      refine tr_backI (tr_runV (r := v2) (As := [.int x_1219, .int x_1225, .int x_1231]) C hl.1 (c_X3_replaceAll l hll K _ v2 x_1219 x_1225 x_1231) (cwV 3 C.1.2.2.2.2 (gi_V (zm kw_839) (zm kw_840) (zm kw_841) (zm kw_155) (zm kw_838)) rfl rfl rfl (by decide +kernel) ⟨(Nat.le_of_ble_eq_true rfl), (Nat.le_of_ble_eq_true rfl)⟩) rfl rfl dL_law_1232 ⟨(show (nc + 3) + 0 ≤ 646169 by omega), (show (ns + 18) + 0 ≤ 7157597 by omega)⟩ [] rfl (Nat.le_of_ble_eq_true rfl) rfl hW hS hw) hS (fun x_1232 G_1232 H locs hw hW hS => ?_)
      refine tr_istore (x := x_1232) C hl [(6, .inl x_1232), (5, .inl x_1208), (1, .inr (.inr v1)), (2, .inr (.inr v2)), (3, .inr (.inr v3)), (4, .inl v4), (0, .inr (.inr (some b)))] (by decide) rfl dL_law_1235 (fun ls hl => ?_)
      refine lv_goto (tgt := 2056) C.1.1 C.1.2.1 dL_law_1237 (by decide) ?_
      exact s_L_law_2056 C hr hX hbl hbA hA2 hcN hll k27 hk27 ((nc + 3)) ((ns + 18)) v1 v2 v3 v4 _ _ _ _ (show (nc + 3) ≤ 646169 ∧ (ns + 18) ≤ 7157597 by omega) hW hS (tl_sub hl [2, 3, 4, 5, 6] rfl) hw
    have hw := hw.2
    by_cases hc23 : (x_40 &&& (63 : Int32)) = (23 : Int32)
    · have hw := hw.1 hc23
      refine lv_tableIn (off := 1196) (tgt := 1240) C.1.1 C.1.2.1 dL_law_44 (by rw [hc23]; decide) (by rw [hc23]; decide) (by rw [hc23]; rfl) (by decide) ?_
      refine tr_aload_n (k := 1) (x := v1) C hl 0 rfl dL_law_1240 ?_
      refine tr_aload_n (k := 0) (x := (some b)) C hl 4 rfl dL_law_1241 ?_
      refine tr_iload (x := v4) C hl 3 rfl dL_law_1242 ?_
      refine lv_iconst (v := (1 : Int32)) C.1.1 C.1.2.1 dL_law_1244 (by decide) ?_
      refine lv_iadd C.1.1 C.1.2.1 dL_law_1245 ?_
      refine tr_sld C hX hbl hbA hS dL_law_1246 hw (fun x_1246 hw => ?_)
      refine tr_aload_n (k := 0) (x := (some b)) C hl 4 rfl dL_law_1247 ?_
      refine tr_iload (x := v4) C hl 3 rfl dL_law_1248 ?_
      refine lv_iconst (v := (2 : Int32)) C.1.1 C.1.2.1 dL_law_1250 (by decide) ?_
      refine lv_iadd C.1.1 C.1.2.1 dL_law_1251 ?_
      refine tr_sld C hX hbl hbA hS dL_law_1252 hw (fun x_1252 hw => ?_)
      refine tr_aload_n (k := 0) (x := (some b)) C hl 4 rfl dL_law_1253 ?_
      refine tr_iload (x := v4) C hl 3 rfl dL_law_1254 ?_
      refine lv_iconst (v := (3 : Int32)) C.1.1 C.1.2.1 dL_law_1256 (by decide) ?_
      refine lv_iadd C.1.1 C.1.2.1 dL_law_1257 ?_
      refine tr_sld C hX hbl hbA hS dL_law_1258 hw (fun x_1258 hw => ?_)
      refine tr_aload_n (k := 3) (x := v3) C hl 2 rfl dL_law_1259 ?_
      have hq33 := hw.1
      have hw := hw.2
      refine tx_backNI (tx_runSX (As := [va_rf v1, .int x_1246, .int x_1252, .int x_1258, va_rf v3]) C hl.1 (c_L_replaceOld l hll K _ v1 x_1246 x_1252 x_1258 v3) (vx_cwSW 5 C.1.2.2.2.2 (gi_SX (zm kw_843) (zm kw_844) (zm kw_680) (zm kw_842)) rfl rfl rfl (by decide +kernel) ⟨(Nat.le_of_ble_eq_true rfl), (Nat.le_of_ble_eq_true rfl)⟩) rfl dL_law_1260 ⟨hq33.1, hq33.2⟩ [] rfl (Nat.le_of_ble_eq_true rfl) rfl hW hS hw) hS (fun x_1260 G_1260 H locs hw hW hS => ?_)
      refine tr_istore (x := x_1260) C hl [(5, .inl x_1260), (1, .inr (.inr v1)), (2, .inr (.inr v2)), (3, .inr (.inr v3)), (4, .inl v4), (0, .inr (.inr (some b)))] (by decide) rfl dL_law_1263 (fun ls hl => ?_)
      refine tr_aload_n (k := 2) (x := v2) C hl 2 rfl dL_law_1265 ?_
      refine tr_aload_n (k := 0) (x := (some b)) C hl 5 rfl dL_law_1266 ?_
      refine tr_iload (x := v4) C hl 4 rfl dL_law_1267 ?_
      refine lv_iconst (v := (1 : Int32)) C.1.1 C.1.2.1 dL_law_1269 (by decide) ?_
      refine lv_iadd C.1.1 C.1.2.1 dL_law_1270 ?_
      refine tr_sld C hX hbl hbA hS dL_law_1271 hw (fun x_1271 hw => ?_)
      refine tr_aload_n (k := 0) (x := (some b)) C hl 5 rfl dL_law_1272 ?_
      refine tr_iload (x := v4) C hl 4 rfl dL_law_1273 ?_
      refine lv_iconst (v := (2 : Int32)) C.1.1 C.1.2.1 dL_law_1275 (by decide) ?_
      refine lv_iadd C.1.1 C.1.2.1 dL_law_1276 ?_
      refine tr_sld C hX hbl hbA hS dL_law_1277 hw (fun x_1277 hw => ?_)
      refine tr_aload_n (k := 0) (x := (some b)) C hl 5 rfl dL_law_1278 ?_
      refine tr_iload (x := v4) C hl 4 rfl dL_law_1279 ?_
      refine lv_iconst (v := (3 : Int32)) C.1.1 C.1.2.1 dL_law_1281 (by decide) ?_
      refine lv_iadd C.1.1 C.1.2.1 dL_law_1282 ?_
      refine tr_sld C hX hbl hbA hS dL_law_1283 hw (fun x_1283 hw => ?_)
      have hq34 := hw.1
      have hw := hw.2
      refine tr_backI (tr_runV (r := v2) (As := [.int x_1271, .int x_1277, .int x_1283]) C hl.1 (c_X3_replaceOld l hll K _ v2 x_1271 x_1277 x_1283) (cwV 3 C.1.2.2.2.2 (gi_V (zm kw_846) (zm kw_847) (zm kw_848) (zm kw_155) (zm kw_845)) rfl rfl rfl (by decide +kernel) ⟨(Nat.le_of_ble_eq_true rfl), (Nat.le_of_ble_eq_true rfl)⟩) rfl rfl dL_law_1284 ⟨hq34.1, hq34.2⟩ [] rfl (Nat.le_of_ble_eq_true rfl) rfl hW hS hw) hS (fun x_1284 G_1284 H locs hw hW hS => ?_)
      refine tr_istore (x := x_1284) C hl [(6, .inl x_1284), (5, .inl x_1260), (1, .inr (.inr v1)), (2, .inr (.inr v2)), (3, .inr (.inr v3)), (4, .inl v4), (0, .inr (.inr (some b)))] (by decide) rfl dL_law_1287 (fun ls hl => ?_)
      refine lv_goto (tgt := 2056) C.1.1 C.1.2.1 dL_law_1289 (by decide) ?_
      exact s_L_law_2056 C hr hX hbl hbA hA2 hcN hll k27 hk27 (((nc + 3) + 1)) (((ns + 18) + 12)) v1 v2 v3 v4 _ _ _ _ (show ((nc + 3) + 1) ≤ 646169 ∧ ((ns + 18) + 12) ≤ 7157597 by omega) hW hS (tl_sub hl [2, 3, 4, 5, 6] rfl) hw
    have hw := hw.2
    by_cases hc24 : (x_40 &&& (63 : Int32)) = (24 : Int32)
    · have hw := hw.1 hc24
      refine lv_tableIn (off := 1248) (tgt := 1292) C.1.1 C.1.2.1 dL_law_44 (by rw [hc24]; decide) (by rw [hc24]; decide) (by rw [hc24]; rfl) (by decide) ?_
      refine tr_aload_n (k := 1) (x := v1) C hl 0 rfl dL_law_1292 ?_
      refine tr_aload_n (k := 0) (x := (some b)) C hl 4 rfl dL_law_1293 ?_
      refine tr_iload (x := v4) C hl 3 rfl dL_law_1294 ?_
      refine lv_iconst (v := (1 : Int32)) C.1.1 C.1.2.1 dL_law_1296 (by decide) ?_
      refine lv_iadd C.1.1 C.1.2.1 dL_law_1297 ?_
      refine tr_sld C hX hbl hbA hS dL_law_1298 hw (fun x_1298 hw => ?_)
      refine tr_aload_n (k := 0) (x := (some b)) C hl 4 rfl dL_law_1299 ?_
      refine tr_iload (x := v4) C hl 3 rfl dL_law_1300 ?_
      refine lv_iconst (v := (2 : Int32)) C.1.1 C.1.2.1 dL_law_1302 (by decide) ?_
      refine lv_iadd C.1.1 C.1.2.1 dL_law_1303 ?_
      refine tr_sld C hX hbl hbA hS dL_law_1304 hw (fun x_1304 hw => ?_)
      refine tr_aload_n (k := 3) (x := v3) C hl 2 rfl dL_law_1305 ?_
      have hq35 := hw.1
      have hw := hw.2
      refine tx_backNI (tx_runSX (As := [va_rf v1, .int x_1298, .int x_1304, va_rf v3]) C hl.1 (c_L_fill l hll K _ v1 x_1298 x_1304 v3) (vx_cwSW 4 C.1.2.2.2.2 (gi_SX (zm kw_850) (zm kw_851) (zm kw_680) (zm kw_849)) rfl rfl rfl (by decide +kernel) ⟨(Nat.le_of_ble_eq_true rfl), (Nat.le_of_ble_eq_true rfl)⟩) rfl dL_law_1306 ⟨hq35.1, hq35.2⟩ [] rfl (Nat.le_of_ble_eq_true rfl) rfl hW hS hw) hS (fun x_1306 G_1306 H locs hw hW hS => ?_)
      refine tr_istore (x := x_1306) C hl [(5, .inl x_1306), (1, .inr (.inr v1)), (2, .inr (.inr v2)), (3, .inr (.inr v3)), (4, .inl v4), (0, .inr (.inr (some b)))] (by decide) rfl dL_law_1309 (fun ls hl => ?_)
      refine tr_aload_n (k := 2) (x := v2) C hl 2 rfl dL_law_1311 ?_
      refine tr_aload_n (k := 0) (x := (some b)) C hl 5 rfl dL_law_1312 ?_
      refine tr_iload (x := v4) C hl 4 rfl dL_law_1313 ?_
      refine lv_iconst (v := (1 : Int32)) C.1.1 C.1.2.1 dL_law_1315 (by decide) ?_
      refine lv_iadd C.1.1 C.1.2.1 dL_law_1316 ?_
      refine tr_sld C hX hbl hbA hS dL_law_1317 hw (fun x_1317 hw => ?_)
      refine tr_aload_n (k := 0) (x := (some b)) C hl 5 rfl dL_law_1318 ?_
      refine tr_iload (x := v4) C hl 4 rfl dL_law_1319 ?_
      refine lv_iconst (v := (2 : Int32)) C.1.1 C.1.2.1 dL_law_1321 (by decide) ?_
      refine lv_iadd C.1.1 C.1.2.1 dL_law_1322 ?_
      refine tr_sld C hX hbl hbA hS dL_law_1323 hw (fun x_1323 hw => ?_)
      refine tr_backI (tr_runV (r := v2) (As := [.int x_1317, .int x_1323]) C hl.1 (c_X3_fill l hll K _ v2 x_1317 x_1323) (cwV 2 C.1.2.2.2.2 (gi_V (zm kw_853) (zm kw_854) (zm kw_855) (zm kw_155) (zm kw_852)) rfl rfl rfl (by decide +kernel) ⟨(Nat.le_of_ble_eq_true rfl), (Nat.le_of_ble_eq_true rfl)⟩) rfl rfl dL_law_1324 ⟨(show (nc + 2) + 0 ≤ 646169 by omega), (show (ns + 12) + 0 ≤ 7157597 by omega)⟩ [] rfl (Nat.le_of_ble_eq_true rfl) rfl hW hS hw) hS (fun x_1324 G_1324 H locs hw hW hS => ?_)
      refine tr_istore (x := x_1324) C hl [(6, .inl x_1324), (5, .inl x_1306), (1, .inr (.inr v1)), (2, .inr (.inr v2)), (3, .inr (.inr v3)), (4, .inl v4), (0, .inr (.inr (some b)))] (by decide) rfl dL_law_1327 (fun ls hl => ?_)
      refine lv_goto (tgt := 2056) C.1.1 C.1.2.1 dL_law_1329 (by decide) ?_
      exact s_L_law_2056 C hr hX hbl hbA hA2 hcN hll k27 hk27 ((nc + 2)) ((ns + 12)) v1 v2 v3 v4 _ _ _ _ (show (nc + 2) ≤ 646169 ∧ (ns + 12) ≤ 7157597 by omega) hW hS (tl_sub hl [2, 3, 4, 5, 6] rfl) hw
    have hw := hw.2
    by_cases hc25 : (x_40 &&& (63 : Int32)) = (25 : Int32)
    · have hw := hw.1 hc25
      refine lv_tableIn (off := 1288) (tgt := 1332) C.1.1 C.1.2.1 dL_law_44 (by rw [hc25]; decide) (by rw [hc25]; decide) (by rw [hc25]; rfl) (by decide) ?_
      refine tr_aload_n (k := 1) (x := v1) C hl 0 rfl dL_law_1332 ?_
      refine tr_aload_n (k := 0) (x := (some b)) C hl 4 rfl dL_law_1333 ?_
      refine tr_iload (x := v4) C hl 3 rfl dL_law_1334 ?_
      refine lv_iconst (v := (1 : Int32)) C.1.1 C.1.2.1 dL_law_1336 (by decide) ?_
      refine lv_iadd C.1.1 C.1.2.1 dL_law_1337 ?_
      refine tr_sld C hX hbl hbA hS dL_law_1338 hw (fun x_1338 hw => ?_)
      refine tr_aload_n (k := 0) (x := (some b)) C hl 4 rfl dL_law_1339 ?_
      refine tr_iload (x := v4) C hl 3 rfl dL_law_1340 ?_
      refine lv_iconst (v := (2 : Int32)) C.1.1 C.1.2.1 dL_law_1342 (by decide) ?_
      refine lv_iadd C.1.1 C.1.2.1 dL_law_1343 ?_
      refine tr_sld C hX hbl hbA hS dL_law_1344 hw (fun x_1344 hw => ?_)
      refine lv_if_eq (tgt := 1352) C.1.1 C.1.2.1 dL_law_1345 (by decide) (fun hc => ?_) (fun hc => ?_)
      · have hw := hw.1 hc
        refine lv_iconst (v := (0 : Int32)) C.1.1 C.1.2.1 dL_law_1352 (by decide) ?_
        exact s_L_law_1353 C hr hX hbl hbA hA2 hcN hll k27 hk27 nc ns v1 v2 v3 v4 v1 x_1338 ((0 : Int32)) _ _ _ _ (show nc ≤ 646169 ∧ ns ≤ 7157597 by omega) hW hS (tl_sub hl [0, 1, 2, 3, 4] rfl) hw
      · have hw := hw.2 hc
        refine lv_iconst (v := (1 : Int32)) C.1.1 C.1.2.1 dL_law_1348 (by decide) ?_
        refine lv_goto (tgt := 1353) C.1.1 C.1.2.1 dL_law_1349 (by decide) ?_
        exact s_L_law_1353 C hr hX hbl hbA hA2 hcN hll k27 hk27 nc ns v1 v2 v3 v4 v1 x_1338 ((1 : Int32)) _ _ _ _ (show nc ≤ 646169 ∧ ns ≤ 7157597 by omega) hW hS (tl_sub hl [0, 1, 2, 3, 4] rfl) hw
    have hw := hw.2
    by_cases hc26 : (x_40 &&& (63 : Int32)) = (26 : Int32)
    · have hw := hw.1 hc26
      refine lv_tableIn (off := 1344) (tgt := 1388) C.1.1 C.1.2.1 dL_law_44 (by rw [hc26]; decide) (by rw [hc26]; decide) (by rw [hc26]; rfl) (by decide) ?_
      refine tr_aload_n (k := 1) (x := v1) C hl 0 rfl dL_law_1388 ?_
      refine tr_aload_n (k := 0) (x := (some b)) C hl 4 rfl dL_law_1389 ?_
      refine tr_iload (x := v4) C hl 3 rfl dL_law_1390 ?_
      refine lv_iconst (v := (1 : Int32)) C.1.1 C.1.2.1 dL_law_1392 (by decide) ?_
      refine lv_iadd C.1.1 C.1.2.1 dL_law_1393 ?_
      refine tr_sld C hX hbl hbA hS dL_law_1394 hw (fun x_1394 hw => ?_)
      refine tr_aload_n (k := 3) (x := v3) C hl 2 rfl dL_law_1395 ?_
      have hq36 := hw.1
      have hw := hw.2
      refine tx_backNI (tx_runSX (As := [va_rf v1, .int x_1394, va_rf v3]) C hl.1 (c_L_reverse l hll K _ v1 x_1394 v3) (vx_cwSW 3 C.1.2.2.2.2 (gi_SX (zm kw_857) (zm kw_858) (zm kw_680) (zm kw_856)) rfl rfl rfl (by decide +kernel) ⟨(Nat.le_of_ble_eq_true rfl), (Nat.le_of_ble_eq_true rfl)⟩) rfl dL_law_1396 ⟨hq36.1, hq36.2⟩ [] rfl (Nat.le_of_ble_eq_true rfl) rfl hW hS hw) hS (fun x_1396 G_1396 H locs hw hW hS => ?_)
      refine tr_istore (x := x_1396) C hl [(5, .inl x_1396), (1, .inr (.inr v1)), (2, .inr (.inr v2)), (3, .inr (.inr v3)), (4, .inl v4), (0, .inr (.inr (some b)))] (by decide) rfl dL_law_1399 (fun ls hl => ?_)
      refine tr_aload_n (k := 2) (x := v2) C hl 2 rfl dL_law_1401 ?_
      refine tr_aload_n (k := 0) (x := (some b)) C hl 5 rfl dL_law_1402 ?_
      refine tr_iload (x := v4) C hl 4 rfl dL_law_1403 ?_
      refine lv_iconst (v := (1 : Int32)) C.1.1 C.1.2.1 dL_law_1405 (by decide) ?_
      refine lv_iadd C.1.1 C.1.2.1 dL_law_1406 ?_
      refine tr_sld C hX hbl hbA hS dL_law_1407 hw (fun x_1407 hw => ?_)
      have hq37 := hw.1
      have hw := hw.2
      refine tr_backI (tr_runV (r := v2) (As := [.int x_1407]) C hl.1 (c_X3_reverse l hll K _ v2 x_1407) (cwV 1 C.1.2.2.2.2 (gi_V (zm kw_860) (zm kw_861) (zm kw_862) (zm kw_155) (zm kw_859)) rfl rfl rfl (by decide +kernel) ⟨(Nat.le_of_ble_eq_true rfl), (Nat.le_of_ble_eq_true rfl)⟩) rfl rfl dL_law_1408 ⟨hq37.1, hq37.2⟩ [] rfl (Nat.le_of_ble_eq_true rfl) rfl hW hS hw) hS (fun x_1408 G_1408 H locs hw hW hS => ?_)
      refine tr_istore (x := x_1408) C hl [(6, .inl x_1408), (5, .inl x_1396), (1, .inr (.inr v1)), (2, .inr (.inr v2)), (3, .inr (.inr v3)), (4, .inl v4), (0, .inr (.inr (some b)))] (by decide) rfl dL_law_1411 (fun ls hl => ?_)
      refine lv_goto (tgt := 2056) C.1.1 C.1.2.1 dL_law_1413 (by decide) ?_
      exact s_L_law_2056 C hr hX hbl hbA hA2 hcN hll k27 hk27 (((nc + 1) + 1)) (((ns + 6) + 12)) v1 v2 v3 v4 _ _ _ _ (show ((nc + 1) + 1) ≤ 646169 ∧ ((ns + 6) + 12) ≤ 7157597 by omega) hW hS (tl_sub hl [2, 3, 4, 5, 6] rfl) hw
    have hw := hw.2
    by_cases hc27 : (x_40 &&& (63 : Int32)) = (27 : Int32)
    · have hw := hw.1 hc27
      refine lv_tableIn (off := 1372) (tgt := 1416) C.1.1 C.1.2.1 dL_law_44 (by rw [hc27]; decide) (by rw [hc27]; decide) (by rw [hc27]; rfl) (by decide) ?_
      refine tr_aload_n (k := 1) (x := v1) C hl 0 rfl dL_law_1416 ?_
      refine tr_aload_n (k := 0) (x := (some b)) C hl 4 rfl dL_law_1417 ?_
      refine tr_iload (x := v4) C hl 3 rfl dL_law_1418 ?_
      refine lv_iconst (v := (1 : Int32)) C.1.1 C.1.2.1 dL_law_1420 (by decide) ?_
      refine lv_iadd C.1.1 C.1.2.1 dL_law_1421 ?_
      refine tr_sld C hX hbl hbA hS dL_law_1422 hw (fun x_1422 hw => ?_)
      refine tr_aload_n (k := 0) (x := (some b)) C hl 4 rfl dL_law_1423 ?_
      refine tr_iload (x := v4) C hl 3 rfl dL_law_1424 ?_
      refine lv_iconst (v := (2 : Int32)) C.1.1 C.1.2.1 dL_law_1426 (by decide) ?_
      refine lv_iadd C.1.1 C.1.2.1 dL_law_1427 ?_
      refine tr_sld C hX hbl hbA hS dL_law_1428 hw (fun x_1428 hw => ?_)
      refine tr_aload_n (k := 3) (x := v3) C hl 2 rfl dL_law_1429 ?_
      have hq38 := hw.1
      have hw := hw.2
      refine tx_backNI (tx_runSX (As := [va_rf v1, .int x_1422, .int x_1428, va_rf v3]) C hl.1 (c_L_rotate l hll K _ v1 x_1422 x_1428 v3) (vx_cwSW 4 C.1.2.2.2.2 (gi_SX (zm kw_864) (zm kw_865) (zm kw_680) (zm kw_863)) rfl rfl rfl (by decide +kernel) ⟨(Nat.le_of_ble_eq_true rfl), (Nat.le_of_ble_eq_true rfl)⟩) rfl dL_law_1430 ⟨hq38.1, hq38.2⟩ [] rfl (Nat.le_of_ble_eq_true rfl) rfl hW hS hw) hS (fun x_1430 G_1430 H locs hw hW hS => ?_)
      refine tr_istore (x := x_1430) C hl [(5, .inl x_1430), (1, .inr (.inr v1)), (2, .inr (.inr v2)), (3, .inr (.inr v3)), (4, .inl v4), (0, .inr (.inr (some b)))] (by decide) rfl dL_law_1433 (fun ls hl => ?_)
      refine tr_aload_n (k := 2) (x := v2) C hl 2 rfl dL_law_1435 ?_
      refine tr_aload_n (k := 0) (x := (some b)) C hl 5 rfl dL_law_1436 ?_
      refine tr_iload (x := v4) C hl 4 rfl dL_law_1437 ?_
      refine lv_iconst (v := (1 : Int32)) C.1.1 C.1.2.1 dL_law_1439 (by decide) ?_
      refine lv_iadd C.1.1 C.1.2.1 dL_law_1440 ?_
      refine tr_sld C hX hbl hbA hS dL_law_1441 hw (fun x_1441 hw => ?_)
      refine tr_aload_n (k := 0) (x := (some b)) C hl 5 rfl dL_law_1442 ?_
      refine tr_iload (x := v4) C hl 4 rfl dL_law_1443 ?_
      refine lv_iconst (v := (2 : Int32)) C.1.1 C.1.2.1 dL_law_1445 (by decide) ?_
      refine lv_iadd C.1.1 C.1.2.1 dL_law_1446 ?_
      refine tr_sld C hX hbl hbA hS dL_law_1447 hw (fun x_1447 hw => ?_)
      have hq39 := hw.1
      have hw := hw.2
      refine tr_backI (tr_runV (r := v2) (As := [.int x_1441, .int x_1447]) C hl.1 (c_X3_rotate l hll K _ v2 x_1441 x_1447) (cwV 2 C.1.2.2.2.2 (gi_V (zm kw_867) (zm kw_868) (zm kw_869) (zm kw_155) (zm kw_866)) rfl rfl rfl (by decide +kernel) ⟨(Nat.le_of_ble_eq_true rfl), (Nat.le_of_ble_eq_true rfl)⟩) rfl rfl dL_law_1448 ⟨hq39.1, hq39.2⟩ [] rfl (Nat.le_of_ble_eq_true rfl) rfl hW hS hw) hS (fun x_1448 G_1448 H locs hw hW hS => ?_)
      refine tr_istore (x := x_1448) C hl [(6, .inl x_1448), (5, .inl x_1430), (1, .inr (.inr v1)), (2, .inr (.inr v2)), (3, .inr (.inr v3)), (4, .inl v4), (0, .inr (.inr (some b)))] (by decide) rfl dL_law_1451 (fun ls hl => ?_)
      refine lv_goto (tgt := 2056) C.1.1 C.1.2.1 dL_law_1453 (by decide) ?_
      exact s_L_law_2056 C hr hX hbl hbA hA2 hcN hll k27 hk27 (((nc + 2) + 1)) (((ns + 12) + 12)) v1 v2 v3 v4 _ _ _ _ (show ((nc + 2) + 1) ≤ 646169 ∧ ((ns + 12) + 12) ≤ 7157597 by omega) hW hS (tl_sub hl [2, 3, 4, 5, 6] rfl) hw
    have hw := hw.2
    by_cases hc28 : (x_40 &&& (63 : Int32)) = (28 : Int32)
    · have hw := hw.1 hc28
      refine lv_tableIn (off := 1412) (tgt := 1456) C.1.1 C.1.2.1 dL_law_44 (by rw [hc28]; decide) (by rw [hc28]; decide) (by rw [hc28]; rfl) (by decide) ?_
      refine tr_aload_n (k := 1) (x := v1) C hl 0 rfl dL_law_1456 ?_
      refine tr_aload_n (k := 0) (x := (some b)) C hl 4 rfl dL_law_1457 ?_
      refine tr_iload (x := v4) C hl 3 rfl dL_law_1458 ?_
      refine lv_iconst (v := (1 : Int32)) C.1.1 C.1.2.1 dL_law_1460 (by decide) ?_
      refine lv_iadd C.1.1 C.1.2.1 dL_law_1461 ?_
      refine tr_sld C hX hbl hbA hS dL_law_1462 hw (fun x_1462 hw => ?_)
      refine tr_aload_n (k := 0) (x := (some b)) C hl 4 rfl dL_law_1463 ?_
      refine tr_iload (x := v4) C hl 3 rfl dL_law_1464 ?_
      refine lv_iconst (v := (2 : Int32)) C.1.1 C.1.2.1 dL_law_1466 (by decide) ?_
      refine lv_iadd C.1.1 C.1.2.1 dL_law_1467 ?_
      refine tr_sld C hX hbl hbA hS dL_law_1468 hw (fun x_1468 hw => ?_)
      refine tr_aload_n (k := 0) (x := (some b)) C hl 4 rfl dL_law_1469 ?_
      refine tr_iload (x := v4) C hl 3 rfl dL_law_1470 ?_
      refine lv_iconst (v := (3 : Int32)) C.1.1 C.1.2.1 dL_law_1472 (by decide) ?_
      refine lv_iadd C.1.1 C.1.2.1 dL_law_1473 ?_
      refine tr_sld C hX hbl hbA hS dL_law_1474 hw (fun x_1474 hw => ?_)
      refine tr_aload_n (k := 3) (x := v3) C hl 2 rfl dL_law_1475 ?_
      have hq40 := hw.1
      have hw := hw.2
      refine tx_backNI (tx_runSX (As := [va_rf v1, .int x_1462, .int x_1468, .int x_1474, va_rf v3]) C hl.1 (c_L_swap l hll K _ v1 x_1462 x_1468 x_1474 v3) (vx_cwSW 5 C.1.2.2.2.2 (gi_SX (zm kw_871) (zm kw_872) (zm kw_680) (zm kw_870)) rfl rfl rfl (by decide +kernel) ⟨(Nat.le_of_ble_eq_true rfl), (Nat.le_of_ble_eq_true rfl)⟩) rfl dL_law_1476 ⟨hq40.1, hq40.2⟩ [] rfl (Nat.le_of_ble_eq_true rfl) rfl hW hS hw) hS (fun x_1476 G_1476 H locs hw hW hS => ?_)
      refine tr_istore (x := x_1476) C hl [(5, .inl x_1476), (1, .inr (.inr v1)), (2, .inr (.inr v2)), (3, .inr (.inr v3)), (4, .inl v4), (0, .inr (.inr (some b)))] (by decide) rfl dL_law_1479 (fun ls hl => ?_)
      refine tr_aload_n (k := 2) (x := v2) C hl 2 rfl dL_law_1481 ?_
      refine tr_aload_n (k := 0) (x := (some b)) C hl 5 rfl dL_law_1482 ?_
      refine tr_iload (x := v4) C hl 4 rfl dL_law_1483 ?_
      refine lv_iconst (v := (1 : Int32)) C.1.1 C.1.2.1 dL_law_1485 (by decide) ?_
      refine lv_iadd C.1.1 C.1.2.1 dL_law_1486 ?_
      refine tr_sld C hX hbl hbA hS dL_law_1487 hw (fun x_1487 hw => ?_)
      refine tr_aload_n (k := 0) (x := (some b)) C hl 5 rfl dL_law_1488 ?_
      refine tr_iload (x := v4) C hl 4 rfl dL_law_1489 ?_
      refine lv_iconst (v := (2 : Int32)) C.1.1 C.1.2.1 dL_law_1491 (by decide) ?_
      refine lv_iadd C.1.1 C.1.2.1 dL_law_1492 ?_
      refine tr_sld C hX hbl hbA hS dL_law_1493 hw (fun x_1493 hw => ?_)
      refine tr_aload_n (k := 0) (x := (some b)) C hl 5 rfl dL_law_1494 ?_
      refine tr_iload (x := v4) C hl 4 rfl dL_law_1495 ?_
      refine lv_iconst (v := (3 : Int32)) C.1.1 C.1.2.1 dL_law_1497 (by decide) ?_
      refine lv_iadd C.1.1 C.1.2.1 dL_law_1498 ?_
      refine tr_sld C hX hbl hbA hS dL_law_1499 hw (fun x_1499 hw => ?_)
      refine tr_backI (tr_runV (r := v2) (As := [.int x_1487, .int x_1493, .int x_1499]) C hl.1 (c_X3_swap l hll K _ v2 x_1487 x_1493 x_1499) (cwV 3 C.1.2.2.2.2 (gi_V (zm kw_874) (zm kw_875) (zm kw_876) (zm kw_155) (zm kw_873)) rfl rfl rfl (by decide +kernel) ⟨(Nat.le_of_ble_eq_true rfl), (Nat.le_of_ble_eq_true rfl)⟩) rfl rfl dL_law_1500 ⟨(show (nc + 3) + 0 ≤ 646169 by omega), (show (ns + 18) + 0 ≤ 7157597 by omega)⟩ [] rfl (Nat.le_of_ble_eq_true rfl) rfl hW hS hw) hS (fun x_1500 G_1500 H locs hw hW hS => ?_)
      refine tr_istore (x := x_1500) C hl [(6, .inl x_1500), (5, .inl x_1476), (1, .inr (.inr v1)), (2, .inr (.inr v2)), (3, .inr (.inr v3)), (4, .inl v4), (0, .inr (.inr (some b)))] (by decide) rfl dL_law_1503 (fun ls hl => ?_)
      refine lv_goto (tgt := 2056) C.1.1 C.1.2.1 dL_law_1505 (by decide) ?_
      exact s_L_law_2056 C hr hX hbl hbA hA2 hcN hll k27 hk27 ((nc + 3)) ((ns + 18)) v1 v2 v3 v4 _ _ _ _ (show (nc + 3) ≤ 646169 ∧ (ns + 18) ≤ 7157597 by omega) hW hS (tl_sub hl [2, 3, 4, 5, 6] rfl) hw
    have hw := hw.2
    by_cases hc29 : (x_40 &&& (63 : Int32)) = (29 : Int32)
    · have hw := hw.1 hc29
      refine lv_tableIn (off := 1464) (tgt := 1508) C.1.1 C.1.2.1 dL_law_44 (by rw [hc29]; decide) (by rw [hc29]; decide) (by rw [hc29]; rfl) (by decide) ?_
      refine tr_aload_n (k := 1) (x := v1) C hl 0 rfl dL_law_1508 ?_
      refine tr_aload_n (k := 0) (x := (some b)) C hl 4 rfl dL_law_1509 ?_
      refine tr_iload (x := v4) C hl 3 rfl dL_law_1510 ?_
      refine lv_iconst (v := (1 : Int32)) C.1.1 C.1.2.1 dL_law_1512 (by decide) ?_
      refine lv_iadd C.1.1 C.1.2.1 dL_law_1513 ?_
      refine tr_sld C hX hbl hbA hS dL_law_1514 hw (fun x_1514 hw => ?_)
      refine tr_aload_n (k := 0) (x := (some b)) C hl 4 rfl dL_law_1515 ?_
      refine tr_iload (x := v4) C hl 3 rfl dL_law_1516 ?_
      refine lv_iconst (v := (2 : Int32)) C.1.1 C.1.2.1 dL_law_1518 (by decide) ?_
      refine lv_iadd C.1.1 C.1.2.1 dL_law_1519 ?_
      refine tr_sld C hX hbl hbA hS dL_law_1520 hw (fun x_1520 hw => ?_)
      refine tr_aload_n (k := 3) (x := v3) C hl 2 rfl dL_law_1521 ?_
      have hq41 := hw.1
      have hw := hw.2
      refine tx_backNI (tx_runSX (As := [va_rf v1, .int x_1514, .int x_1520, va_rf v3]) C hl.1 (c_L_add l hll K _ v1 x_1514 x_1520 v3) (vx_cwSW 4 C.1.2.2.2.2 (gi_SX (zm kw_878) (zm kw_879) (zm kw_680) (zm kw_877)) rfl rfl rfl (by decide +kernel) ⟨(Nat.le_of_ble_eq_true rfl), (Nat.le_of_ble_eq_true rfl)⟩) rfl dL_law_1522 ⟨hq41.1, hq41.2⟩ [] rfl (Nat.le_of_ble_eq_true rfl) rfl hW hS hw) hS (fun x_1522 G_1522 H locs hw hW hS => ?_)
      refine tr_istore (x := x_1522) C hl [(5, .inl x_1522), (1, .inr (.inr v1)), (2, .inr (.inr v2)), (3, .inr (.inr v3)), (4, .inl v4), (0, .inr (.inr (some b)))] (by decide) rfl dL_law_1525 (fun ls hl => ?_)
      refine tr_aload_n (k := 2) (x := v2) C hl 2 rfl dL_law_1527 ?_
      refine tr_aload_n (k := 0) (x := (some b)) C hl 5 rfl dL_law_1528 ?_
      refine tr_iload (x := v4) C hl 4 rfl dL_law_1529 ?_
      refine lv_iconst (v := (1 : Int32)) C.1.1 C.1.2.1 dL_law_1531 (by decide) ?_
      refine lv_iadd C.1.1 C.1.2.1 dL_law_1532 ?_
      refine tr_sld C hX hbl hbA hS dL_law_1533 hw (fun x_1533 hw => ?_)
      refine tr_aload_n (k := 0) (x := (some b)) C hl 5 rfl dL_law_1534 ?_
      refine tr_iload (x := v4) C hl 4 rfl dL_law_1535 ?_
      refine lv_iconst (v := (2 : Int32)) C.1.1 C.1.2.1 dL_law_1537 (by decide) ?_
      refine lv_iadd C.1.1 C.1.2.1 dL_law_1538 ?_
      refine tr_sld C hX hbl hbA hS dL_law_1539 hw (fun x_1539 hw => ?_)
      refine tr_backI (tr_runV (r := v2) (As := [.int x_1533, .int x_1539]) C hl.1 (c_X3_add l hll K _ v2 x_1533 x_1539) (cwV 2 C.1.2.2.2.2 (gi_V (zm kw_881) (zm kw_882) (zm kw_883) (zm kw_155) (zm kw_880)) rfl rfl rfl (by decide +kernel) ⟨(Nat.le_of_ble_eq_true rfl), (Nat.le_of_ble_eq_true rfl)⟩) rfl rfl dL_law_1540 ⟨(show (nc + 2) + 0 ≤ 646169 by omega), (show (ns + 12) + 0 ≤ 7157597 by omega)⟩ [] rfl (Nat.le_of_ble_eq_true rfl) rfl hW hS hw) hS (fun x_1540 G_1540 H locs hw hW hS => ?_)
      refine tr_istore (x := x_1540) C hl [(6, .inl x_1540), (5, .inl x_1522), (1, .inr (.inr v1)), (2, .inr (.inr v2)), (3, .inr (.inr v3)), (4, .inl v4), (0, .inr (.inr (some b)))] (by decide) rfl dL_law_1543 (fun ls hl => ?_)
      refine lv_goto (tgt := 2056) C.1.1 C.1.2.1 dL_law_1545 (by decide) ?_
      exact s_L_law_2056 C hr hX hbl hbA hA2 hcN hll k27 hk27 ((nc + 2)) ((ns + 12)) v1 v2 v3 v4 _ _ _ _ (show (nc + 2) ≤ 646169 ∧ (ns + 12) ≤ 7157597 by omega) hW hS (tl_sub hl [2, 3, 4, 5, 6] rfl) hw
    have hw := hw.2
    by_cases hc30 : (x_40 &&& (63 : Int32)) = (30 : Int32)
    · have hw := hw.1 hc30
      refine lv_tableIn (off := 1504) (tgt := 1548) C.1.1 C.1.2.1 dL_law_44 (by rw [hc30]; decide) (by rw [hc30]; decide) (by rw [hc30]; rfl) (by decide) ?_
      refine tr_aload_n (k := 1) (x := v1) C hl 0 rfl dL_law_1548 ?_
      refine tr_aload_n (k := 0) (x := (some b)) C hl 4 rfl dL_law_1549 ?_
      refine tr_iload (x := v4) C hl 3 rfl dL_law_1550 ?_
      refine lv_iconst (v := (1 : Int32)) C.1.1 C.1.2.1 dL_law_1552 (by decide) ?_
      refine lv_iadd C.1.1 C.1.2.1 dL_law_1553 ?_
      refine tr_sld C hX hbl hbA hS dL_law_1554 hw (fun x_1554 hw => ?_)
      refine tr_aload_n (k := 0) (x := (some b)) C hl 4 rfl dL_law_1555 ?_
      refine tr_iload (x := v4) C hl 3 rfl dL_law_1556 ?_
      refine lv_iconst (v := (2 : Int32)) C.1.1 C.1.2.1 dL_law_1558 (by decide) ?_
      refine lv_iadd C.1.1 C.1.2.1 dL_law_1559 ?_
      refine tr_sld C hX hbl hbA hS dL_law_1560 hw (fun x_1560 hw => ?_)
      refine tr_aload_n (k := 0) (x := (some b)) C hl 4 rfl dL_law_1561 ?_
      refine tr_iload (x := v4) C hl 3 rfl dL_law_1562 ?_
      refine lv_iconst (v := (3 : Int32)) C.1.1 C.1.2.1 dL_law_1564 (by decide) ?_
      refine lv_iadd C.1.1 C.1.2.1 dL_law_1565 ?_
      refine tr_sld C hX hbl hbA hS dL_law_1566 hw (fun x_1566 hw => ?_)
      refine tr_aload_n (k := 3) (x := v3) C hl 2 rfl dL_law_1567 ?_
      have hq42 := hw.1
      have hw := hw.2
      refine tx_backNI (tx_runSX (As := [va_rf v1, .int x_1554, .int x_1560, .int x_1566, va_rf v3]) C hl.1 (c_L_addAt l hll K _ v1 x_1554 x_1560 x_1566 v3) (vx_cwSW 5 C.1.2.2.2.2 (gi_SX (zm kw_885) (zm kw_886) (zm kw_680) (zm kw_884)) rfl rfl rfl (by decide +kernel) ⟨(Nat.le_of_ble_eq_true rfl), (Nat.le_of_ble_eq_true rfl)⟩) rfl dL_law_1568 ⟨hq42.1, hq42.2⟩ [] rfl (Nat.le_of_ble_eq_true rfl) rfl hW hS hw) hS (fun x_1568 G_1568 H locs hw hW hS => ?_)
      refine tr_istore (x := x_1568) C hl [(5, .inl x_1568), (1, .inr (.inr v1)), (2, .inr (.inr v2)), (3, .inr (.inr v3)), (4, .inl v4), (0, .inr (.inr (some b)))] (by decide) rfl dL_law_1571 (fun ls hl => ?_)
      refine tr_aload_n (k := 2) (x := v2) C hl 2 rfl dL_law_1573 ?_
      refine tr_aload_n (k := 0) (x := (some b)) C hl 5 rfl dL_law_1574 ?_
      refine tr_iload (x := v4) C hl 4 rfl dL_law_1575 ?_
      refine lv_iconst (v := (1 : Int32)) C.1.1 C.1.2.1 dL_law_1577 (by decide) ?_
      refine lv_iadd C.1.1 C.1.2.1 dL_law_1578 ?_
      refine tr_sld C hX hbl hbA hS dL_law_1579 hw (fun x_1579 hw => ?_)
      refine tr_aload_n (k := 0) (x := (some b)) C hl 5 rfl dL_law_1580 ?_
      refine tr_iload (x := v4) C hl 4 rfl dL_law_1581 ?_
      refine lv_iconst (v := (2 : Int32)) C.1.1 C.1.2.1 dL_law_1583 (by decide) ?_
      refine lv_iadd C.1.1 C.1.2.1 dL_law_1584 ?_
      refine tr_sld C hX hbl hbA hS dL_law_1585 hw (fun x_1585 hw => ?_)
      refine tr_aload_n (k := 0) (x := (some b)) C hl 5 rfl dL_law_1586 ?_
      refine tr_iload (x := v4) C hl 4 rfl dL_law_1587 ?_
      refine lv_iconst (v := (3 : Int32)) C.1.1 C.1.2.1 dL_law_1589 (by decide) ?_
      refine lv_iadd C.1.1 C.1.2.1 dL_law_1590 ?_
      refine tr_sld C hX hbl hbA hS dL_law_1591 hw (fun x_1591 hw => ?_)
      refine tr_backI (tr_runV (r := v2) (As := [.int x_1579, .int x_1585, .int x_1591]) C hl.1 (c_X3_addAt l hll K _ v2 x_1579 x_1585 x_1591) (cwV 3 C.1.2.2.2.2 (gi_V (zm kw_888) (zm kw_889) (zm kw_890) (zm kw_155) (zm kw_887)) rfl rfl rfl (by decide +kernel) ⟨(Nat.le_of_ble_eq_true rfl), (Nat.le_of_ble_eq_true rfl)⟩) rfl rfl dL_law_1592 ⟨(show (nc + 3) + 0 ≤ 646169 by omega), (show (ns + 18) + 0 ≤ 7157597 by omega)⟩ [] rfl (Nat.le_of_ble_eq_true rfl) rfl hW hS hw) hS (fun x_1592 G_1592 H locs hw hW hS => ?_)
      refine tr_istore (x := x_1592) C hl [(6, .inl x_1592), (5, .inl x_1568), (1, .inr (.inr v1)), (2, .inr (.inr v2)), (3, .inr (.inr v3)), (4, .inl v4), (0, .inr (.inr (some b)))] (by decide) rfl dL_law_1595 (fun ls hl => ?_)
      refine lv_goto (tgt := 2056) C.1.1 C.1.2.1 dL_law_1597 (by decide) ?_
      exact s_L_law_2056 C hr hX hbl hbA hA2 hcN hll k27 hk27 ((nc + 3)) ((ns + 18)) v1 v2 v3 v4 _ _ _ _ (show (nc + 3) ≤ 646169 ∧ (ns + 18) ≤ 7157597 by omega) hW hS (tl_sub hl [2, 3, 4, 5, 6] rfl) hw
    have hw := hw.2
    by_cases hc31 : (x_40 &&& (63 : Int32)) = (31 : Int32)
    · have hw := hw.1 hc31
      refine lv_tableIn (off := 1556) (tgt := 1600) C.1.1 C.1.2.1 dL_law_44 (by rw [hc31]; decide) (by rw [hc31]; decide) (by rw [hc31]; rfl) (by decide) ?_
      refine tr_aload_n (k := 1) (x := v1) C hl 0 rfl dL_law_1600 ?_
      refine tr_aload_n (k := 0) (x := (some b)) C hl 4 rfl dL_law_1601 ?_
      refine tr_iload (x := v4) C hl 3 rfl dL_law_1602 ?_
      refine lv_iconst (v := (1 : Int32)) C.1.1 C.1.2.1 dL_law_1604 (by decide) ?_
      refine lv_iadd C.1.1 C.1.2.1 dL_law_1605 ?_
      refine tr_sld C hX hbl hbA hS dL_law_1606 hw (fun x_1606 hw => ?_)
      refine tr_aload_n (k := 0) (x := (some b)) C hl 4 rfl dL_law_1607 ?_
      refine tr_iload (x := v4) C hl 3 rfl dL_law_1608 ?_
      refine lv_iconst (v := (2 : Int32)) C.1.1 C.1.2.1 dL_law_1610 (by decide) ?_
      refine lv_iadd C.1.1 C.1.2.1 dL_law_1611 ?_
      refine tr_sld C hX hbl hbA hS dL_law_1612 hw (fun x_1612 hw => ?_)
      refine tr_aload_n (k := 3) (x := v3) C hl 2 rfl dL_law_1613 ?_
      have hq43 := hw.1
      have hw := hw.2
      refine tx_backNI (tx_runSX (As := [va_rf v1, .int x_1606, .int x_1612, va_rf v3]) C hl.1 (c_L_addAll l hll K _ v1 x_1606 x_1612 v3) (vx_cwSW 4 C.1.2.2.2.2 (gi_SX (zm kw_892) (zm kw_893) (zm kw_680) (zm kw_891)) rfl rfl rfl (by decide +kernel) ⟨(Nat.le_of_ble_eq_true rfl), (Nat.le_of_ble_eq_true rfl)⟩) rfl dL_law_1614 ⟨hq43.1, hq43.2⟩ [] rfl (Nat.le_of_ble_eq_true rfl) rfl hW hS hw) hS (fun x_1614 G_1614 H locs hw hW hS => ?_)
      refine tr_istore (x := x_1614) C hl [(5, .inl x_1614), (1, .inr (.inr v1)), (2, .inr (.inr v2)), (3, .inr (.inr v3)), (4, .inl v4), (0, .inr (.inr (some b)))] (by decide) rfl dL_law_1617 (fun ls hl => ?_)
      refine tr_aload_n (k := 2) (x := v2) C hl 2 rfl dL_law_1619 ?_
      refine tr_aload_n (k := 0) (x := (some b)) C hl 5 rfl dL_law_1620 ?_
      refine tr_iload (x := v4) C hl 4 rfl dL_law_1621 ?_
      refine lv_iconst (v := (1 : Int32)) C.1.1 C.1.2.1 dL_law_1623 (by decide) ?_
      refine lv_iadd C.1.1 C.1.2.1 dL_law_1624 ?_
      refine tr_sld C hX hbl hbA hS dL_law_1625 hw (fun x_1625 hw => ?_)
      refine tr_aload_n (k := 0) (x := (some b)) C hl 5 rfl dL_law_1626 ?_
      refine tr_iload (x := v4) C hl 4 rfl dL_law_1627 ?_
      refine lv_iconst (v := (2 : Int32)) C.1.1 C.1.2.1 dL_law_1629 (by decide) ?_
      refine lv_iadd C.1.1 C.1.2.1 dL_law_1630 ?_
      refine tr_sld C hX hbl hbA hS dL_law_1631 hw (fun x_1631 hw => ?_)
      refine tr_backI (tr_runV (r := v2) (As := [.int x_1625, .int x_1631]) C hl.1 (c_X3_addAll l hll K _ v2 x_1625 x_1631) (cwV 2 C.1.2.2.2.2 (gi_V (zm kw_895) (zm kw_896) (zm kw_897) (zm kw_155) (zm kw_894)) rfl rfl rfl (by decide +kernel) ⟨(Nat.le_of_ble_eq_true rfl), (Nat.le_of_ble_eq_true rfl)⟩) rfl rfl dL_law_1632 ⟨(show (nc + 2) + 0 ≤ 646169 by omega), (show (ns + 12) + 0 ≤ 7157597 by omega)⟩ [] rfl (Nat.le_of_ble_eq_true rfl) rfl hW hS hw) hS (fun x_1632 G_1632 H locs hw hW hS => ?_)
      refine tr_istore (x := x_1632) C hl [(6, .inl x_1632), (5, .inl x_1614), (1, .inr (.inr v1)), (2, .inr (.inr v2)), (3, .inr (.inr v3)), (4, .inl v4), (0, .inr (.inr (some b)))] (by decide) rfl dL_law_1635 (fun ls hl => ?_)
      refine lv_goto (tgt := 2056) C.1.1 C.1.2.1 dL_law_1637 (by decide) ?_
      exact s_L_law_2056 C hr hX hbl hbA hA2 hcN hll k27 hk27 ((nc + 2)) ((ns + 12)) v1 v2 v3 v4 _ _ _ _ (show (nc + 2) ≤ 646169 ∧ (ns + 12) ≤ 7157597 by omega) hW hS (tl_sub hl [2, 3, 4, 5, 6] rfl) hw
    have hw := hw.2
    by_cases hc32 : (x_40 &&& (63 : Int32)) = (32 : Int32)
    · have hw := hw.1 hc32
      refine lv_tableIn (off := 1596) (tgt := 1640) C.1.1 C.1.2.1 dL_law_44 (by rw [hc32]; decide) (by rw [hc32]; decide) (by rw [hc32]; rfl) (by decide) ?_
      refine tr_aload_n (k := 1) (x := v1) C hl 0 rfl dL_law_1640 ?_
      refine tr_aload_n (k := 0) (x := (some b)) C hl 4 rfl dL_law_1641 ?_
      refine tr_iload (x := v4) C hl 3 rfl dL_law_1642 ?_
      refine lv_iconst (v := (1 : Int32)) C.1.1 C.1.2.1 dL_law_1644 (by decide) ?_
      refine lv_iadd C.1.1 C.1.2.1 dL_law_1645 ?_
      refine tr_sld C hX hbl hbA hS dL_law_1646 hw (fun x_1646 hw => ?_)
      refine tr_aload_n (k := 0) (x := (some b)) C hl 4 rfl dL_law_1647 ?_
      refine tr_iload (x := v4) C hl 3 rfl dL_law_1648 ?_
      refine lv_iconst (v := (2 : Int32)) C.1.1 C.1.2.1 dL_law_1650 (by decide) ?_
      refine lv_iadd C.1.1 C.1.2.1 dL_law_1651 ?_
      refine tr_sld C hX hbl hbA hS dL_law_1652 hw (fun x_1652 hw => ?_)
      refine tr_aload_n (k := 3) (x := v3) C hl 2 rfl dL_law_1653 ?_
      have hq44 := hw.1
      have hw := hw.2
      refine tx_backNI (tx_runSX (As := [va_rf v1, .int x_1646, .int x_1652, va_rf v3]) C hl.1 (c_L_remove l hll K _ v1 x_1646 x_1652 v3) (vx_cwSW 4 C.1.2.2.2.2 (gi_SX (zm kw_899) (zm kw_900) (zm kw_680) (zm kw_898)) rfl rfl rfl (by decide +kernel) ⟨(Nat.le_of_ble_eq_true rfl), (Nat.le_of_ble_eq_true rfl)⟩) rfl dL_law_1654 ⟨hq44.1, hq44.2⟩ [] rfl (Nat.le_of_ble_eq_true rfl) rfl hW hS hw) hS (fun x_1654 G_1654 H locs hw hW hS => ?_)
      refine tr_istore (x := x_1654) C hl [(5, .inl x_1654), (1, .inr (.inr v1)), (2, .inr (.inr v2)), (3, .inr (.inr v3)), (4, .inl v4), (0, .inr (.inr (some b)))] (by decide) rfl dL_law_1657 (fun ls hl => ?_)
      refine tr_aload_n (k := 2) (x := v2) C hl 2 rfl dL_law_1659 ?_
      refine tr_aload_n (k := 0) (x := (some b)) C hl 5 rfl dL_law_1660 ?_
      refine tr_iload (x := v4) C hl 4 rfl dL_law_1661 ?_
      refine lv_iconst (v := (1 : Int32)) C.1.1 C.1.2.1 dL_law_1663 (by decide) ?_
      refine lv_iadd C.1.1 C.1.2.1 dL_law_1664 ?_
      refine tr_sld C hX hbl hbA hS dL_law_1665 hw (fun x_1665 hw => ?_)
      refine tr_aload_n (k := 0) (x := (some b)) C hl 5 rfl dL_law_1666 ?_
      refine tr_iload (x := v4) C hl 4 rfl dL_law_1667 ?_
      refine lv_iconst (v := (2 : Int32)) C.1.1 C.1.2.1 dL_law_1669 (by decide) ?_
      refine lv_iadd C.1.1 C.1.2.1 dL_law_1670 ?_
      refine tr_sld C hX hbl hbA hS dL_law_1671 hw (fun x_1671 hw => ?_)
      refine tr_backI (tr_runV (r := v2) (As := [.int x_1665, .int x_1671]) C hl.1 (c_X3_remove l hll K _ v2 x_1665 x_1671) (cwV 2 C.1.2.2.2.2 (gi_V (zm kw_902) (zm kw_903) (zm kw_904) (zm kw_155) (zm kw_901)) rfl rfl rfl (by decide +kernel) ⟨(Nat.le_of_ble_eq_true rfl), (Nat.le_of_ble_eq_true rfl)⟩) rfl rfl dL_law_1672 ⟨(show (nc + 2) + 0 ≤ 646169 by omega), (show (ns + 12) + 0 ≤ 7157597 by omega)⟩ [] rfl (Nat.le_of_ble_eq_true rfl) rfl hW hS hw) hS (fun x_1672 G_1672 H locs hw hW hS => ?_)
      refine tr_istore (x := x_1672) C hl [(6, .inl x_1672), (5, .inl x_1654), (1, .inr (.inr v1)), (2, .inr (.inr v2)), (3, .inr (.inr v3)), (4, .inl v4), (0, .inr (.inr (some b)))] (by decide) rfl dL_law_1675 (fun ls hl => ?_)
      refine lv_goto (tgt := 2056) C.1.1 C.1.2.1 dL_law_1677 (by decide) ?_
      exact s_L_law_2056 C hr hX hbl hbA hA2 hcN hll k27 hk27 ((nc + 2)) ((ns + 12)) v1 v2 v3 v4 _ _ _ _ (show (nc + 2) ≤ 646169 ∧ (ns + 12) ≤ 7157597 by omega) hW hS (tl_sub hl [2, 3, 4, 5, 6] rfl) hw
    have hw := hw.2
    by_cases hc33 : (x_40 &&& (63 : Int32)) = (33 : Int32)
    · have hw := hw.1 hc33
      refine lv_tableIn (off := 1636) (tgt := 1680) C.1.1 C.1.2.1 dL_law_44 (by rw [hc33]; decide) (by rw [hc33]; decide) (by rw [hc33]; rfl) (by decide) ?_
      refine tr_aload_n (k := 1) (x := v1) C hl 0 rfl dL_law_1680 ?_
      refine tr_aload_n (k := 0) (x := (some b)) C hl 4 rfl dL_law_1681 ?_
      refine tr_iload (x := v4) C hl 3 rfl dL_law_1682 ?_
      refine lv_iconst (v := (1 : Int32)) C.1.1 C.1.2.1 dL_law_1684 (by decide) ?_
      refine lv_iadd C.1.1 C.1.2.1 dL_law_1685 ?_
      refine tr_sld C hX hbl hbA hS dL_law_1686 hw (fun x_1686 hw => ?_)
      refine tr_aload_n (k := 0) (x := (some b)) C hl 4 rfl dL_law_1687 ?_
      refine tr_iload (x := v4) C hl 3 rfl dL_law_1688 ?_
      refine lv_iconst (v := (2 : Int32)) C.1.1 C.1.2.1 dL_law_1690 (by decide) ?_
      refine lv_iadd C.1.1 C.1.2.1 dL_law_1691 ?_
      refine tr_sld C hX hbl hbA hS dL_law_1692 hw (fun x_1692 hw => ?_)
      refine tr_aload_n (k := 3) (x := v3) C hl 2 rfl dL_law_1693 ?_
      have hq45 := hw.1
      have hw := hw.2
      refine tx_backNI (tx_runSX (As := [va_rf v1, .int x_1686, .int x_1692, va_rf v3]) C hl.1 (c_L_removeValue l hll K _ v1 x_1686 x_1692 v3) (vx_cwSW 4 C.1.2.2.2.2 (gi_SX (zm kw_906) (zm kw_907) (zm kw_680) (zm kw_905)) rfl rfl rfl (by decide +kernel) ⟨(Nat.le_of_ble_eq_true rfl), (Nat.le_of_ble_eq_true rfl)⟩) rfl dL_law_1694 ⟨hq45.1, hq45.2⟩ [] rfl (Nat.le_of_ble_eq_true rfl) rfl hW hS hw) hS (fun x_1694 G_1694 H locs hw hW hS => ?_)
      refine tr_istore (x := x_1694) C hl [(5, .inl x_1694), (1, .inr (.inr v1)), (2, .inr (.inr v2)), (3, .inr (.inr v3)), (4, .inl v4), (0, .inr (.inr (some b)))] (by decide) rfl dL_law_1697 (fun ls hl => ?_)
      refine tr_aload_n (k := 2) (x := v2) C hl 2 rfl dL_law_1699 ?_
      refine tr_aload_n (k := 0) (x := (some b)) C hl 5 rfl dL_law_1700 ?_
      refine tr_iload (x := v4) C hl 4 rfl dL_law_1701 ?_
      refine lv_iconst (v := (1 : Int32)) C.1.1 C.1.2.1 dL_law_1703 (by decide) ?_
      refine lv_iadd C.1.1 C.1.2.1 dL_law_1704 ?_
      refine tr_sld C hX hbl hbA hS dL_law_1705 hw (fun x_1705 hw => ?_)
      refine tr_aload_n (k := 0) (x := (some b)) C hl 5 rfl dL_law_1706 ?_
      refine tr_iload (x := v4) C hl 4 rfl dL_law_1707 ?_
      refine lv_iconst (v := (2 : Int32)) C.1.1 C.1.2.1 dL_law_1709 (by decide) ?_
      refine lv_iadd C.1.1 C.1.2.1 dL_law_1710 ?_
      refine tr_sld C hX hbl hbA hS dL_law_1711 hw (fun x_1711 hw => ?_)
      have hq46 := hw.1
      have hw := hw.2
      refine tr_backI (tr_runV (r := v2) (As := [.int x_1705, .int x_1711]) C hl.1 (c_X3_removeValue l hll K _ v2 x_1705 x_1711) (cwV 2 C.1.2.2.2.2 (gi_V (zm kw_909) (zm kw_910) (zm kw_911) (zm kw_155) (zm kw_908)) rfl rfl rfl (by decide +kernel) ⟨(Nat.le_of_ble_eq_true rfl), (Nat.le_of_ble_eq_true rfl)⟩) rfl rfl dL_law_1712 ⟨hq46.1, hq46.2⟩ [] rfl (Nat.le_of_ble_eq_true rfl) rfl hW hS hw) hS (fun x_1712 G_1712 H locs hw hW hS => ?_)
      refine tr_istore (x := x_1712) C hl [(6, .inl x_1712), (5, .inl x_1694), (1, .inr (.inr v1)), (2, .inr (.inr v2)), (3, .inr (.inr v3)), (4, .inl v4), (0, .inr (.inr (some b)))] (by decide) rfl dL_law_1715 (fun ls hl => ?_)
      refine lv_goto (tgt := 2056) C.1.1 C.1.2.1 dL_law_1717 (by decide) ?_
      exact s_L_law_2056 C hr hX hbl hbA hA2 hcN hll k27 hk27 (((nc + 2) + 1)) (((ns + 12) + 12)) v1 v2 v3 v4 _ _ _ _ (show ((nc + 2) + 1) ≤ 646169 ∧ ((ns + 12) + 12) ≤ 7157597 by omega) hW hS (tl_sub hl [2, 3, 4, 5, 6] rfl) hw
    have hw := hw.2
    by_cases hc34 : (x_40 &&& (63 : Int32)) = (34 : Int32)
    · have hw := hw.1 hc34
      refine lv_tableIn (off := 1676) (tgt := 1720) C.1.1 C.1.2.1 dL_law_44 (by rw [hc34]; decide) (by rw [hc34]; decide) (by rw [hc34]; rfl) (by decide) ?_
      refine tr_aload_n (k := 1) (x := v1) C hl 0 rfl dL_law_1720 ?_
      refine tr_aload_n (k := 0) (x := (some b)) C hl 4 rfl dL_law_1721 ?_
      refine tr_iload (x := v4) C hl 3 rfl dL_law_1722 ?_
      refine lv_iconst (v := (1 : Int32)) C.1.1 C.1.2.1 dL_law_1724 (by decide) ?_
      refine lv_iadd C.1.1 C.1.2.1 dL_law_1725 ?_
      refine tr_sld C hX hbl hbA hS dL_law_1726 hw (fun x_1726 hw => ?_)
      refine tr_aload_n (k := 0) (x := (some b)) C hl 4 rfl dL_law_1727 ?_
      refine tr_iload (x := v4) C hl 3 rfl dL_law_1728 ?_
      refine lv_iconst (v := (2 : Int32)) C.1.1 C.1.2.1 dL_law_1730 (by decide) ?_
      refine lv_iadd C.1.1 C.1.2.1 dL_law_1731 ?_
      refine tr_sld C hX hbl hbA hS dL_law_1732 hw (fun x_1732 hw => ?_)
      refine tr_aload_n (k := 3) (x := v3) C hl 2 rfl dL_law_1733 ?_
      have hq47 := hw.1
      have hw := hw.2
      refine tx_backNI (tx_runSX (As := [va_rf v1, .int x_1726, .int x_1732, va_rf v3]) C hl.1 (c_L_removeAll l hll K _ v1 x_1726 x_1732 v3) (vx_cwSW 4 C.1.2.2.2.2 (gi_SX (zm kw_913) (zm kw_914) (zm kw_680) (zm kw_912)) rfl rfl rfl (by decide +kernel) ⟨(Nat.le_of_ble_eq_true rfl), (Nat.le_of_ble_eq_true rfl)⟩) rfl dL_law_1734 ⟨hq47.1, hq47.2⟩ [] rfl (Nat.le_of_ble_eq_true rfl) rfl hW hS hw) hS (fun x_1734 G_1734 H locs hw hW hS => ?_)
      refine tr_istore (x := x_1734) C hl [(5, .inl x_1734), (1, .inr (.inr v1)), (2, .inr (.inr v2)), (3, .inr (.inr v3)), (4, .inl v4), (0, .inr (.inr (some b)))] (by decide) rfl dL_law_1737 (fun ls hl => ?_)
      refine tr_aload_n (k := 2) (x := v2) C hl 2 rfl dL_law_1739 ?_
      refine tr_aload_n (k := 0) (x := (some b)) C hl 5 rfl dL_law_1740 ?_
      refine tr_iload (x := v4) C hl 4 rfl dL_law_1741 ?_
      refine lv_iconst (v := (1 : Int32)) C.1.1 C.1.2.1 dL_law_1743 (by decide) ?_
      refine lv_iadd C.1.1 C.1.2.1 dL_law_1744 ?_
      refine tr_sld C hX hbl hbA hS dL_law_1745 hw (fun x_1745 hw => ?_)
      refine tr_aload_n (k := 0) (x := (some b)) C hl 5 rfl dL_law_1746 ?_
      refine tr_iload (x := v4) C hl 4 rfl dL_law_1747 ?_
      refine lv_iconst (v := (2 : Int32)) C.1.1 C.1.2.1 dL_law_1749 (by decide) ?_
      refine lv_iadd C.1.1 C.1.2.1 dL_law_1750 ?_
      refine tr_sld C hX hbl hbA hS dL_law_1751 hw (fun x_1751 hw => ?_)
      have hq48 := hw.1
      have hw := hw.2
      refine tr_backI (tr_runV (r := v2) (As := [.int x_1745, .int x_1751]) C hl.1 (c_X3_removeAll l hll K _ v2 x_1745 x_1751) (cwV 2 C.1.2.2.2.2 (gi_V (zm kw_916) (zm kw_917) (zm kw_918) (zm kw_155) (zm kw_915)) rfl rfl rfl (by decide +kernel) ⟨(Nat.le_of_ble_eq_true rfl), (Nat.le_of_ble_eq_true rfl)⟩) rfl rfl dL_law_1752 ⟨hq48.1, hq48.2⟩ [] rfl (Nat.le_of_ble_eq_true rfl) rfl hW hS hw) hS (fun x_1752 G_1752 H locs hw hW hS => ?_)
      refine tr_istore (x := x_1752) C hl [(6, .inl x_1752), (5, .inl x_1734), (1, .inr (.inr v1)), (2, .inr (.inr v2)), (3, .inr (.inr v3)), (4, .inl v4), (0, .inr (.inr (some b)))] (by decide) rfl dL_law_1755 (fun ls hl => ?_)
      refine lv_goto (tgt := 2056) C.1.1 C.1.2.1 dL_law_1757 (by decide) ?_
      exact s_L_law_2056 C hr hX hbl hbA hA2 hcN hll k27 hk27 (((nc + 2) + 13)) (((ns + 12) + 156)) v1 v2 v3 v4 _ _ _ _ (show ((nc + 2) + 13) ≤ 646169 ∧ ((ns + 12) + 156) ≤ 7157597 by omega) hW hS (tl_sub hl [2, 3, 4, 5, 6] rfl) hw
    have hw := hw.2
    by_cases hc35 : (x_40 &&& (63 : Int32)) = (35 : Int32)
    · have hw := hw.1 hc35
      refine lv_tableIn (off := 1716) (tgt := 1760) C.1.1 C.1.2.1 dL_law_44 (by rw [hc35]; decide) (by rw [hc35]; decide) (by rw [hc35]; rfl) (by decide) ?_
      refine tr_aload_n (k := 1) (x := v1) C hl 0 rfl dL_law_1760 ?_
      refine tr_aload_n (k := 0) (x := (some b)) C hl 4 rfl dL_law_1761 ?_
      refine tr_iload (x := v4) C hl 3 rfl dL_law_1762 ?_
      refine lv_iconst (v := (1 : Int32)) C.1.1 C.1.2.1 dL_law_1764 (by decide) ?_
      refine lv_iadd C.1.1 C.1.2.1 dL_law_1765 ?_
      refine tr_sld C hX hbl hbA hS dL_law_1766 hw (fun x_1766 hw => ?_)
      refine tr_aload_n (k := 0) (x := (some b)) C hl 4 rfl dL_law_1767 ?_
      refine tr_iload (x := v4) C hl 3 rfl dL_law_1768 ?_
      refine lv_iconst (v := (2 : Int32)) C.1.1 C.1.2.1 dL_law_1770 (by decide) ?_
      refine lv_iadd C.1.1 C.1.2.1 dL_law_1771 ?_
      refine tr_sld C hX hbl hbA hS dL_law_1772 hw (fun x_1772 hw => ?_)
      refine tr_aload_n (k := 3) (x := v3) C hl 2 rfl dL_law_1773 ?_
      have hq49 := hw.1
      have hw := hw.2
      refine tx_backNI (tx_runSX (As := [va_rf v1, .int x_1766, .int x_1772, va_rf v3]) C hl.1 (c_L_retainAll l hll K _ v1 x_1766 x_1772 v3) (vx_cwSW 4 C.1.2.2.2.2 (gi_SX (zm kw_920) (zm kw_921) (zm kw_680) (zm kw_919)) rfl rfl rfl (by decide +kernel) ⟨(Nat.le_of_ble_eq_true rfl), (Nat.le_of_ble_eq_true rfl)⟩) rfl dL_law_1774 ⟨hq49.1, hq49.2⟩ [] rfl (Nat.le_of_ble_eq_true rfl) rfl hW hS hw) hS (fun x_1774 G_1774 H locs hw hW hS => ?_)
      refine tr_istore (x := x_1774) C hl [(5, .inl x_1774), (1, .inr (.inr v1)), (2, .inr (.inr v2)), (3, .inr (.inr v3)), (4, .inl v4), (0, .inr (.inr (some b)))] (by decide) rfl dL_law_1777 (fun ls hl => ?_)
      refine tr_aload_n (k := 2) (x := v2) C hl 2 rfl dL_law_1779 ?_
      refine tr_aload_n (k := 0) (x := (some b)) C hl 5 rfl dL_law_1780 ?_
      refine tr_iload (x := v4) C hl 4 rfl dL_law_1781 ?_
      refine lv_iconst (v := (1 : Int32)) C.1.1 C.1.2.1 dL_law_1783 (by decide) ?_
      refine lv_iadd C.1.1 C.1.2.1 dL_law_1784 ?_
      refine tr_sld C hX hbl hbA hS dL_law_1785 hw (fun x_1785 hw => ?_)
      refine tr_aload_n (k := 0) (x := (some b)) C hl 5 rfl dL_law_1786 ?_
      refine tr_iload (x := v4) C hl 4 rfl dL_law_1787 ?_
      refine lv_iconst (v := (2 : Int32)) C.1.1 C.1.2.1 dL_law_1789 (by decide) ?_
      refine lv_iadd C.1.1 C.1.2.1 dL_law_1790 ?_
      refine tr_sld C hX hbl hbA hS dL_law_1791 hw (fun x_1791 hw => ?_)
      have hq50 := hw.1
      have hw := hw.2
      refine tr_backI (tr_runV (r := v2) (As := [.int x_1785, .int x_1791]) C hl.1 (c_X3_retainAll l hll K _ v2 x_1785 x_1791) (cwV 2 C.1.2.2.2.2 (gi_V (zm kw_923) (zm kw_924) (zm kw_925) (zm kw_155) (zm kw_922)) rfl rfl rfl (by decide +kernel) ⟨(Nat.le_of_ble_eq_true rfl), (Nat.le_of_ble_eq_true rfl)⟩) rfl rfl dL_law_1792 ⟨hq50.1, hq50.2⟩ [] rfl (Nat.le_of_ble_eq_true rfl) rfl hW hS hw) hS (fun x_1792 G_1792 H locs hw hW hS => ?_)
      refine tr_istore (x := x_1792) C hl [(6, .inl x_1792), (5, .inl x_1774), (1, .inr (.inr v1)), (2, .inr (.inr v2)), (3, .inr (.inr v3)), (4, .inl v4), (0, .inr (.inr (some b)))] (by decide) rfl dL_law_1795 (fun ls hl => ?_)
      refine lv_goto (tgt := 2056) C.1.1 C.1.2.1 dL_law_1797 (by decide) ?_
      exact s_L_law_2056 C hr hX hbl hbA hA2 hcN hll k27 hk27 (((nc + 2) + 13)) (((ns + 12) + 156)) v1 v2 v3 v4 _ _ _ _ (show ((nc + 2) + 13) ≤ 646169 ∧ ((ns + 12) + 156) ≤ 7157597 by omega) hW hS (tl_sub hl [2, 3, 4, 5, 6] rfl) hw
    have hw := hw.2
    by_cases hc36 : (x_40 &&& (63 : Int32)) = (36 : Int32)
    · have hw := hw.1 hc36
      refine lv_tableIn (off := 1756) (tgt := 1800) C.1.1 C.1.2.1 dL_law_44 (by rw [hc36]; decide) (by rw [hc36]; decide) (by rw [hc36]; rfl) (by decide) ?_
      refine tr_aload_n (k := 1) (x := v1) C hl 0 rfl dL_law_1800 ?_
      refine tr_aload_n (k := 0) (x := (some b)) C hl 4 rfl dL_law_1801 ?_
      refine tr_iload (x := v4) C hl 3 rfl dL_law_1802 ?_
      refine lv_iconst (v := (1 : Int32)) C.1.1 C.1.2.1 dL_law_1804 (by decide) ?_
      refine lv_iadd C.1.1 C.1.2.1 dL_law_1805 ?_
      refine tr_sld C hX hbl hbA hS dL_law_1806 hw (fun x_1806 hw => ?_)
      refine tr_aload_n (k := 0) (x := (some b)) C hl 4 rfl dL_law_1807 ?_
      refine tr_iload (x := v4) C hl 3 rfl dL_law_1808 ?_
      refine lv_iconst (v := (2 : Int32)) C.1.1 C.1.2.1 dL_law_1810 (by decide) ?_
      refine lv_iadd C.1.1 C.1.2.1 dL_law_1811 ?_
      refine tr_sld C hX hbl hbA hS dL_law_1812 hw (fun x_1812 hw => ?_)
      refine tr_aload_n (k := 0) (x := (some b)) C hl 4 rfl dL_law_1813 ?_
      refine tr_iload (x := v4) C hl 3 rfl dL_law_1814 ?_
      refine lv_iconst (v := (3 : Int32)) C.1.1 C.1.2.1 dL_law_1816 (by decide) ?_
      refine lv_iadd C.1.1 C.1.2.1 dL_law_1817 ?_
      refine tr_sld C hX hbl hbA hS dL_law_1818 hw (fun x_1818 hw => ?_)
      refine tr_aload_n (k := 3) (x := v3) C hl 2 rfl dL_law_1819 ?_
      have hq51 := hw.1
      have hw := hw.2
      refine tx_backNI (tx_runSX (As := [va_rf v1, .int x_1806, .int x_1812, .int x_1818, va_rf v3]) C hl.1 (c_L_removeIf l hll K _ v1 x_1806 x_1812 x_1818 v3) (vx_cwSW 5 C.1.2.2.2.2 (gi_SX (zm kw_927) (zm kw_928) (zm kw_680) (zm kw_926)) rfl rfl rfl (by decide +kernel) ⟨(Nat.le_of_ble_eq_true rfl), (Nat.le_of_ble_eq_true rfl)⟩) rfl dL_law_1820 ⟨hq51.1, hq51.2⟩ [] rfl (Nat.le_of_ble_eq_true rfl) rfl hW hS hw) hS (fun x_1820 G_1820 H locs hw hW hS => ?_)
      refine tr_istore (x := x_1820) C hl [(5, .inl x_1820), (1, .inr (.inr v1)), (2, .inr (.inr v2)), (3, .inr (.inr v3)), (4, .inl v4), (0, .inr (.inr (some b)))] (by decide) rfl dL_law_1823 (fun ls hl => ?_)
      refine tr_aload_n (k := 2) (x := v2) C hl 2 rfl dL_law_1825 ?_
      refine tr_aload_n (k := 0) (x := (some b)) C hl 5 rfl dL_law_1826 ?_
      refine tr_iload (x := v4) C hl 4 rfl dL_law_1827 ?_
      refine lv_iconst (v := (1 : Int32)) C.1.1 C.1.2.1 dL_law_1829 (by decide) ?_
      refine lv_iadd C.1.1 C.1.2.1 dL_law_1830 ?_
      refine tr_sld C hX hbl hbA hS dL_law_1831 hw (fun x_1831 hw => ?_)
      refine tr_aload_n (k := 0) (x := (some b)) C hl 5 rfl dL_law_1832 ?_
      refine tr_iload (x := v4) C hl 4 rfl dL_law_1833 ?_
      refine lv_iconst (v := (2 : Int32)) C.1.1 C.1.2.1 dL_law_1835 (by decide) ?_
      refine lv_iadd C.1.1 C.1.2.1 dL_law_1836 ?_
      refine tr_sld C hX hbl hbA hS dL_law_1837 hw (fun x_1837 hw => ?_)
      refine tr_aload_n (k := 0) (x := (some b)) C hl 5 rfl dL_law_1838 ?_
      refine tr_iload (x := v4) C hl 4 rfl dL_law_1839 ?_
      refine lv_iconst (v := (3 : Int32)) C.1.1 C.1.2.1 dL_law_1841 (by decide) ?_
      refine lv_iadd C.1.1 C.1.2.1 dL_law_1842 ?_
      refine tr_sld C hX hbl hbA hS dL_law_1843 hw (fun x_1843 hw => ?_)
      have hq52 := hw.1
      have hw := hw.2
      refine tr_backI (tr_runV (r := v2) (As := [.int x_1831, .int x_1837, .int x_1843]) C hl.1 (c_X3_removeIf l hll K _ v2 x_1831 x_1837 x_1843) (cwV 3 C.1.2.2.2.2 (gi_V (zm kw_930) (zm kw_931) (zm kw_932) (zm kw_155) (zm kw_929)) rfl rfl rfl (by decide +kernel) ⟨(Nat.le_of_ble_eq_true rfl), (Nat.le_of_ble_eq_true rfl)⟩) rfl rfl dL_law_1844 ⟨hq52.1, hq52.2⟩ [] rfl (Nat.le_of_ble_eq_true rfl) rfl hW hS hw) hS (fun x_1844 G_1844 H locs hw hW hS => ?_)
      refine tr_istore (x := x_1844) C hl [(6, .inl x_1844), (5, .inl x_1820), (1, .inr (.inr v1)), (2, .inr (.inr v2)), (3, .inr (.inr v3)), (4, .inl v4), (0, .inr (.inr (some b)))] (by decide) rfl dL_law_1847 (fun ls hl => ?_)
      refine lv_goto (tgt := 2056) C.1.1 C.1.2.1 dL_law_1849 (by decide) ?_
      exact s_L_law_2056 C hr hX hbl hbA hA2 hcN hll k27 hk27 (((nc + 3) + 1)) (((ns + 18) + 12)) v1 v2 v3 v4 _ _ _ _ (show ((nc + 3) + 1) ≤ 646169 ∧ ((ns + 18) + 12) ≤ 7157597 by omega) hW hS (tl_sub hl [2, 3, 4, 5, 6] rfl) hw
    have hw := hw.2
    by_cases hc37 : (x_40 &&& (63 : Int32)) = (37 : Int32)
    · have hw := hw.1 hc37
      refine lv_tableIn (off := 1808) (tgt := 1852) C.1.1 C.1.2.1 dL_law_44 (by rw [hc37]; decide) (by rw [hc37]; decide) (by rw [hc37]; rfl) (by decide) ?_
      refine tr_aload_n (k := 1) (x := v1) C hl 0 rfl dL_law_1852 ?_
      refine tr_aload_n (k := 0) (x := (some b)) C hl 4 rfl dL_law_1853 ?_
      refine tr_iload (x := v4) C hl 3 rfl dL_law_1854 ?_
      refine lv_iconst (v := (1 : Int32)) C.1.1 C.1.2.1 dL_law_1856 (by decide) ?_
      refine lv_iadd C.1.1 C.1.2.1 dL_law_1857 ?_
      refine tr_sld C hX hbl hbA hS dL_law_1858 hw (fun x_1858 hw => ?_)
      refine tr_aload_n (k := 3) (x := v3) C hl 2 rfl dL_law_1859 ?_
      have hq53 := hw.1
      have hw := hw.2
      refine tx_backNI (tx_runSX (As := [va_rf v1, .int x_1858, va_rf v3]) C hl.1 (c_L_clear l hll K _ v1 x_1858 v3) (vx_cwSW 3 C.1.2.2.2.2 (gi_SX (zm kw_934) (zm kw_935) (zm kw_680) (zm kw_933)) rfl rfl rfl (by decide +kernel) ⟨(Nat.le_of_ble_eq_true rfl), (Nat.le_of_ble_eq_true rfl)⟩) rfl dL_law_1860 ⟨hq53.1, hq53.2⟩ [] rfl (Nat.le_of_ble_eq_true rfl) rfl hW hS hw) hS (fun x_1860 G_1860 H locs hw hW hS => ?_)
      refine tr_istore (x := x_1860) C hl [(5, .inl x_1860), (1, .inr (.inr v1)), (2, .inr (.inr v2)), (3, .inr (.inr v3)), (4, .inl v4), (0, .inr (.inr (some b)))] (by decide) rfl dL_law_1863 (fun ls hl => ?_)
      refine tr_aload_n (k := 2) (x := v2) C hl 2 rfl dL_law_1865 ?_
      refine tr_aload_n (k := 0) (x := (some b)) C hl 5 rfl dL_law_1866 ?_
      refine tr_iload (x := v4) C hl 4 rfl dL_law_1867 ?_
      refine lv_iconst (v := (1 : Int32)) C.1.1 C.1.2.1 dL_law_1869 (by decide) ?_
      refine lv_iadd C.1.1 C.1.2.1 dL_law_1870 ?_
      refine tr_sld C hX hbl hbA hS dL_law_1871 hw (fun x_1871 hw => ?_)
      refine tr_backI (tr_runV (r := v2) (As := [.int x_1871]) C hl.1 (c_X3_clear l hll K _ v2 x_1871) (cwV 1 C.1.2.2.2.2 (gi_V (zm kw_937) (zm kw_938) (zm kw_939) (zm kw_155) (zm kw_936)) rfl rfl rfl (by decide +kernel) ⟨(Nat.le_of_ble_eq_true rfl), (Nat.le_of_ble_eq_true rfl)⟩) rfl rfl dL_law_1872 ⟨(show (nc + 1) + 0 ≤ 646169 by omega), (show (ns + 6) + 0 ≤ 7157597 by omega)⟩ [] rfl (Nat.le_of_ble_eq_true rfl) rfl hW hS hw) hS (fun x_1872 G_1872 H locs hw hW hS => ?_)
      refine tr_istore (x := x_1872) C hl [(6, .inl x_1872), (5, .inl x_1860), (1, .inr (.inr v1)), (2, .inr (.inr v2)), (3, .inr (.inr v3)), (4, .inl v4), (0, .inr (.inr (some b)))] (by decide) rfl dL_law_1875 (fun ls hl => ?_)
      refine lv_goto (tgt := 2056) C.1.1 C.1.2.1 dL_law_1877 (by decide) ?_
      exact s_L_law_2056 C hr hX hbl hbA hA2 hcN hll k27 hk27 ((nc + 1)) ((ns + 6)) v1 v2 v3 v4 _ _ _ _ (show (nc + 1) ≤ 646169 ∧ (ns + 6) ≤ 7157597 by omega) hW hS (tl_sub hl [2, 3, 4, 5, 6] rfl) hw
    have hw := hw.2
    by_cases hc38 : (x_40 &&& (63 : Int32)) = (38 : Int32)
    · have hw := hw.1 hc38
      refine lv_tableIn (off := 1836) (tgt := 1880) C.1.1 C.1.2.1 dL_law_44 (by rw [hc38]; decide) (by rw [hc38]; decide) (by rw [hc38]; rfl) (by decide) ?_
      refine tr_aload_n (k := 1) (x := v1) C hl 0 rfl dL_law_1880 ?_
      refine tr_aload_n (k := 0) (x := (some b)) C hl 4 rfl dL_law_1881 ?_
      refine tr_iload (x := v4) C hl 3 rfl dL_law_1882 ?_
      refine lv_iconst (v := (1 : Int32)) C.1.1 C.1.2.1 dL_law_1884 (by decide) ?_
      refine lv_iadd C.1.1 C.1.2.1 dL_law_1885 ?_
      refine tr_sld C hX hbl hbA hS dL_law_1886 hw (fun x_1886 hw => ?_)
      refine tr_aload_n (k := 0) (x := (some b)) C hl 4 rfl dL_law_1887 ?_
      refine tr_iload (x := v4) C hl 3 rfl dL_law_1888 ?_
      refine lv_iconst (v := (2 : Int32)) C.1.1 C.1.2.1 dL_law_1890 (by decide) ?_
      refine lv_iadd C.1.1 C.1.2.1 dL_law_1891 ?_
      refine tr_sld C hX hbl hbA hS dL_law_1892 hw (fun x_1892 hw => ?_)
      refine tr_aload_n (k := 0) (x := (some b)) C hl 4 rfl dL_law_1893 ?_
      refine tr_iload (x := v4) C hl 3 rfl dL_law_1894 ?_
      refine lv_iconst (v := (3 : Int32)) C.1.1 C.1.2.1 dL_law_1896 (by decide) ?_
      refine lv_iadd C.1.1 C.1.2.1 dL_law_1897 ?_
      refine tr_sld C hX hbl hbA hS dL_law_1898 hw (fun x_1898 hw => ?_)
      refine tr_aload_n (k := 3) (x := v3) C hl 2 rfl dL_law_1899 ?_
      have hq54 := hw.1
      have hw := hw.2
      refine tx_backNI (tx_runSX (As := [va_rf v1, .int x_1886, .int x_1892, .int x_1898, va_rf v3]) C hl.1 (c_L_walkChange l hll K _ v1 x_1886 x_1892 x_1898 v3) (vx_cwSW 5 C.1.2.2.2.2 (gi_SX (zm kw_941) (zm kw_942) (zm kw_680) (zm kw_940)) rfl rfl rfl (by decide +kernel) ⟨(Nat.le_of_ble_eq_true rfl), (Nat.le_of_ble_eq_true rfl)⟩) rfl dL_law_1900 ⟨hq54.1, hq54.2⟩ [] rfl (Nat.le_of_ble_eq_true rfl) rfl hW hS hw) hS (fun x_1900 G_1900 H locs hw hW hS => ?_)
      refine tr_istore (x := x_1900) C hl [(5, .inl x_1900), (1, .inr (.inr v1)), (2, .inr (.inr v2)), (3, .inr (.inr v3)), (4, .inl v4), (0, .inr (.inr (some b)))] (by decide) rfl dL_law_1903 (fun ls hl => ?_)
      refine tr_aload_n (k := 2) (x := v2) C hl 2 rfl dL_law_1905 ?_
      refine tr_aload_n (k := 0) (x := (some b)) C hl 5 rfl dL_law_1906 ?_
      refine tr_iload (x := v4) C hl 4 rfl dL_law_1907 ?_
      refine lv_iconst (v := (1 : Int32)) C.1.1 C.1.2.1 dL_law_1909 (by decide) ?_
      refine lv_iadd C.1.1 C.1.2.1 dL_law_1910 ?_
      refine tr_sld C hX hbl hbA hS dL_law_1911 hw (fun x_1911 hw => ?_)
      refine tr_aload_n (k := 0) (x := (some b)) C hl 5 rfl dL_law_1912 ?_
      refine tr_iload (x := v4) C hl 4 rfl dL_law_1913 ?_
      refine lv_iconst (v := (2 : Int32)) C.1.1 C.1.2.1 dL_law_1915 (by decide) ?_
      refine lv_iadd C.1.1 C.1.2.1 dL_law_1916 ?_
      refine tr_sld C hX hbl hbA hS dL_law_1917 hw (fun x_1917 hw => ?_)
      refine tr_aload_n (k := 0) (x := (some b)) C hl 5 rfl dL_law_1918 ?_
      refine tr_iload (x := v4) C hl 4 rfl dL_law_1919 ?_
      refine lv_iconst (v := (3 : Int32)) C.1.1 C.1.2.1 dL_law_1921 (by decide) ?_
      refine lv_iadd C.1.1 C.1.2.1 dL_law_1922 ?_
      refine tr_sld C hX hbl hbA hS dL_law_1923 hw (fun x_1923 hw => ?_)
      refine tr_backI (tr_runV (r := v2) (As := [.int x_1911, .int x_1917, .int x_1923]) C hl.1 (c_X3_walkChange l hll K _ v2 x_1911 x_1917 x_1923) (cwV 3 C.1.2.2.2.2 (gi_V (zm kw_944) (zm kw_945) (zm kw_946) (zm kw_155) (zm kw_943)) rfl rfl rfl (by decide +kernel) ⟨(Nat.le_of_ble_eq_true rfl), (Nat.le_of_ble_eq_true rfl)⟩) rfl rfl dL_law_1924 ⟨(show (nc + 3) + 0 ≤ 646169 by omega), (show (ns + 18) + 0 ≤ 7157597 by omega)⟩ [] rfl (Nat.le_of_ble_eq_true rfl) rfl hW hS hw) hS (fun x_1924 G_1924 H locs hw hW hS => ?_)
      refine tr_istore (x := x_1924) C hl [(6, .inl x_1924), (5, .inl x_1900), (1, .inr (.inr v1)), (2, .inr (.inr v2)), (3, .inr (.inr v3)), (4, .inl v4), (0, .inr (.inr (some b)))] (by decide) rfl dL_law_1927 (fun ls hl => ?_)
      refine lv_goto (tgt := 2056) C.1.1 C.1.2.1 dL_law_1929 (by decide) ?_
      exact s_L_law_2056 C hr hX hbl hbA hA2 hcN hll k27 hk27 ((nc + 3)) ((ns + 18)) v1 v2 v3 v4 _ _ _ _ (show (nc + 3) ≤ 646169 ∧ (ns + 18) ≤ 7157597 by omega) hW hS (tl_sub hl [2, 3, 4, 5, 6] rfl) hw
    have hw := hw.2
    by_cases hc39 : (x_40 &&& (63 : Int32)) = (39 : Int32)
    · have hw := hw.1 hc39
      refine lv_tableIn (off := 1888) (tgt := 1932) C.1.1 C.1.2.1 dL_law_44 (by rw [hc39]; decide) (by rw [hc39]; decide) (by rw [hc39]; rfl) (by decide) ?_
      refine tr_aload_n (k := 1) (x := v1) C hl 0 rfl dL_law_1932 ?_
      refine tr_backI (tr_runV (r := v1) (As := []) C hl.1 (c_X1_knock l hll K _ v1) (cwV 0 C.1.2.2.2.2 (gi_V (zm kw_948) (zm kw_949) (zm kw_950) (zm kw_33) (zm kw_947)) rfl rfl rfl (by decide +kernel) ⟨(Nat.le_of_ble_eq_true rfl), (Nat.le_of_ble_eq_true rfl)⟩) rfl rfl dL_law_1933 ⟨(show nc + 0 ≤ 646169 by omega), (show ns + 0 ≤ 7157597 by omega)⟩ [] rfl (Nat.le_of_ble_eq_true rfl) rfl hW hS hw) hS (fun x_1933 G_1933 H locs hw hW hS => ?_)
      refine lv_pop C.1.1 C.1.2.1 dL_law_1936 rfl ?_
      refine tr_aload_n (k := 2) (x := v2) C hl 1 rfl dL_law_1937 ?_
      refine tr_backI (tr_runV (r := v2) (As := []) C hl.1 (c_X3_knock l hll K _ v2) (cwV 0 C.1.2.2.2.2 (gi_V (zm kw_952) (zm kw_953) (zm kw_954) (zm kw_155) (zm kw_951)) rfl rfl rfl (by decide +kernel) ⟨(Nat.le_of_ble_eq_true rfl), (Nat.le_of_ble_eq_true rfl)⟩) rfl rfl dL_law_1938 ⟨(show nc + 0 ≤ 646169 by omega), (show ns + 0 ≤ 7157597 by omega)⟩ [] rfl (Nat.le_of_ble_eq_true rfl) rfl hW hS hw) hS (fun x_1938 G_1938 H locs hw hW hS => ?_)
      refine lv_pop C.1.1 C.1.2.1 dL_law_1941 rfl ?_
      refine lv_goto (tgt := 2056) C.1.1 C.1.2.1 dL_law_1942 (by decide) ?_
      exact s_L_law_2056 C hr hX hbl hbA hA2 hcN hll k27 hk27 nc ns v1 v2 v3 v4 _ _ _ _ (show nc ≤ 646169 ∧ ns ≤ 7157597 by omega) hW hS (tl_sub hl [0, 1, 2, 3, 4] rfl) hw
    have hw := hw.2
    by_cases hc40 : (x_40 &&& (63 : Int32)) = (40 : Int32)
    · have hw := hw.1 hc40
      refine lv_tableIn (off := 1901) (tgt := 1945) C.1.1 C.1.2.1 dL_law_44 (by rw [hc40]; decide) (by rw [hc40]; decide) (by rw [hc40]; rfl) (by decide) ?_
      refine tr_aload_n (k := 1) (x := v1) C hl 0 rfl dL_law_1945 ?_
      refine tr_aload_n (k := 0) (x := (some b)) C hl 4 rfl dL_law_1946 ?_
      refine tr_iload (x := v4) C hl 3 rfl dL_law_1947 ?_
      refine lv_iconst (v := (1 : Int32)) C.1.1 C.1.2.1 dL_law_1949 (by decide) ?_
      refine lv_iadd C.1.1 C.1.2.1 dL_law_1950 ?_
      refine tr_sld C hX hbl hbA hS dL_law_1951 hw (fun x_1951 hw => ?_)
      refine tr_aload_n (k := 3) (x := v3) C hl 2 rfl dL_law_1952 ?_
      have hq55 := hw.1
      have hw := hw.2
      refine tx_backNI (tx_runSX (As := [va_rf v1, .int x_1951, va_rf v3]) C hl.1 (c_L_house l hll K _ v1 x_1951 v3) (vx_cwSW 3 C.1.2.2.2.2 (gi_SX (zm kw_956) (zm kw_957) (zm kw_680) (zm kw_955)) rfl rfl rfl (by decide +kernel) ⟨(Nat.le_of_ble_eq_true rfl), (Nat.le_of_ble_eq_true rfl)⟩) rfl dL_law_1953 ⟨hq55.1, hq55.2⟩ [] rfl (Nat.le_of_ble_eq_true rfl) rfl hW hS hw) hS (fun x_1953 G_1953 H locs hw hW hS => ?_)
      refine tr_istore (x := x_1953) C hl [(5, .inl x_1953), (1, .inr (.inr v1)), (2, .inr (.inr v2)), (3, .inr (.inr v3)), (4, .inl v4), (0, .inr (.inr (some b)))] (by decide) rfl dL_law_1956 (fun ls hl => ?_)
      refine tr_aload_n (k := 2) (x := v2) C hl 2 rfl dL_law_1958 ?_
      refine tr_aload_n (k := 0) (x := (some b)) C hl 5 rfl dL_law_1959 ?_
      refine tr_iload (x := v4) C hl 4 rfl dL_law_1960 ?_
      refine lv_iconst (v := (1 : Int32)) C.1.1 C.1.2.1 dL_law_1962 (by decide) ?_
      refine lv_iadd C.1.1 C.1.2.1 dL_law_1963 ?_
      refine tr_sld C hX hbl hbA hS dL_law_1964 hw (fun x_1964 hw => ?_)
      have hq56 := hw.1
      have hw := hw.2
      refine tr_backI (tr_runV (r := v2) (As := [.int x_1964]) C hl.1 (c_X3_house l hll K _ v2 x_1964) (cwV 1 C.1.2.2.2.2 (gi_V (zm kw_959) (zm kw_960) (zm kw_961) (zm kw_155) (zm kw_958)) rfl rfl rfl (by decide +kernel) ⟨(Nat.le_of_ble_eq_true rfl), (Nat.le_of_ble_eq_true rfl)⟩) rfl rfl dL_law_1965 ⟨hq56.1, hq56.2⟩ [] rfl (Nat.le_of_ble_eq_true rfl) rfl hW hS hw) hS (fun x_1965 G_1965 H locs hw hW hS => ?_)
      refine tr_istore (x := x_1965) C hl [(6, .inl x_1965), (5, .inl x_1953), (1, .inr (.inr v1)), (2, .inr (.inr v2)), (3, .inr (.inr v3)), (4, .inl v4), (0, .inr (.inr (some b)))] (by decide) rfl dL_law_1968 (fun ls hl => ?_)
      refine lv_goto (tgt := 2056) C.1.1 C.1.2.1 dL_law_1970 (by decide) ?_
      exact s_L_law_2056 C hr hX hbl hbA hA2 hcN hll k27 hk27 (((nc + 4) + 1)) (((ns + 24) + 4)) v1 v2 v3 v4 _ _ _ _ (show ((nc + 4) + 1) ≤ 646169 ∧ ((ns + 24) + 4) ≤ 7157597 by omega) hW hS (tl_sub hl [2, 3, 4, 5, 6] rfl) hw
    have hw := hw.2
    by_cases hc41 : (x_40 &&& (63 : Int32)) = (41 : Int32)
    · have hw := hw.1 hc41
      refine lv_tableIn (off := 1929) (tgt := 1973) C.1.1 C.1.2.1 dL_law_44 (by rw [hc41]; decide) (by rw [hc41]; decide) (by rw [hc41]; rfl) (by decide) ?_
      refine tr_aload_n (k := 1) (x := v1) C hl 0 rfl dL_law_1973 ?_
      refine tr_aload_n (k := 0) (x := (some b)) C hl 4 rfl dL_law_1974 ?_
      refine tr_iload (x := v4) C hl 3 rfl dL_law_1975 ?_
      refine lv_iconst (v := (1 : Int32)) C.1.1 C.1.2.1 dL_law_1977 (by decide) ?_
      refine lv_iadd C.1.1 C.1.2.1 dL_law_1978 ?_
      refine tr_sld C hX hbl hbA hS dL_law_1979 hw (fun x_1979 hw => ?_)
      refine tr_aload_n (k := 3) (x := v3) C hl 2 rfl dL_law_1980 ?_
      have hq57 := hw.1
      have hw := hw.2
      refine tx_backNI (tx_runSX (As := [va_rf v1, .int x_1979, va_rf v3]) C hl.1 (c_L_rowOf l hll K _ v1 x_1979 v3) (vx_cwSW 3 C.1.2.2.2.2 (gi_SX (zm kw_963) (zm kw_964) (zm kw_680) (zm kw_962)) rfl rfl rfl (by decide +kernel) ⟨(Nat.le_of_ble_eq_true rfl), (Nat.le_of_ble_eq_true rfl)⟩) rfl dL_law_1981 ⟨hq57.1, hq57.2⟩ [] rfl (Nat.le_of_ble_eq_true rfl) rfl hW hS hw) hS (fun x_1981 G_1981 H locs hw hW hS => ?_)
      refine tr_istore (x := x_1981) C hl [(5, .inl x_1981), (1, .inr (.inr v1)), (2, .inr (.inr v2)), (3, .inr (.inr v3)), (4, .inl v4), (0, .inr (.inr (some b)))] (by decide) rfl dL_law_1984 (fun ls hl => ?_)
      refine tr_aload_n (k := 2) (x := v2) C hl 2 rfl dL_law_1986 ?_
      refine tr_aload_n (k := 0) (x := (some b)) C hl 5 rfl dL_law_1987 ?_
      refine tr_iload (x := v4) C hl 4 rfl dL_law_1988 ?_
      refine lv_iconst (v := (1 : Int32)) C.1.1 C.1.2.1 dL_law_1990 (by decide) ?_
      refine lv_iadd C.1.1 C.1.2.1 dL_law_1991 ?_
      refine tr_sld C hX hbl hbA hS dL_law_1992 hw (fun x_1992 hw => ?_)
      refine tr_backI (tr_runV (r := v2) (As := [.int x_1992]) C hl.1 (c_X3_rowOf l hll K _ v2 x_1992) (cwV 1 C.1.2.2.2.2 (gi_V (zm kw_966) (zm kw_967) (zm kw_968) (zm kw_155) (zm kw_965)) rfl rfl rfl (by decide +kernel) ⟨(Nat.le_of_ble_eq_true rfl), (Nat.le_of_ble_eq_true rfl)⟩) rfl rfl dL_law_1993 ⟨(show (nc + 1) + 0 ≤ 646169 by omega), (show (ns + 6) + 0 ≤ 7157597 by omega)⟩ [] rfl (Nat.le_of_ble_eq_true rfl) rfl hW hS hw) hS (fun x_1993 G_1993 H locs hw hW hS => ?_)
      refine tr_istore (x := x_1993) C hl [(6, .inl x_1993), (5, .inl x_1981), (1, .inr (.inr v1)), (2, .inr (.inr v2)), (3, .inr (.inr v3)), (4, .inl v4), (0, .inr (.inr (some b)))] (by decide) rfl dL_law_1996 (fun ls hl => ?_)
      refine lv_goto (tgt := 2056) C.1.1 C.1.2.1 dL_law_1998 (by decide) ?_
      exact s_L_law_2056 C hr hX hbl hbA hA2 hcN hll k27 hk27 ((nc + 1)) ((ns + 6)) v1 v2 v3 v4 _ _ _ _ (show (nc + 1) ≤ 646169 ∧ (ns + 6) ≤ 7157597 by omega) hW hS (tl_sub hl [2, 3, 4, 5, 6] rfl) hw
    have hw := hw.2
    by_cases hc42 : (x_40 &&& (63 : Int32)) = (42 : Int32)
    · have hw := hw.1 hc42
      refine lv_tableIn (off := 1957) (tgt := 2001) C.1.1 C.1.2.1 dL_law_44 (by rw [hc42]; decide) (by rw [hc42]; decide) (by rw [hc42]; rfl) (by decide) ?_
      refine tr_aload_n (k := 1) (x := v1) C hl 0 rfl dL_law_2001 ?_
      refine tr_aload_n (k := 0) (x := (some b)) C hl 4 rfl dL_law_2002 ?_
      refine tr_iload (x := v4) C hl 3 rfl dL_law_2003 ?_
      refine lv_iconst (v := (1 : Int32)) C.1.1 C.1.2.1 dL_law_2005 (by decide) ?_
      refine lv_iadd C.1.1 C.1.2.1 dL_law_2006 ?_
      refine tr_sld C hX hbl hbA hS dL_law_2007 hw (fun x_2007 hw => ?_)
      refine tr_aload_n (k := 3) (x := v3) C hl 2 rfl dL_law_2008 ?_
      have hq58 := hw.1
      have hw := hw.2
      refine tx_backNI (tx_runSX (As := [va_rf v1, .int x_2007, va_rf v3]) C hl.1 (c_L_begin l hll K _ v1 x_2007 v3) (vx_cwSW 3 C.1.2.2.2.2 (gi_SX (zm kw_970) (zm kw_971) (zm kw_680) (zm kw_969)) rfl rfl rfl (by decide +kernel) ⟨(Nat.le_of_ble_eq_true rfl), (Nat.le_of_ble_eq_true rfl)⟩) rfl dL_law_2009 ⟨hq58.1, hq58.2⟩ [] rfl (Nat.le_of_ble_eq_true rfl) rfl hW hS hw) hS (fun x_2009 G_2009 H locs hw hW hS => ?_)
      refine tr_istore (x := x_2009) C hl [(5, .inl x_2009), (1, .inr (.inr v1)), (2, .inr (.inr v2)), (3, .inr (.inr v3)), (4, .inl v4), (0, .inr (.inr (some b)))] (by decide) rfl dL_law_2012 (fun ls hl => ?_)
      refine tr_aload_n (k := 2) (x := v2) C hl 2 rfl dL_law_2014 ?_
      refine tr_aload_n (k := 0) (x := (some b)) C hl 5 rfl dL_law_2015 ?_
      refine tr_iload (x := v4) C hl 4 rfl dL_law_2016 ?_
      refine lv_iconst (v := (1 : Int32)) C.1.1 C.1.2.1 dL_law_2018 (by decide) ?_
      refine lv_iadd C.1.1 C.1.2.1 dL_law_2019 ?_
      refine tr_sld C hX hbl hbA hS dL_law_2020 hw (fun x_2020 hw => ?_)
      refine tr_backI (tr_runV (r := v2) (As := [.int x_2020]) C hl.1 (c_X3_begin l hll K _ v2 x_2020) (cwV 1 C.1.2.2.2.2 (gi_V (zm kw_973) (zm kw_974) (zm kw_975) (zm kw_155) (zm kw_972)) rfl rfl rfl (by decide +kernel) ⟨(Nat.le_of_ble_eq_true rfl), (Nat.le_of_ble_eq_true rfl)⟩) rfl rfl dL_law_2021 ⟨(show (nc + 1) + 0 ≤ 646169 by omega), (show (ns + 6) + 0 ≤ 7157597 by omega)⟩ [] rfl (Nat.le_of_ble_eq_true rfl) rfl hW hS hw) hS (fun x_2021 G_2021 H locs hw hW hS => ?_)
      refine tr_istore (x := x_2021) C hl [(6, .inl x_2021), (5, .inl x_2009), (1, .inr (.inr v1)), (2, .inr (.inr v2)), (3, .inr (.inr v3)), (4, .inl v4), (0, .inr (.inr (some b)))] (by decide) rfl dL_law_2024 (fun ls hl => ?_)
      refine lv_goto (tgt := 2056) C.1.1 C.1.2.1 dL_law_2026 (by decide) ?_
      exact s_L_law_2056 C hr hX hbl hbA hA2 hcN hll k27 hk27 ((nc + 1)) ((ns + 6)) v1 v2 v3 v4 _ _ _ _ (show (nc + 1) ≤ 646169 ∧ (ns + 6) ≤ 7157597 by omega) hW hS (tl_sub hl [2, 3, 4, 5, 6] rfl) hw
    have hw := hw.2
    by_cases hc43 : (x_40 &&& (63 : Int32)) = (43 : Int32)
    · have hw := hw.1 hc43
      refine lv_tableIn (off := 1985) (tgt := 2029) C.1.1 C.1.2.1 dL_law_44 (by rw [hc43]; decide) (by rw [hc43]; decide) (by rw [hc43]; rfl) (by decide) ?_
      refine tr_aload_n (k := 1) (x := v1) C hl 0 rfl dL_law_2029 ?_
      have hq59 := hw.1
      have hw := hw.2
      refine tr_backI (tr_runV (r := v1) (As := []) C hl.1 (c_X1_isSound l hll K _ v1) (cwV 0 C.1.2.2.2.2 (gi_V (zm kw_976) (zm kw_134) (zm kw_135) (zm kw_33) (zm kw_132)) rfl rfl rfl (by decide +kernel) ⟨(Nat.le_of_ble_eq_true rfl), (Nat.le_of_ble_eq_true rfl)⟩) rfl rfl dL_law_2030 ⟨hq59.1, hq59.2⟩ [] rfl (Nat.le_of_ble_eq_true rfl) rfl hW hS hw) hS (fun x_2030 G_2030 H locs hw hW hS => ?_)
      refine lv_pop C.1.1 C.1.2.1 dL_law_2033 rfl ?_
      refine tr_aload_n (k := 2) (x := v2) C hl 1 rfl dL_law_2034 ?_
      refine tr_backI (tr_runV (r := v2) (As := []) C hl.1 (c_X3_isSound l hll K _ v2) (cwV 0 C.1.2.2.2.2 (gi_V (zm kw_978) (zm kw_979) (zm kw_980) (zm kw_155) (zm kw_977)) rfl rfl rfl (by decide +kernel) ⟨(Nat.le_of_ble_eq_true rfl), (Nat.le_of_ble_eq_true rfl)⟩) rfl rfl dL_law_2035 ⟨(show (nc + 7) + 0 ≤ 646169 by omega), (show (ns + 28) + 0 ≤ 7157597 by omega)⟩ [] rfl (Nat.le_of_ble_eq_true rfl) rfl hW hS hw) hS (fun x_2035 G_2035 H locs hw hW hS => ?_)
      refine lv_pop C.1.1 C.1.2.1 dL_law_2038 rfl ?_
      refine lv_goto (tgt := 2056) C.1.1 C.1.2.1 dL_law_2039 (by decide) ?_
      exact s_L_law_2056 C hr hX hbl hbA hA2 hcN hll k27 hk27 ((nc + 7)) ((ns + 28)) v1 v2 v3 v4 _ _ _ _ (show (nc + 7) ≤ 646169 ∧ (ns + 28) ≤ 7157597 by omega) hW hS (tl_sub hl [0, 1, 2, 3, 4] rfl) hw
    have hw := hw.2
    by_cases hc44 : (x_40 &&& (63 : Int32)) = (44 : Int32)
    · have hw := hw.1 hc44
      refine lv_tableIn (off := 1998) (tgt := 2042) C.1.1 C.1.2.1 dL_law_44 (by rw [hc44]; decide) (by rw [hc44]; decide) (by rw [hc44]; rfl) (by decide) ?_
      refine tr_aload_n (k := 1) (x := v1) C hl 0 rfl dL_law_2042 ?_
      have hq60 := hw.1
      have hw := hw.2
      refine tx_backNL (tx_runV (r := v1) (As := []) C hl.1 (c_X1_digest l hll K _ _ v1) (cwV 0 C.1.2.2.2.2 (gi_V (zm kw_982) (zm kw_983) (zm kw_984) (zm kw_33) (zm kw_981)) rfl rfl rfl (by decide +kernel) ⟨(Nat.le_of_ble_eq_true rfl), (Nat.le_of_ble_eq_true rfl)⟩) rfl rfl dL_law_2043 ⟨hq60.1, hq60.2⟩ [] rfl (Nat.le_of_ble_eq_true rfl) rfl hW hS hw) hS (fun x_2043 G_2043 H locs hw hW hS => ?_)
      refine tr_aload_n (k := 2) (x := v2) C hl 1 rfl dL_law_2046 ?_
      have hq61 := hw.1
      have hw := hw.2
      refine tr_backL (tr_runV (r := v2) (As := []) C hl.1 (c_X3_digest l hll K _ v2) (cwV 0 C.1.2.2.2.2 (gi_V (zm kw_986) (zm kw_987) (zm kw_988) (zm kw_155) (zm kw_985)) rfl rfl rfl (by decide +kernel) ⟨(Nat.le_of_ble_eq_true rfl), (Nat.le_of_ble_eq_true rfl)⟩) rfl rfl dL_law_2047 ⟨hq61.1, hq61.2⟩ [.inr (.inl x_2043)] rfl (Nat.le_of_ble_eq_true rfl) rfl hW hS hw) hS (fun x_2047 G_2047 H locs hw hW hS => ?_)
      refine W.lcmp C.1.1 C.1.2.1 dL_law_2050 ?_
      refine lv_if_eq (tgt := 2056) C.1.1 C.1.2.1 dL_law_2051 (by decide) (fun hc => ?_) (fun hc => ?_)
      · have hw := hw.1 hc
        exact s_L_law_2056 C hr hX hbl hbA hA2 hcN hll k27 hk27 (((nc + 61) + 20)) (((ns + 352) + 200)) v1 v2 v3 v4 _ _ _ _ (show ((nc + 61) + 20) ≤ 646169 ∧ ((ns + 352) + 200) ≤ 7157597 by omega) hW hS (tl_sub hl [0, 1, 2, 3, 4] rfl) hw
      · have hw := hw.2 hc
        refine lv_iconst (v := (0 : Int32)) C.1.1 C.1.2.1 dL_law_2054 (by decide) ?_
        exact tr_law C hr hA2 dL_law_2055 (show ((nc + 61) + 20) ≤ 646169 by omega) (show ((ns + 352) + 200) ≤ 7157597 by omega) hS hw
    have hw := hw.2
    have hcd : (((x_40 &&& (63 : Int32))).toInt < 0 ∨ 44 < ((x_40 &&& (63 : Int32))).toInt) := by
      have q0 := lv_neT (a := 0) hc0 (by decide)
      have q1 := lv_neT (a := 1) hc1 (by decide)
      have q2 := lv_neT (a := 2) hc2 (by decide)
      have q3 := lv_neT (a := 3) hc3 (by decide)
      have q4 := lv_neT (a := 4) hc4 (by decide)
      have q5 := lv_neT (a := 5) hc5 (by decide)
      have q6 := lv_neT (a := 6) hc6 (by decide)
      have q7 := lv_neT (a := 7) hc7 (by decide)
      have q8 := lv_neT (a := 8) hc8 (by decide)
      have q9 := lv_neT (a := 9) hc9 (by decide)
      have q10 := lv_neT (a := 10) hc10 (by decide)
      have q11 := lv_neT (a := 11) hc11 (by decide)
      have q12 := lv_neT (a := 12) hc12 (by decide)
      have q13 := lv_neT (a := 13) hc13 (by decide)
      have q14 := lv_neT (a := 14) hc14 (by decide)
      have q15 := lv_neT (a := 15) hc15 (by decide)
      have q16 := lv_neT (a := 16) hc16 (by decide)
      have q17 := lv_neT (a := 17) hc17 (by decide)
      have q18 := lv_neT (a := 18) hc18 (by decide)
      have q19 := lv_neT (a := 19) hc19 (by decide)
      have q20 := lv_neT (a := 20) hc20 (by decide)
      have q21 := lv_neT (a := 21) hc21 (by decide)
      have q22 := lv_neT (a := 22) hc22 (by decide)
      have q23 := lv_neT (a := 23) hc23 (by decide)
      have q24 := lv_neT (a := 24) hc24 (by decide)
      have q25 := lv_neT (a := 25) hc25 (by decide)
      have q26 := lv_neT (a := 26) hc26 (by decide)
      have q27 := lv_neT (a := 27) hc27 (by decide)
      have q28 := lv_neT (a := 28) hc28 (by decide)
      have q29 := lv_neT (a := 29) hc29 (by decide)
      have q30 := lv_neT (a := 30) hc30 (by decide)
      have q31 := lv_neT (a := 31) hc31 (by decide)
      have q32 := lv_neT (a := 32) hc32 (by decide)
      have q33 := lv_neT (a := 33) hc33 (by decide)
      have q34 := lv_neT (a := 34) hc34 (by decide)
      have q35 := lv_neT (a := 35) hc35 (by decide)
      have q36 := lv_neT (a := 36) hc36 (by decide)
      have q37 := lv_neT (a := 37) hc37 (by decide)
      have q38 := lv_neT (a := 38) hc38 (by decide)
      have q39 := lv_neT (a := 39) hc39 (by decide)
      have q40 := lv_neT (a := 40) hc40 (by decide)
      have q41 := lv_neT (a := 41) hc41 (by decide)
      have q42 := lv_neT (a := 42) hc42 (by decide)
      have q43 := lv_neT (a := 43) hc43 (by decide)
      have q44 := lv_neT (a := 44) hc44 (by decide)
      omega
    have hw := hw hcd
    refine lv_tableOut (tgt := 2056) C.1.1 C.1.2.1 dL_law_44 hcd (by decide) ?_
    exact s_L_law_2056 C hr hX hbl hbA hA2 hcN hll k27 hk27 nc ns v1 v2 v3 v4 _ _ _ _ (show nc ≤ 646169 ∧ ns ≤ 7157597 by omega) hW hS (tl_sub hl [0, 1, 2, 3, 4] rfl) hw
set_option maxHeartbeats 4000000 in
set_option maxRecDepth 100000 in
theorem s_L_law_27 {K : tK} (C : tc_B p l s m #[Value.ref b] meth c D K A wz_L_law RL cL_law 7) (hr : meth.sig.returnType = (some .boolean)) (hX : va_X b xL xs s s.heap) (hbl : b < s.heap.size) (hbA : ¬ A b) (hA2 : ∀ q : Nat, A q → s.heap.size ≤ q) (hcN : va_Nw tw_nest s) (hll : l.stackTraces = false)  : ∀ (n : Nat) (nc ns : Nat) (v1 : Option Nat) (v2 : Option Nat) (v3 : Option Nat) (v4 : Int32) (G : tG) (H : Heap) (locs : List Loc) (ls : Array Slot), nc ≤ 646169 ∧ ns ≤ 7157597 → tg_W D A s H G → va_S A s.heap H locs → tl ls 7 [(1, .inr (.inr v1)), (2, .inr (.inr v2)), (3, .inr (.inr v3)), (4, .inl v4), (0, .inr (.inr (some b)))] → w_L_law_27 K xL xs n nc ns v1 v2 v3 v4 G → W p l e room_1 s m #[Value.ref b] below meth c H locs nc ns (lw_Z below #[Value.ref b] s) (F0 m 27 ls []) := by
  intro n
  induction n with
  | zero =>
    intro nc ns v1 v2 v3 v4 G H locs ls hcn hW hS hl hw
    exact hw.elim
  | succ n ih => exact s_L_law_27_b C hr hX hbl hbA hA2 hcN hll  _ ih
set_option maxHeartbeats 4000000 in
set_option maxRecDepth 100000 in
theorem s_L_law {K : tK} (C : tc_B p l s m #[Value.ref b] meth c D K A wz_L_law RL cL_law 7) (hr : meth.sig.returnType = (some .boolean)) (hX : va_X b xL xs s s.heap) (hbl : b < s.heap.size) (hbA : ¬ A b) (hA2 : ∀ q : Nat, A q → s.heap.size ≤ q) (hcN : va_Nw tw_nest s) (hll : l.stackTraces = false)  : ∀ (G : tG) (H : Heap) (locs : List Loc) (ls : Array Slot), tg_W D A s H G → va_S A s.heap H locs → tl ls 7 [(0, .inr (.inr (some b)))] → w_L_law K xL xs G → W p l e room_1 s m #[Value.ref b] below meth c H locs 0 0 (lw_Z below #[Value.ref b] s) (F0 m 0 ls []) := by
  intro G H locs ls hW hS hl hw
  unfold w_L_law at hw
  have hq62 := hw.1
  have hw := hw.2
  refine tr_new (C0 := RX1) (T := TX1) (N := 4) (ci := 3) (fs := [.null, .null, .int 0, .int 0]) C (zh hw_X1) tyX1 tyX1_ok (zm kw_989) (zm kw_990) (zm kw_33) rfl df_X1 hq62.1 hq62.2 dL_law_0 hW hS hw (fun r_0 G_0 H hw hW hS => ?_)
  refine lv_dup C.1.1 C.1.2.1 dL_law_3 (va_rf_cat _) ?_
  have hq63 := hw.1
  have hw := hw.2
  refine tr_backV (tr_runI (r := r_0) (As := []) C hl.1 (c_X1_init l hll K _ r_0) (cwI 0 C.1.2.2.2.2 (gi_I  (zm kw_991)) rfl rfl rfl (C.1.2.2.2.2 _ (zm kw_33)) (C.1.2.2.2.2 _ (zm kw_992)) (C.1.2.2.2.2 _ (zm kw_993)) rfl (by decide +kernel) ⟨(Nat.le_of_ble_eq_true rfl), (Nat.le_of_ble_eq_true rfl)⟩) rfl dL_law_4 ⟨hq63.1, hq63.2⟩ [.inr (.inr r_0)] rfl (Nat.le_of_ble_eq_true rfl) rfl hW hS hw) hS (fun G_4 H locs hw hW hS => ?_)
  refine tr_astore_n (k := 1) (x := r_0) C hl [(1, .inr (.inr r_0)), (0, .inr (.inr (some b)))] (by decide) rfl dL_law_7 (fun ls hl => ?_)
  have hq64 := hw.1
  have hw := hw.2
  refine tr_new (C0 := RX3) (T := TX3) (N := 8) (ci := 5) (fs := [.null, .null, .null, .null, .int 0, .int 0, .int 0, .long 0]) C (zh hw_X3) tyX3 tyX3_ok (zm kw_994) (zm kw_995) (zm kw_155) rfl df_X3 hq64.1 hq64.2 dL_law_8 hW hS hw (fun r_8 G_8 H hw hW hS => ?_)
  refine lv_dup C.1.1 C.1.2.1 dL_law_11 (va_rf_cat _) ?_
  have hq65 := hw.1
  have hw := hw.2
  refine tr_backV (tr_runI (r := r_8) (As := []) C hl.1 (c_X3_init l hll K _ r_8) (cwI 0 C.1.2.2.2.2 (gi_I  (zm kw_996)) rfl rfl rfl (C.1.2.2.2.2 _ (zm kw_155)) (C.1.2.2.2.2 _ (zm kw_997)) (C.1.2.2.2.2 _ (zm kw_998)) rfl (by decide +kernel) ⟨(Nat.le_of_ble_eq_true rfl), (Nat.le_of_ble_eq_true rfl)⟩) rfl dL_law_12 ⟨hq65.1, hq65.2⟩ [.inr (.inr r_8)] rfl (Nat.le_of_ble_eq_true rfl) rfl hW hS hw) hS (fun G_12 H locs hw hW hS => ?_)
  refine tr_astore_n (k := 2) (x := r_8) C hl [(2, .inr (.inr r_8)), (1, .inr (.inr r_0)), (0, .inr (.inr (some b)))] (by decide) rfl dL_law_15 (fun ls hl => ?_)
  have hq66 := hw.1
  have hw := hw.2
  refine tr_new (C0 := RX2) (T := TX2) (N := 2) (ci := 4) (fs := [.long 0, .null]) C (zh hw_X2) tyX2 tyX2_ok (zm kw_999) (zm kw_1000) (zm kw_1001) rfl df_X2 hq66.1 hq66.2 dL_law_16 hW hS hw (fun r_16 G_16 H hw hW hS => ?_)
  refine lv_dup C.1.1 C.1.2.1 dL_law_19 (va_rf_cat _) ?_
  refine tr_backV (tr_runIN (r := r_16) (As := []) C hl.1 (c_X2_init l hll K _ r_16) (tw_cnI 0 C.1.2.2.2.2 (gi_I  (zm kw_1002)) rfl rfl rfl hcN (C.1.2.2.2.2 _ (zm kw_1001)) (C.1.2.2.2.2 _ (zm kw_1003)) rfl (by decide +kernel) ⟨(Nat.le_of_ble_eq_true rfl), (Nat.le_of_ble_eq_true rfl)⟩) rfl dL_law_20 ⟨(show (((((0 + 1) + 8) + 1) + 7) + 1) + 0 ≤ 646169 by omega), (show (((((0 + 4) + 67) + 8) + 36) + 2) + 0 ≤ 7157597 by omega)⟩ [.inr (.inr r_16)] rfl (Nat.le_of_ble_eq_true rfl) rfl hW hS hw) hS (fun G_20 H locs hw hW hS => ?_)
  refine tr_astore_n (k := 3) (x := r_16) C hl [(3, .inr (.inr r_16)), (2, .inr (.inr r_8)), (1, .inr (.inr r_0)), (0, .inr (.inr (some b)))] (by decide) rfl dL_law_23 (fun ls hl => ?_)
  refine lv_iconst (v := (0 : Int32)) C.1.1 C.1.2.1 dL_law_24 (by decide) ?_
  refine tr_istore (x := (0 : Int32)) C hl [(4, .inl (0 : Int32)), (3, .inr (.inr r_16)), (2, .inr (.inr r_8)), (1, .inr (.inr r_0)), (0, .inr (.inr (some b)))] (by decide) rfl dL_law_25 (fun ls hl => ?_)
  obtain ⟨n27, hw⟩ := hw
  exact s_L_law_27 C hr hX hbl hbA hA2 hcN hll n27 ((((((0 + 1) + 8) + 1) + 7) + 1)) ((((((0 + 4) + 67) + 8) + 36) + 2)) r_0 r_8 r_16 ((0 : Int32)) _ _ _ _ (show (((((0 + 1) + 8) + 1) + 7) + 1) ≤ 646169 ∧ (((((0 + 4) + 67) + 8) + 36) + 2) ≤ 7157597 by omega) hW hS (tl_sub hl [3, 2, 1, 0, 4] rfl) hw
end Z_L_law

