/-! L_law -/
def wz_L_law : List Cond := Cond.initialized RX1 :: w0
section Z_L_law
variable {p : Program} {l : Launch} {e : Env} {s : State} {m : MethodId} {args : Array Value} {below : List Frame} {meth : Method} {c : Code} {D : va_G} {A : Nat → Prop} {b xL : Nat} {xs : Nat → Int32}
set_option maxHeartbeats 4000000 in
set_option maxRecDepth 100000 in
theorem s_L_law_3312 {K : tK} (C : tc_B p l s m #[Value.ref b] meth c D K A wz_L_law RL cL_law 7) (hr : meth.sig.returnType = (some .boolean)) (hX : va_X b xL xs s s.heap) (hbl : b < s.heap.size) (hbA : ¬ A b) (hA2 : ∀ q : Nat, A q → s.heap.size ≤ q) (hcN : va_Nw tw_nest s) (hll : l.stackTraces = false)  (k27 : Nat → Nat → Option Nat → Option Nat → Option Nat → Int32 → tG → Prop) (hk27 : ∀ (nc ns : Nat) (v1 : Option Nat) (v2 : Option Nat) (v3 : Option Nat) (v4 : Int32) (G : tG) (H : Heap) (locs : List Loc) (ls : Array Slot), nc ≤ 645934 ∧ ns ≤ 7158302 → tg_W D A s H G → va_S A s.heap H locs → tl ls 7 [(1, .inr (.inr v1)), (2, .inr (.inr v2)), (3, .inr (.inr v3)), (4, .inl v4), (0, .inr (.inr (some b)))] → k27 nc ns v1 v2 v3 v4 G → W p l e room_1 s m #[Value.ref b] below meth c H locs nc ns (lw_Z below #[Value.ref b] s) (F0 m 27 ls [])) : ∀ (nc ns : Nat) (v1 : Option Nat) (v2 : Option Nat) (v3 : Option Nat) (v4 : Int32) (G : tG) (H : Heap) (locs : List Loc) (ls : Array Slot), nc ≤ 645934 ∧ ns ≤ 7158302 → tg_W D A s H G → va_S A s.heap H locs → tl ls 7 [(1, .inr (.inr v1)), (2, .inr (.inr v2)), (3, .inr (.inr v3)), (4, .inl v4), (0, .inr (.inr (some b)))] → w_L_law_3312 K xL xs k27 nc ns v1 v2 v3 v4 G → W p l e room_1 s m #[Value.ref b] below meth c H locs nc ns (lw_Z below #[Value.ref b] s) (F0 m 3312 ls []) := by
  intro nc ns v1 v2 v3 v4 G H locs ls hcn hW hS hl hw
  unfold w_L_law_3312 at hw
  refine tr_iinc C hl 3 (v4 + (6 : Int32)) [(4, .inl (v4 + (6 : Int32))), (1, .inr (.inr v1)), (2, .inr (.inr v2)), (3, .inr (.inr v3)), (0, .inr (.inr (some b)))] rfl rfl (by decide) rfl dL_law_3312 (fun ls hl => ?_)
  refine lv_goto (tgt := 27) C.1.1 C.1.2.1 dL_law_3315 (by decide) ?_
  exact hk27 nc ns v1 v2 v3 ((v4 + (6 : Int32))) _ _ _ _ (show nc ≤ 645934 ∧ ns ≤ 7158302 by omega) hW hS (tl_sub hl [1, 2, 3, 0, 4] rfl) hw
set_option maxHeartbeats 4000000 in
set_option maxRecDepth 100000 in
theorem s_L_law_306 {K : tK} (C : tc_B p l s m #[Value.ref b] meth c D K A wz_L_law RL cL_law 7) (hr : meth.sig.returnType = (some .boolean)) (hX : va_X b xL xs s s.heap) (hbl : b < s.heap.size) (hbA : ¬ A b) (hA2 : ∀ q : Nat, A q → s.heap.size ≤ q) (hcN : va_Nw tw_nest s) (hll : l.stackTraces = false)  (k27 : Nat → Nat → Option Nat → Option Nat → Option Nat → Int32 → tG → Prop) (hk27 : ∀ (nc ns : Nat) (v1 : Option Nat) (v2 : Option Nat) (v3 : Option Nat) (v4 : Int32) (G : tG) (H : Heap) (locs : List Loc) (ls : Array Slot), nc ≤ 645934 ∧ ns ≤ 7158302 → tg_W D A s H G → va_S A s.heap H locs → tl ls 7 [(1, .inr (.inr v1)), (2, .inr (.inr v2)), (3, .inr (.inr v3)), (4, .inl v4), (0, .inr (.inr (some b)))] → k27 nc ns v1 v2 v3 v4 G → W p l e room_1 s m #[Value.ref b] below meth c H locs nc ns (lw_Z below #[Value.ref b] s) (F0 m 27 ls [])) : ∀ (nc ns : Nat) (v1 : Option Nat) (v2 : Option Nat) (v3 : Option Nat) (v4 : Int32) (G : tG) (H : Heap) (locs : List Loc) (ls : Array Slot), nc ≤ 645934 ∧ ns ≤ 7158302 → tg_W D A s H G → va_S A s.heap H locs → tl ls 7 [(1, .inr (.inr v1)), (2, .inr (.inr v2)), (3, .inr (.inr v3)), (4, .inl v4), (0, .inr (.inr (some b)))] → w_L_law_306 K xL xs k27 nc ns v1 v2 v3 v4 G → W p l e room_1 s m #[Value.ref b] below meth c H locs nc ns (lw_Z below #[Value.ref b] s) (F0 m 306 ls []) := by
  intro nc ns v1 v2 v3 v4 G H locs ls hcn hW hS hl hw
  unfold w_L_law_306 at hw
  refine lv_goto (tgt := 3312) C.1.1 C.1.2.1 dL_law_306 (by decide) ?_
  exact s_L_law_3312 C hr hX hbl hbA hA2 hcN hll k27 hk27 nc ns v1 v2 v3 v4 _ _ _ _ (show nc ≤ 645934 ∧ ns ≤ 7158302 by omega) hW hS (tl_sub hl [0, 1, 2, 3, 4] rfl) hw
set_option maxHeartbeats 4000000 in
set_option maxRecDepth 100000 in
theorem s_L_law_387 {K : tK} (C : tc_B p l s m #[Value.ref b] meth c D K A wz_L_law RL cL_law 7) (hr : meth.sig.returnType = (some .boolean)) (hX : va_X b xL xs s s.heap) (hbl : b < s.heap.size) (hbA : ¬ A b) (hA2 : ∀ q : Nat, A q → s.heap.size ≤ q) (hcN : va_Nw tw_nest s) (hll : l.stackTraces = false)  (k27 : Nat → Nat → Option Nat → Option Nat → Option Nat → Int32 → tG → Prop) (hk27 : ∀ (nc ns : Nat) (v1 : Option Nat) (v2 : Option Nat) (v3 : Option Nat) (v4 : Int32) (G : tG) (H : Heap) (locs : List Loc) (ls : Array Slot), nc ≤ 645934 ∧ ns ≤ 7158302 → tg_W D A s H G → va_S A s.heap H locs → tl ls 7 [(1, .inr (.inr v1)), (2, .inr (.inr v2)), (3, .inr (.inr v3)), (4, .inl v4), (0, .inr (.inr (some b)))] → k27 nc ns v1 v2 v3 v4 G → W p l e room_1 s m #[Value.ref b] below meth c H locs nc ns (lw_Z below #[Value.ref b] s) (F0 m 27 ls [])) : ∀ (nc ns : Nat) (v1 : Option Nat) (v2 : Option Nat) (v3 : Option Nat) (v4 : Int32) (G : tG) (H : Heap) (locs : List Loc) (ls : Array Slot), nc ≤ 645934 ∧ ns ≤ 7158302 → tg_W D A s H G → va_S A s.heap H locs → tl ls 7 [(1, .inr (.inr v1)), (2, .inr (.inr v2)), (3, .inr (.inr v3)), (4, .inl v4), (0, .inr (.inr (some b)))] → w_L_law_387 K xL xs k27 nc ns v1 v2 v3 v4 G → W p l e room_1 s m #[Value.ref b] below meth c H locs nc ns (lw_Z below #[Value.ref b] s) (F0 m 387 ls []) := by
  intro nc ns v1 v2 v3 v4 G H locs ls hcn hW hS hl hw
  unfold w_L_law_387 at hw
  refine lv_goto (tgt := 3312) C.1.1 C.1.2.1 dL_law_387 (by decide) ?_
  exact s_L_law_3312 C hr hX hbl hbA hA2 hcN hll k27 hk27 nc ns v1 v2 v3 v4 _ _ _ _ (show nc ≤ 645934 ∧ ns ≤ 7158302 by omega) hW hS (tl_sub hl [0, 1, 2, 3, 4] rfl) hw
set_option maxHeartbeats 4000000 in
set_option maxRecDepth 100000 in
theorem s_L_law_456 {K : tK} (C : tc_B p l s m #[Value.ref b] meth c D K A wz_L_law RL cL_law 7) (hr : meth.sig.returnType = (some .boolean)) (hX : va_X b xL xs s s.heap) (hbl : b < s.heap.size) (hbA : ¬ A b) (hA2 : ∀ q : Nat, A q → s.heap.size ≤ q) (hcN : va_Nw tw_nest s) (hll : l.stackTraces = false)  (k27 : Nat → Nat → Option Nat → Option Nat → Option Nat → Int32 → tG → Prop) (hk27 : ∀ (nc ns : Nat) (v1 : Option Nat) (v2 : Option Nat) (v3 : Option Nat) (v4 : Int32) (G : tG) (H : Heap) (locs : List Loc) (ls : Array Slot), nc ≤ 645934 ∧ ns ≤ 7158302 → tg_W D A s H G → va_S A s.heap H locs → tl ls 7 [(1, .inr (.inr v1)), (2, .inr (.inr v2)), (3, .inr (.inr v3)), (4, .inl v4), (0, .inr (.inr (some b)))] → k27 nc ns v1 v2 v3 v4 G → W p l e room_1 s m #[Value.ref b] below meth c H locs nc ns (lw_Z below #[Value.ref b] s) (F0 m 27 ls [])) : ∀ (nc ns : Nat) (v1 : Option Nat) (v2 : Option Nat) (v3 : Option Nat) (v4 : Int32) (G : tG) (H : Heap) (locs : List Loc) (ls : Array Slot), nc ≤ 645934 ∧ ns ≤ 7158302 → tg_W D A s H G → va_S A s.heap H locs → tl ls 7 [(1, .inr (.inr v1)), (2, .inr (.inr v2)), (3, .inr (.inr v3)), (4, .inl v4), (0, .inr (.inr (some b)))] → w_L_law_456 K xL xs k27 nc ns v1 v2 v3 v4 G → W p l e room_1 s m #[Value.ref b] below meth c H locs nc ns (lw_Z below #[Value.ref b] s) (F0 m 456 ls []) := by
  intro nc ns v1 v2 v3 v4 G H locs ls hcn hW hS hl hw
  unfold w_L_law_456 at hw
  refine lv_goto (tgt := 3312) C.1.1 C.1.2.1 dL_law_456 (by decide) ?_
  exact s_L_law_3312 C hr hX hbl hbA hA2 hcN hll k27 hk27 nc ns v1 v2 v3 v4 _ _ _ _ (show nc ≤ 645934 ∧ ns ≤ 7158302 by omega) hW hS (tl_sub hl [0, 1, 2, 3, 4] rfl) hw
set_option maxHeartbeats 4000000 in
set_option maxRecDepth 100000 in
theorem s_L_law_549 {K : tK} (C : tc_B p l s m #[Value.ref b] meth c D K A wz_L_law RL cL_law 7) (hr : meth.sig.returnType = (some .boolean)) (hX : va_X b xL xs s s.heap) (hbl : b < s.heap.size) (hbA : ¬ A b) (hA2 : ∀ q : Nat, A q → s.heap.size ≤ q) (hcN : va_Nw tw_nest s) (hll : l.stackTraces = false)  (k27 : Nat → Nat → Option Nat → Option Nat → Option Nat → Int32 → tG → Prop) (hk27 : ∀ (nc ns : Nat) (v1 : Option Nat) (v2 : Option Nat) (v3 : Option Nat) (v4 : Int32) (G : tG) (H : Heap) (locs : List Loc) (ls : Array Slot), nc ≤ 645934 ∧ ns ≤ 7158302 → tg_W D A s H G → va_S A s.heap H locs → tl ls 7 [(1, .inr (.inr v1)), (2, .inr (.inr v2)), (3, .inr (.inr v3)), (4, .inl v4), (0, .inr (.inr (some b)))] → k27 nc ns v1 v2 v3 v4 G → W p l e room_1 s m #[Value.ref b] below meth c H locs nc ns (lw_Z below #[Value.ref b] s) (F0 m 27 ls [])) : ∀ (nc ns : Nat) (v1 : Option Nat) (v2 : Option Nat) (v3 : Option Nat) (v4 : Int32) (G : tG) (H : Heap) (locs : List Loc) (ls : Array Slot), nc ≤ 645934 ∧ ns ≤ 7158302 → tg_W D A s H G → va_S A s.heap H locs → tl ls 7 [(1, .inr (.inr v1)), (2, .inr (.inr v2)), (3, .inr (.inr v3)), (4, .inl v4), (0, .inr (.inr (some b)))] → w_L_law_549 K xL xs k27 nc ns v1 v2 v3 v4 G → W p l e room_1 s m #[Value.ref b] below meth c H locs nc ns (lw_Z below #[Value.ref b] s) (F0 m 549 ls []) := by
  intro nc ns v1 v2 v3 v4 G H locs ls hcn hW hS hl hw
  unfold w_L_law_549 at hw
  refine lv_goto (tgt := 3312) C.1.1 C.1.2.1 dL_law_549 (by decide) ?_
  exact s_L_law_3312 C hr hX hbl hbA hA2 hcN hll k27 hk27 nc ns v1 v2 v3 v4 _ _ _ _ (show nc ≤ 645934 ∧ ns ≤ 7158302 by omega) hW hS (tl_sub hl [0, 1, 2, 3, 4] rfl) hw
set_option maxHeartbeats 4000000 in
set_option maxRecDepth 100000 in
theorem s_L_law_630 {K : tK} (C : tc_B p l s m #[Value.ref b] meth c D K A wz_L_law RL cL_law 7) (hr : meth.sig.returnType = (some .boolean)) (hX : va_X b xL xs s s.heap) (hbl : b < s.heap.size) (hbA : ¬ A b) (hA2 : ∀ q : Nat, A q → s.heap.size ≤ q) (hcN : va_Nw tw_nest s) (hll : l.stackTraces = false)  (k27 : Nat → Nat → Option Nat → Option Nat → Option Nat → Int32 → tG → Prop) (hk27 : ∀ (nc ns : Nat) (v1 : Option Nat) (v2 : Option Nat) (v3 : Option Nat) (v4 : Int32) (G : tG) (H : Heap) (locs : List Loc) (ls : Array Slot), nc ≤ 645934 ∧ ns ≤ 7158302 → tg_W D A s H G → va_S A s.heap H locs → tl ls 7 [(1, .inr (.inr v1)), (2, .inr (.inr v2)), (3, .inr (.inr v3)), (4, .inl v4), (0, .inr (.inr (some b)))] → k27 nc ns v1 v2 v3 v4 G → W p l e room_1 s m #[Value.ref b] below meth c H locs nc ns (lw_Z below #[Value.ref b] s) (F0 m 27 ls [])) : ∀ (nc ns : Nat) (v1 : Option Nat) (v2 : Option Nat) (v3 : Option Nat) (v4 : Int32) (G : tG) (H : Heap) (locs : List Loc) (ls : Array Slot), nc ≤ 645934 ∧ ns ≤ 7158302 → tg_W D A s H G → va_S A s.heap H locs → tl ls 7 [(1, .inr (.inr v1)), (2, .inr (.inr v2)), (3, .inr (.inr v3)), (4, .inl v4), (0, .inr (.inr (some b)))] → w_L_law_630 K xL xs k27 nc ns v1 v2 v3 v4 G → W p l e room_1 s m #[Value.ref b] below meth c H locs nc ns (lw_Z below #[Value.ref b] s) (F0 m 630 ls []) := by
  intro nc ns v1 v2 v3 v4 G H locs ls hcn hW hS hl hw
  unfold w_L_law_630 at hw
  refine lv_goto (tgt := 3312) C.1.1 C.1.2.1 dL_law_630 (by decide) ?_
  exact s_L_law_3312 C hr hX hbl hbA hA2 hcN hll k27 hk27 nc ns v1 v2 v3 v4 _ _ _ _ (show nc ≤ 645934 ∧ ns ≤ 7158302 by omega) hW hS (tl_sub hl [0, 1, 2, 3, 4] rfl) hw
set_option maxHeartbeats 4000000 in
set_option maxRecDepth 100000 in
theorem s_L_law_699 {K : tK} (C : tc_B p l s m #[Value.ref b] meth c D K A wz_L_law RL cL_law 7) (hr : meth.sig.returnType = (some .boolean)) (hX : va_X b xL xs s s.heap) (hbl : b < s.heap.size) (hbA : ¬ A b) (hA2 : ∀ q : Nat, A q → s.heap.size ≤ q) (hcN : va_Nw tw_nest s) (hll : l.stackTraces = false)  (k27 : Nat → Nat → Option Nat → Option Nat → Option Nat → Int32 → tG → Prop) (hk27 : ∀ (nc ns : Nat) (v1 : Option Nat) (v2 : Option Nat) (v3 : Option Nat) (v4 : Int32) (G : tG) (H : Heap) (locs : List Loc) (ls : Array Slot), nc ≤ 645934 ∧ ns ≤ 7158302 → tg_W D A s H G → va_S A s.heap H locs → tl ls 7 [(1, .inr (.inr v1)), (2, .inr (.inr v2)), (3, .inr (.inr v3)), (4, .inl v4), (0, .inr (.inr (some b)))] → k27 nc ns v1 v2 v3 v4 G → W p l e room_1 s m #[Value.ref b] below meth c H locs nc ns (lw_Z below #[Value.ref b] s) (F0 m 27 ls [])) : ∀ (nc ns : Nat) (v1 : Option Nat) (v2 : Option Nat) (v3 : Option Nat) (v4 : Int32) (G : tG) (H : Heap) (locs : List Loc) (ls : Array Slot), nc ≤ 645934 ∧ ns ≤ 7158302 → tg_W D A s H G → va_S A s.heap H locs → tl ls 7 [(1, .inr (.inr v1)), (2, .inr (.inr v2)), (3, .inr (.inr v3)), (4, .inl v4), (0, .inr (.inr (some b)))] → w_L_law_699 K xL xs k27 nc ns v1 v2 v3 v4 G → W p l e room_1 s m #[Value.ref b] below meth c H locs nc ns (lw_Z below #[Value.ref b] s) (F0 m 699 ls []) := by
  intro nc ns v1 v2 v3 v4 G H locs ls hcn hW hS hl hw
  unfold w_L_law_699 at hw
  refine lv_goto (tgt := 3312) C.1.1 C.1.2.1 dL_law_699 (by decide) ?_
  exact s_L_law_3312 C hr hX hbl hbA hA2 hcN hll k27 hk27 nc ns v1 v2 v3 v4 _ _ _ _ (show nc ≤ 645934 ∧ ns ≤ 7158302 by omega) hW hS (tl_sub hl [0, 1, 2, 3, 4] rfl) hw
set_option maxHeartbeats 4000000 in
set_option maxRecDepth 100000 in
theorem s_L_law_756 {K : tK} (C : tc_B p l s m #[Value.ref b] meth c D K A wz_L_law RL cL_law 7) (hr : meth.sig.returnType = (some .boolean)) (hX : va_X b xL xs s s.heap) (hbl : b < s.heap.size) (hbA : ¬ A b) (hA2 : ∀ q : Nat, A q → s.heap.size ≤ q) (hcN : va_Nw tw_nest s) (hll : l.stackTraces = false)  (k27 : Nat → Nat → Option Nat → Option Nat → Option Nat → Int32 → tG → Prop) (hk27 : ∀ (nc ns : Nat) (v1 : Option Nat) (v2 : Option Nat) (v3 : Option Nat) (v4 : Int32) (G : tG) (H : Heap) (locs : List Loc) (ls : Array Slot), nc ≤ 645934 ∧ ns ≤ 7158302 → tg_W D A s H G → va_S A s.heap H locs → tl ls 7 [(1, .inr (.inr v1)), (2, .inr (.inr v2)), (3, .inr (.inr v3)), (4, .inl v4), (0, .inr (.inr (some b)))] → k27 nc ns v1 v2 v3 v4 G → W p l e room_1 s m #[Value.ref b] below meth c H locs nc ns (lw_Z below #[Value.ref b] s) (F0 m 27 ls [])) : ∀ (nc ns : Nat) (v1 : Option Nat) (v2 : Option Nat) (v3 : Option Nat) (v4 : Int32) (G : tG) (H : Heap) (locs : List Loc) (ls : Array Slot), nc ≤ 645934 ∧ ns ≤ 7158302 → tg_W D A s H G → va_S A s.heap H locs → tl ls 7 [(1, .inr (.inr v1)), (2, .inr (.inr v2)), (3, .inr (.inr v3)), (4, .inl v4), (0, .inr (.inr (some b)))] → w_L_law_756 K xL xs k27 nc ns v1 v2 v3 v4 G → W p l e room_1 s m #[Value.ref b] below meth c H locs nc ns (lw_Z below #[Value.ref b] s) (F0 m 756 ls []) := by
  intro nc ns v1 v2 v3 v4 G H locs ls hcn hW hS hl hw
  unfold w_L_law_756 at hw
  refine lv_goto (tgt := 3312) C.1.1 C.1.2.1 dL_law_756 (by decide) ?_
  exact s_L_law_3312 C hr hX hbl hbA hA2 hcN hll k27 hk27 nc ns v1 v2 v3 v4 _ _ _ _ (show nc ≤ 645934 ∧ ns ≤ 7158302 by omega) hW hS (tl_sub hl [0, 1, 2, 3, 4] rfl) hw
set_option maxHeartbeats 4000000 in
set_option maxRecDepth 100000 in
theorem s_L_law_820 {K : tK} (C : tc_B p l s m #[Value.ref b] meth c D K A wz_L_law RL cL_law 7) (hr : meth.sig.returnType = (some .boolean)) (hX : va_X b xL xs s s.heap) (hbl : b < s.heap.size) (hbA : ¬ A b) (hA2 : ∀ q : Nat, A q → s.heap.size ≤ q) (hcN : va_Nw tw_nest s) (hll : l.stackTraces = false)  (k27 : Nat → Nat → Option Nat → Option Nat → Option Nat → Int32 → tG → Prop) (hk27 : ∀ (nc ns : Nat) (v1 : Option Nat) (v2 : Option Nat) (v3 : Option Nat) (v4 : Int32) (G : tG) (H : Heap) (locs : List Loc) (ls : Array Slot), nc ≤ 645934 ∧ ns ≤ 7158302 → tg_W D A s H G → va_S A s.heap H locs → tl ls 7 [(1, .inr (.inr v1)), (2, .inr (.inr v2)), (3, .inr (.inr v3)), (4, .inl v4), (0, .inr (.inr (some b)))] → k27 nc ns v1 v2 v3 v4 G → W p l e room_1 s m #[Value.ref b] below meth c H locs nc ns (lw_Z below #[Value.ref b] s) (F0 m 27 ls [])) : ∀ (nc ns : Nat) (v1 : Option Nat) (v2 : Option Nat) (v3 : Option Nat) (v4 : Int32) (G : tG) (H : Heap) (locs : List Loc) (ls : Array Slot), nc ≤ 645934 ∧ ns ≤ 7158302 → tg_W D A s H G → va_S A s.heap H locs → tl ls 7 [(1, .inr (.inr v1)), (2, .inr (.inr v2)), (3, .inr (.inr v3)), (4, .inl v4), (0, .inr (.inr (some b)))] → w_L_law_820 K xL xs k27 nc ns v1 v2 v3 v4 G → W p l e room_1 s m #[Value.ref b] below meth c H locs nc ns (lw_Z below #[Value.ref b] s) (F0 m 820 ls []) := by
  intro nc ns v1 v2 v3 v4 G H locs ls hcn hW hS hl hw
  unfold w_L_law_820 at hw
  refine lv_goto (tgt := 3312) C.1.1 C.1.2.1 dL_law_820 (by decide) ?_
  exact s_L_law_3312 C hr hX hbl hbA hA2 hcN hll k27 hk27 nc ns v1 v2 v3 v4 _ _ _ _ (show nc ≤ 645934 ∧ ns ≤ 7158302 by omega) hW hS (tl_sub hl [0, 1, 2, 3, 4] rfl) hw
set_option maxHeartbeats 4000000 in
set_option maxRecDepth 100000 in
theorem s_L_law_814 {K : tK} (C : tc_B p l s m #[Value.ref b] meth c D K A wz_L_law RL cL_law 7) (hr : meth.sig.returnType = (some .boolean)) (hX : va_X b xL xs s s.heap) (hbl : b < s.heap.size) (hbA : ¬ A b) (hA2 : ∀ q : Nat, A q → s.heap.size ≤ q) (hcN : va_Nw tw_nest s) (hll : l.stackTraces = false)  (k27 : Nat → Nat → Option Nat → Option Nat → Option Nat → Int32 → tG → Prop) (hk27 : ∀ (nc ns : Nat) (v1 : Option Nat) (v2 : Option Nat) (v3 : Option Nat) (v4 : Int32) (G : tG) (H : Heap) (locs : List Loc) (ls : Array Slot), nc ≤ 645934 ∧ ns ≤ 7158302 → tg_W D A s H G → va_S A s.heap H locs → tl ls 7 [(1, .inr (.inr v1)), (2, .inr (.inr v2)), (3, .inr (.inr v3)), (4, .inl v4), (0, .inr (.inr (some b)))] → k27 nc ns v1 v2 v3 v4 G → W p l e room_1 s m #[Value.ref b] below meth c H locs nc ns (lw_Z below #[Value.ref b] s) (F0 m 27 ls [])) : ∀ (nc ns : Nat) (v1 : Option Nat) (v2 : Option Nat) (v3 : Option Nat) (v4 : Int32) (u0 : Int64) (u1 : Int64) (G : tG) (H : Heap) (locs : List Loc) (ls : Array Slot), nc ≤ 645934 ∧ ns ≤ 7158302 → tg_W D A s H G → va_S A s.heap H locs → tl ls 7 [(1, .inr (.inr v1)), (2, .inr (.inr v2)), (3, .inr (.inr v3)), (4, .inl v4), (0, .inr (.inr (some b)))] → w_L_law_814 K xL xs k27 nc ns v1 v2 v3 v4 u0 u1 G → W p l e room_1 s m #[Value.ref b] below meth c H locs nc ns (lw_Z below #[Value.ref b] s) (F0 m 814 ls [.long u1, .long u0]) := by
  intro nc ns v1 v2 v3 v4 u0 u1 G H locs ls hcn hW hS hl hw
  unfold w_L_law_814 at hw
  refine W.lcmp C.1.1 C.1.2.1 dL_law_814 ?_
  refine lv_if_eq (tgt := 820) C.1.1 C.1.2.1 dL_law_815 (by decide) (fun hc => ?_) (fun hc => ?_)
  · have hw := hw.1 hc
    exact s_L_law_820 C hr hX hbl hbA hA2 hcN hll k27 hk27 nc ns v1 v2 v3 v4 _ _ _ _ (show nc ≤ 645934 ∧ ns ≤ 7158302 by omega) hW hS (tl_sub hl [0, 1, 2, 3, 4] rfl) hw
  · have hw := hw.2 hc
    refine lv_iconst (v := (0 : Int32)) C.1.1 C.1.2.1 dL_law_818 (by decide) ?_
    exact tr_law C hr hA2 dL_law_819 (show nc ≤ 645934 by omega) (show ns ≤ 7158302 by omega) hS hw
set_option maxHeartbeats 4000000 in
set_option maxRecDepth 100000 in
theorem s_L_law_878 {K : tK} (C : tc_B p l s m #[Value.ref b] meth c D K A wz_L_law RL cL_law 7) (hr : meth.sig.returnType = (some .boolean)) (hX : va_X b xL xs s s.heap) (hbl : b < s.heap.size) (hbA : ¬ A b) (hA2 : ∀ q : Nat, A q → s.heap.size ≤ q) (hcN : va_Nw tw_nest s) (hll : l.stackTraces = false)  (k27 : Nat → Nat → Option Nat → Option Nat → Option Nat → Int32 → tG → Prop) (hk27 : ∀ (nc ns : Nat) (v1 : Option Nat) (v2 : Option Nat) (v3 : Option Nat) (v4 : Int32) (G : tG) (H : Heap) (locs : List Loc) (ls : Array Slot), nc ≤ 645934 ∧ ns ≤ 7158302 → tg_W D A s H G → va_S A s.heap H locs → tl ls 7 [(1, .inr (.inr v1)), (2, .inr (.inr v2)), (3, .inr (.inr v3)), (4, .inl v4), (0, .inr (.inr (some b)))] → k27 nc ns v1 v2 v3 v4 G → W p l e room_1 s m #[Value.ref b] below meth c H locs nc ns (lw_Z below #[Value.ref b] s) (F0 m 27 ls [])) : ∀ (nc ns : Nat) (v1 : Option Nat) (v2 : Option Nat) (v3 : Option Nat) (v4 : Int32) (G : tG) (H : Heap) (locs : List Loc) (ls : Array Slot), nc ≤ 645934 ∧ ns ≤ 7158302 → tg_W D A s H G → va_S A s.heap H locs → tl ls 7 [(1, .inr (.inr v1)), (2, .inr (.inr v2)), (3, .inr (.inr v3)), (4, .inl v4), (0, .inr (.inr (some b)))] → w_L_law_878 K xL xs k27 nc ns v1 v2 v3 v4 G → W p l e room_1 s m #[Value.ref b] below meth c H locs nc ns (lw_Z below #[Value.ref b] s) (F0 m 878 ls []) := by
  intro nc ns v1 v2 v3 v4 G H locs ls hcn hW hS hl hw
  unfold w_L_law_878 at hw
  refine lv_goto (tgt := 3312) C.1.1 C.1.2.1 dL_law_878 (by decide) ?_
  exact s_L_law_3312 C hr hX hbl hbA hA2 hcN hll k27 hk27 nc ns v1 v2 v3 v4 _ _ _ _ (show nc ≤ 645934 ∧ ns ≤ 7158302 by omega) hW hS (tl_sub hl [0, 1, 2, 3, 4] rfl) hw
set_option maxHeartbeats 4000000 in
set_option maxRecDepth 100000 in
theorem s_L_law_936 {K : tK} (C : tc_B p l s m #[Value.ref b] meth c D K A wz_L_law RL cL_law 7) (hr : meth.sig.returnType = (some .boolean)) (hX : va_X b xL xs s s.heap) (hbl : b < s.heap.size) (hbA : ¬ A b) (hA2 : ∀ q : Nat, A q → s.heap.size ≤ q) (hcN : va_Nw tw_nest s) (hll : l.stackTraces = false)  (k27 : Nat → Nat → Option Nat → Option Nat → Option Nat → Int32 → tG → Prop) (hk27 : ∀ (nc ns : Nat) (v1 : Option Nat) (v2 : Option Nat) (v3 : Option Nat) (v4 : Int32) (G : tG) (H : Heap) (locs : List Loc) (ls : Array Slot), nc ≤ 645934 ∧ ns ≤ 7158302 → tg_W D A s H G → va_S A s.heap H locs → tl ls 7 [(1, .inr (.inr v1)), (2, .inr (.inr v2)), (3, .inr (.inr v3)), (4, .inl v4), (0, .inr (.inr (some b)))] → k27 nc ns v1 v2 v3 v4 G → W p l e room_1 s m #[Value.ref b] below meth c H locs nc ns (lw_Z below #[Value.ref b] s) (F0 m 27 ls [])) : ∀ (nc ns : Nat) (v1 : Option Nat) (v2 : Option Nat) (v3 : Option Nat) (v4 : Int32) (G : tG) (H : Heap) (locs : List Loc) (ls : Array Slot), nc ≤ 645934 ∧ ns ≤ 7158302 → tg_W D A s H G → va_S A s.heap H locs → tl ls 7 [(1, .inr (.inr v1)), (2, .inr (.inr v2)), (3, .inr (.inr v3)), (4, .inl v4), (0, .inr (.inr (some b)))] → w_L_law_936 K xL xs k27 nc ns v1 v2 v3 v4 G → W p l e room_1 s m #[Value.ref b] below meth c H locs nc ns (lw_Z below #[Value.ref b] s) (F0 m 936 ls []) := by
  intro nc ns v1 v2 v3 v4 G H locs ls hcn hW hS hl hw
  unfold w_L_law_936 at hw
  refine lv_goto (tgt := 3312) C.1.1 C.1.2.1 dL_law_936 (by decide) ?_
  exact s_L_law_3312 C hr hX hbl hbA hA2 hcN hll k27 hk27 nc ns v1 v2 v3 v4 _ _ _ _ (show nc ≤ 645934 ∧ ns ≤ 7158302 by omega) hW hS (tl_sub hl [0, 1, 2, 3, 4] rfl) hw
set_option maxHeartbeats 4000000 in
set_option maxRecDepth 100000 in
theorem s_L_law_1005 {K : tK} (C : tc_B p l s m #[Value.ref b] meth c D K A wz_L_law RL cL_law 7) (hr : meth.sig.returnType = (some .boolean)) (hX : va_X b xL xs s s.heap) (hbl : b < s.heap.size) (hbA : ¬ A b) (hA2 : ∀ q : Nat, A q → s.heap.size ≤ q) (hcN : va_Nw tw_nest s) (hll : l.stackTraces = false)  (k27 : Nat → Nat → Option Nat → Option Nat → Option Nat → Int32 → tG → Prop) (hk27 : ∀ (nc ns : Nat) (v1 : Option Nat) (v2 : Option Nat) (v3 : Option Nat) (v4 : Int32) (G : tG) (H : Heap) (locs : List Loc) (ls : Array Slot), nc ≤ 645934 ∧ ns ≤ 7158302 → tg_W D A s H G → va_S A s.heap H locs → tl ls 7 [(1, .inr (.inr v1)), (2, .inr (.inr v2)), (3, .inr (.inr v3)), (4, .inl v4), (0, .inr (.inr (some b)))] → k27 nc ns v1 v2 v3 v4 G → W p l e room_1 s m #[Value.ref b] below meth c H locs nc ns (lw_Z below #[Value.ref b] s) (F0 m 27 ls [])) : ∀ (nc ns : Nat) (v1 : Option Nat) (v2 : Option Nat) (v3 : Option Nat) (v4 : Int32) (G : tG) (H : Heap) (locs : List Loc) (ls : Array Slot), nc ≤ 645934 ∧ ns ≤ 7158302 → tg_W D A s H G → va_S A s.heap H locs → tl ls 7 [(1, .inr (.inr v1)), (2, .inr (.inr v2)), (3, .inr (.inr v3)), (4, .inl v4), (0, .inr (.inr (some b)))] → w_L_law_1005 K xL xs k27 nc ns v1 v2 v3 v4 G → W p l e room_1 s m #[Value.ref b] below meth c H locs nc ns (lw_Z below #[Value.ref b] s) (F0 m 1005 ls []) := by
  intro nc ns v1 v2 v3 v4 G H locs ls hcn hW hS hl hw
  unfold w_L_law_1005 at hw
  refine lv_goto (tgt := 3312) C.1.1 C.1.2.1 dL_law_1005 (by decide) ?_
  exact s_L_law_3312 C hr hX hbl hbA hA2 hcN hll k27 hk27 nc ns v1 v2 v3 v4 _ _ _ _ (show nc ≤ 645934 ∧ ns ≤ 7158302 by omega) hW hS (tl_sub hl [0, 1, 2, 3, 4] rfl) hw
set_option maxHeartbeats 4000000 in
set_option maxRecDepth 100000 in
theorem s_L_law_1074 {K : tK} (C : tc_B p l s m #[Value.ref b] meth c D K A wz_L_law RL cL_law 7) (hr : meth.sig.returnType = (some .boolean)) (hX : va_X b xL xs s s.heap) (hbl : b < s.heap.size) (hbA : ¬ A b) (hA2 : ∀ q : Nat, A q → s.heap.size ≤ q) (hcN : va_Nw tw_nest s) (hll : l.stackTraces = false)  (k27 : Nat → Nat → Option Nat → Option Nat → Option Nat → Int32 → tG → Prop) (hk27 : ∀ (nc ns : Nat) (v1 : Option Nat) (v2 : Option Nat) (v3 : Option Nat) (v4 : Int32) (G : tG) (H : Heap) (locs : List Loc) (ls : Array Slot), nc ≤ 645934 ∧ ns ≤ 7158302 → tg_W D A s H G → va_S A s.heap H locs → tl ls 7 [(1, .inr (.inr v1)), (2, .inr (.inr v2)), (3, .inr (.inr v3)), (4, .inl v4), (0, .inr (.inr (some b)))] → k27 nc ns v1 v2 v3 v4 G → W p l e room_1 s m #[Value.ref b] below meth c H locs nc ns (lw_Z below #[Value.ref b] s) (F0 m 27 ls [])) : ∀ (nc ns : Nat) (v1 : Option Nat) (v2 : Option Nat) (v3 : Option Nat) (v4 : Int32) (G : tG) (H : Heap) (locs : List Loc) (ls : Array Slot), nc ≤ 645934 ∧ ns ≤ 7158302 → tg_W D A s H G → va_S A s.heap H locs → tl ls 7 [(1, .inr (.inr v1)), (2, .inr (.inr v2)), (3, .inr (.inr v3)), (4, .inl v4), (0, .inr (.inr (some b)))] → w_L_law_1074 K xL xs k27 nc ns v1 v2 v3 v4 G → W p l e room_1 s m #[Value.ref b] below meth c H locs nc ns (lw_Z below #[Value.ref b] s) (F0 m 1074 ls []) := by
  intro nc ns v1 v2 v3 v4 G H locs ls hcn hW hS hl hw
  unfold w_L_law_1074 at hw
  refine lv_goto (tgt := 3312) C.1.1 C.1.2.1 dL_law_1074 (by decide) ?_
  exact s_L_law_3312 C hr hX hbl hbA hA2 hcN hll k27 hk27 nc ns v1 v2 v3 v4 _ _ _ _ (show nc ≤ 645934 ∧ ns ≤ 7158302 by omega) hW hS (tl_sub hl [0, 1, 2, 3, 4] rfl) hw
set_option maxHeartbeats 4000000 in
set_option maxRecDepth 100000 in
theorem s_L_law_1150 {K : tK} (C : tc_B p l s m #[Value.ref b] meth c D K A wz_L_law RL cL_law 7) (hr : meth.sig.returnType = (some .boolean)) (hX : va_X b xL xs s s.heap) (hbl : b < s.heap.size) (hbA : ¬ A b) (hA2 : ∀ q : Nat, A q → s.heap.size ≤ q) (hcN : va_Nw tw_nest s) (hll : l.stackTraces = false)  (k27 : Nat → Nat → Option Nat → Option Nat → Option Nat → Int32 → tG → Prop) (hk27 : ∀ (nc ns : Nat) (v1 : Option Nat) (v2 : Option Nat) (v3 : Option Nat) (v4 : Int32) (G : tG) (H : Heap) (locs : List Loc) (ls : Array Slot), nc ≤ 645934 ∧ ns ≤ 7158302 → tg_W D A s H G → va_S A s.heap H locs → tl ls 7 [(1, .inr (.inr v1)), (2, .inr (.inr v2)), (3, .inr (.inr v3)), (4, .inl v4), (0, .inr (.inr (some b)))] → k27 nc ns v1 v2 v3 v4 G → W p l e room_1 s m #[Value.ref b] below meth c H locs nc ns (lw_Z below #[Value.ref b] s) (F0 m 27 ls [])) : ∀ (nc ns : Nat) (v1 : Option Nat) (v2 : Option Nat) (v3 : Option Nat) (v4 : Int32) (G : tG) (H : Heap) (locs : List Loc) (ls : Array Slot), nc ≤ 645934 ∧ ns ≤ 7158302 → tg_W D A s H G → va_S A s.heap H locs → tl ls 7 [(1, .inr (.inr v1)), (2, .inr (.inr v2)), (3, .inr (.inr v3)), (4, .inl v4), (0, .inr (.inr (some b)))] → w_L_law_1150 K xL xs k27 nc ns v1 v2 v3 v4 G → W p l e room_1 s m #[Value.ref b] below meth c H locs nc ns (lw_Z below #[Value.ref b] s) (F0 m 1150 ls []) := by
  intro nc ns v1 v2 v3 v4 G H locs ls hcn hW hS hl hw
  unfold w_L_law_1150 at hw
  refine lv_goto (tgt := 3312) C.1.1 C.1.2.1 dL_law_1150 (by decide) ?_
  exact s_L_law_3312 C hr hX hbl hbA hA2 hcN hll k27 hk27 nc ns v1 v2 v3 v4 _ _ _ _ (show nc ≤ 645934 ∧ ns ≤ 7158302 by omega) hW hS (tl_sub hl [0, 1, 2, 3, 4] rfl) hw
set_option maxHeartbeats 4000000 in
set_option maxRecDepth 100000 in
theorem s_L_law_1144 {K : tK} (C : tc_B p l s m #[Value.ref b] meth c D K A wz_L_law RL cL_law 7) (hr : meth.sig.returnType = (some .boolean)) (hX : va_X b xL xs s s.heap) (hbl : b < s.heap.size) (hbA : ¬ A b) (hA2 : ∀ q : Nat, A q → s.heap.size ≤ q) (hcN : va_Nw tw_nest s) (hll : l.stackTraces = false)  (k27 : Nat → Nat → Option Nat → Option Nat → Option Nat → Int32 → tG → Prop) (hk27 : ∀ (nc ns : Nat) (v1 : Option Nat) (v2 : Option Nat) (v3 : Option Nat) (v4 : Int32) (G : tG) (H : Heap) (locs : List Loc) (ls : Array Slot), nc ≤ 645934 ∧ ns ≤ 7158302 → tg_W D A s H G → va_S A s.heap H locs → tl ls 7 [(1, .inr (.inr v1)), (2, .inr (.inr v2)), (3, .inr (.inr v3)), (4, .inl v4), (0, .inr (.inr (some b)))] → k27 nc ns v1 v2 v3 v4 G → W p l e room_1 s m #[Value.ref b] below meth c H locs nc ns (lw_Z below #[Value.ref b] s) (F0 m 27 ls [])) : ∀ (nc ns : Nat) (v1 : Option Nat) (v2 : Option Nat) (v3 : Option Nat) (v4 : Int32) (u0 : Int64) (u1 : Int64) (G : tG) (H : Heap) (locs : List Loc) (ls : Array Slot), nc ≤ 645934 ∧ ns ≤ 7158302 → tg_W D A s H G → va_S A s.heap H locs → tl ls 7 [(1, .inr (.inr v1)), (2, .inr (.inr v2)), (3, .inr (.inr v3)), (4, .inl v4), (0, .inr (.inr (some b)))] → w_L_law_1144 K xL xs k27 nc ns v1 v2 v3 v4 u0 u1 G → W p l e room_1 s m #[Value.ref b] below meth c H locs nc ns (lw_Z below #[Value.ref b] s) (F0 m 1144 ls [.long u1, .long u0]) := by
  intro nc ns v1 v2 v3 v4 u0 u1 G H locs ls hcn hW hS hl hw
  unfold w_L_law_1144 at hw
  refine W.lcmp C.1.1 C.1.2.1 dL_law_1144 ?_
  refine lv_if_eq (tgt := 1150) C.1.1 C.1.2.1 dL_law_1145 (by decide) (fun hc => ?_) (fun hc => ?_)
  · have hw := hw.1 hc
    exact s_L_law_1150 C hr hX hbl hbA hA2 hcN hll k27 hk27 nc ns v1 v2 v3 v4 _ _ _ _ (show nc ≤ 645934 ∧ ns ≤ 7158302 by omega) hW hS (tl_sub hl [0, 1, 2, 3, 4] rfl) hw
  · have hw := hw.2 hc
    refine lv_iconst (v := (0 : Int32)) C.1.1 C.1.2.1 dL_law_1148 (by decide) ?_
    exact tr_law C hr hA2 dL_law_1149 (show nc ≤ 645934 by omega) (show ns ≤ 7158302 by omega) hS hw
set_option maxHeartbeats 4000000 in
set_option maxRecDepth 100000 in
theorem s_L_law_1219 {K : tK} (C : tc_B p l s m #[Value.ref b] meth c D K A wz_L_law RL cL_law 7) (hr : meth.sig.returnType = (some .boolean)) (hX : va_X b xL xs s s.heap) (hbl : b < s.heap.size) (hbA : ¬ A b) (hA2 : ∀ q : Nat, A q → s.heap.size ≤ q) (hcN : va_Nw tw_nest s) (hll : l.stackTraces = false)  (k27 : Nat → Nat → Option Nat → Option Nat → Option Nat → Int32 → tG → Prop) (hk27 : ∀ (nc ns : Nat) (v1 : Option Nat) (v2 : Option Nat) (v3 : Option Nat) (v4 : Int32) (G : tG) (H : Heap) (locs : List Loc) (ls : Array Slot), nc ≤ 645934 ∧ ns ≤ 7158302 → tg_W D A s H G → va_S A s.heap H locs → tl ls 7 [(1, .inr (.inr v1)), (2, .inr (.inr v2)), (3, .inr (.inr v3)), (4, .inl v4), (0, .inr (.inr (some b)))] → k27 nc ns v1 v2 v3 v4 G → W p l e room_1 s m #[Value.ref b] below meth c H locs nc ns (lw_Z below #[Value.ref b] s) (F0 m 27 ls [])) : ∀ (nc ns : Nat) (v1 : Option Nat) (v2 : Option Nat) (v3 : Option Nat) (v4 : Int32) (G : tG) (H : Heap) (locs : List Loc) (ls : Array Slot), nc ≤ 645934 ∧ ns ≤ 7158302 → tg_W D A s H G → va_S A s.heap H locs → tl ls 7 [(1, .inr (.inr v1)), (2, .inr (.inr v2)), (3, .inr (.inr v3)), (4, .inl v4), (0, .inr (.inr (some b)))] → w_L_law_1219 K xL xs k27 nc ns v1 v2 v3 v4 G → W p l e room_1 s m #[Value.ref b] below meth c H locs nc ns (lw_Z below #[Value.ref b] s) (F0 m 1219 ls []) := by
  intro nc ns v1 v2 v3 v4 G H locs ls hcn hW hS hl hw
  unfold w_L_law_1219 at hw
  refine lv_goto (tgt := 3312) C.1.1 C.1.2.1 dL_law_1219 (by decide) ?_
  exact s_L_law_3312 C hr hX hbl hbA hA2 hcN hll k27 hk27 nc ns v1 v2 v3 v4 _ _ _ _ (show nc ≤ 645934 ∧ ns ≤ 7158302 by omega) hW hS (tl_sub hl [0, 1, 2, 3, 4] rfl) hw
set_option maxHeartbeats 4000000 in
set_option maxRecDepth 100000 in
theorem s_L_law_1295 {K : tK} (C : tc_B p l s m #[Value.ref b] meth c D K A wz_L_law RL cL_law 7) (hr : meth.sig.returnType = (some .boolean)) (hX : va_X b xL xs s s.heap) (hbl : b < s.heap.size) (hbA : ¬ A b) (hA2 : ∀ q : Nat, A q → s.heap.size ≤ q) (hcN : va_Nw tw_nest s) (hll : l.stackTraces = false)  (k27 : Nat → Nat → Option Nat → Option Nat → Option Nat → Int32 → tG → Prop) (hk27 : ∀ (nc ns : Nat) (v1 : Option Nat) (v2 : Option Nat) (v3 : Option Nat) (v4 : Int32) (G : tG) (H : Heap) (locs : List Loc) (ls : Array Slot), nc ≤ 645934 ∧ ns ≤ 7158302 → tg_W D A s H G → va_S A s.heap H locs → tl ls 7 [(1, .inr (.inr v1)), (2, .inr (.inr v2)), (3, .inr (.inr v3)), (4, .inl v4), (0, .inr (.inr (some b)))] → k27 nc ns v1 v2 v3 v4 G → W p l e room_1 s m #[Value.ref b] below meth c H locs nc ns (lw_Z below #[Value.ref b] s) (F0 m 27 ls [])) : ∀ (nc ns : Nat) (v1 : Option Nat) (v2 : Option Nat) (v3 : Option Nat) (v4 : Int32) (G : tG) (H : Heap) (locs : List Loc) (ls : Array Slot), nc ≤ 645934 ∧ ns ≤ 7158302 → tg_W D A s H G → va_S A s.heap H locs → tl ls 7 [(1, .inr (.inr v1)), (2, .inr (.inr v2)), (3, .inr (.inr v3)), (4, .inl v4), (0, .inr (.inr (some b)))] → w_L_law_1295 K xL xs k27 nc ns v1 v2 v3 v4 G → W p l e room_1 s m #[Value.ref b] below meth c H locs nc ns (lw_Z below #[Value.ref b] s) (F0 m 1295 ls []) := by
  intro nc ns v1 v2 v3 v4 G H locs ls hcn hW hS hl hw
  unfold w_L_law_1295 at hw
  refine lv_goto (tgt := 3312) C.1.1 C.1.2.1 dL_law_1295 (by decide) ?_
  exact s_L_law_3312 C hr hX hbl hbA hA2 hcN hll k27 hk27 nc ns v1 v2 v3 v4 _ _ _ _ (show nc ≤ 645934 ∧ ns ≤ 7158302 by omega) hW hS (tl_sub hl [0, 1, 2, 3, 4] rfl) hw
set_option maxHeartbeats 4000000 in
set_option maxRecDepth 100000 in
theorem s_L_law_1289 {K : tK} (C : tc_B p l s m #[Value.ref b] meth c D K A wz_L_law RL cL_law 7) (hr : meth.sig.returnType = (some .boolean)) (hX : va_X b xL xs s s.heap) (hbl : b < s.heap.size) (hbA : ¬ A b) (hA2 : ∀ q : Nat, A q → s.heap.size ≤ q) (hcN : va_Nw tw_nest s) (hll : l.stackTraces = false)  (k27 : Nat → Nat → Option Nat → Option Nat → Option Nat → Int32 → tG → Prop) (hk27 : ∀ (nc ns : Nat) (v1 : Option Nat) (v2 : Option Nat) (v3 : Option Nat) (v4 : Int32) (G : tG) (H : Heap) (locs : List Loc) (ls : Array Slot), nc ≤ 645934 ∧ ns ≤ 7158302 → tg_W D A s H G → va_S A s.heap H locs → tl ls 7 [(1, .inr (.inr v1)), (2, .inr (.inr v2)), (3, .inr (.inr v3)), (4, .inl v4), (0, .inr (.inr (some b)))] → k27 nc ns v1 v2 v3 v4 G → W p l e room_1 s m #[Value.ref b] below meth c H locs nc ns (lw_Z below #[Value.ref b] s) (F0 m 27 ls [])) : ∀ (nc ns : Nat) (v1 : Option Nat) (v2 : Option Nat) (v3 : Option Nat) (v4 : Int32) (u0 : Int64) (u1 : Int64) (G : tG) (H : Heap) (locs : List Loc) (ls : Array Slot), nc ≤ 645934 ∧ ns ≤ 7158302 → tg_W D A s H G → va_S A s.heap H locs → tl ls 7 [(1, .inr (.inr v1)), (2, .inr (.inr v2)), (3, .inr (.inr v3)), (4, .inl v4), (0, .inr (.inr (some b)))] → w_L_law_1289 K xL xs k27 nc ns v1 v2 v3 v4 u0 u1 G → W p l e room_1 s m #[Value.ref b] below meth c H locs nc ns (lw_Z below #[Value.ref b] s) (F0 m 1289 ls [.long u1, .long u0]) := by
  intro nc ns v1 v2 v3 v4 u0 u1 G H locs ls hcn hW hS hl hw
  unfold w_L_law_1289 at hw
  refine W.lcmp C.1.1 C.1.2.1 dL_law_1289 ?_
  refine lv_if_eq (tgt := 1295) C.1.1 C.1.2.1 dL_law_1290 (by decide) (fun hc => ?_) (fun hc => ?_)
  · have hw := hw.1 hc
    exact s_L_law_1295 C hr hX hbl hbA hA2 hcN hll k27 hk27 nc ns v1 v2 v3 v4 _ _ _ _ (show nc ≤ 645934 ∧ ns ≤ 7158302 by omega) hW hS (tl_sub hl [0, 1, 2, 3, 4] rfl) hw
  · have hw := hw.2 hc
    refine lv_iconst (v := (0 : Int32)) C.1.1 C.1.2.1 dL_law_1293 (by decide) ?_
    exact tr_law C hr hA2 dL_law_1294 (show nc ≤ 645934 by omega) (show ns ≤ 7158302 by omega) hS hw
set_option maxHeartbeats 4000000 in
set_option maxRecDepth 100000 in
theorem s_L_law_1371 {K : tK} (C : tc_B p l s m #[Value.ref b] meth c D K A wz_L_law RL cL_law 7) (hr : meth.sig.returnType = (some .boolean)) (hX : va_X b xL xs s s.heap) (hbl : b < s.heap.size) (hbA : ¬ A b) (hA2 : ∀ q : Nat, A q → s.heap.size ≤ q) (hcN : va_Nw tw_nest s) (hll : l.stackTraces = false)  (k27 : Nat → Nat → Option Nat → Option Nat → Option Nat → Int32 → tG → Prop) (hk27 : ∀ (nc ns : Nat) (v1 : Option Nat) (v2 : Option Nat) (v3 : Option Nat) (v4 : Int32) (G : tG) (H : Heap) (locs : List Loc) (ls : Array Slot), nc ≤ 645934 ∧ ns ≤ 7158302 → tg_W D A s H G → va_S A s.heap H locs → tl ls 7 [(1, .inr (.inr v1)), (2, .inr (.inr v2)), (3, .inr (.inr v3)), (4, .inl v4), (0, .inr (.inr (some b)))] → k27 nc ns v1 v2 v3 v4 G → W p l e room_1 s m #[Value.ref b] below meth c H locs nc ns (lw_Z below #[Value.ref b] s) (F0 m 27 ls [])) : ∀ (nc ns : Nat) (v1 : Option Nat) (v2 : Option Nat) (v3 : Option Nat) (v4 : Int32) (G : tG) (H : Heap) (locs : List Loc) (ls : Array Slot), nc ≤ 645934 ∧ ns ≤ 7158302 → tg_W D A s H G → va_S A s.heap H locs → tl ls 7 [(1, .inr (.inr v1)), (2, .inr (.inr v2)), (3, .inr (.inr v3)), (4, .inl v4), (0, .inr (.inr (some b)))] → w_L_law_1371 K xL xs k27 nc ns v1 v2 v3 v4 G → W p l e room_1 s m #[Value.ref b] below meth c H locs nc ns (lw_Z below #[Value.ref b] s) (F0 m 1371 ls []) := by
  intro nc ns v1 v2 v3 v4 G H locs ls hcn hW hS hl hw
  unfold w_L_law_1371 at hw
  refine lv_goto (tgt := 3312) C.1.1 C.1.2.1 dL_law_1371 (by decide) ?_
  exact s_L_law_3312 C hr hX hbl hbA hA2 hcN hll k27 hk27 nc ns v1 v2 v3 v4 _ _ _ _ (show nc ≤ 645934 ∧ ns ≤ 7158302 by omega) hW hS (tl_sub hl [0, 1, 2, 3, 4] rfl) hw
set_option maxHeartbeats 4000000 in
set_option maxRecDepth 100000 in
theorem s_L_law_1365 {K : tK} (C : tc_B p l s m #[Value.ref b] meth c D K A wz_L_law RL cL_law 7) (hr : meth.sig.returnType = (some .boolean)) (hX : va_X b xL xs s s.heap) (hbl : b < s.heap.size) (hbA : ¬ A b) (hA2 : ∀ q : Nat, A q → s.heap.size ≤ q) (hcN : va_Nw tw_nest s) (hll : l.stackTraces = false)  (k27 : Nat → Nat → Option Nat → Option Nat → Option Nat → Int32 → tG → Prop) (hk27 : ∀ (nc ns : Nat) (v1 : Option Nat) (v2 : Option Nat) (v3 : Option Nat) (v4 : Int32) (G : tG) (H : Heap) (locs : List Loc) (ls : Array Slot), nc ≤ 645934 ∧ ns ≤ 7158302 → tg_W D A s H G → va_S A s.heap H locs → tl ls 7 [(1, .inr (.inr v1)), (2, .inr (.inr v2)), (3, .inr (.inr v3)), (4, .inl v4), (0, .inr (.inr (some b)))] → k27 nc ns v1 v2 v3 v4 G → W p l e room_1 s m #[Value.ref b] below meth c H locs nc ns (lw_Z below #[Value.ref b] s) (F0 m 27 ls [])) : ∀ (nc ns : Nat) (v1 : Option Nat) (v2 : Option Nat) (v3 : Option Nat) (v4 : Int32) (u0 : Int64) (u1 : Int64) (G : tG) (H : Heap) (locs : List Loc) (ls : Array Slot), nc ≤ 645934 ∧ ns ≤ 7158302 → tg_W D A s H G → va_S A s.heap H locs → tl ls 7 [(1, .inr (.inr v1)), (2, .inr (.inr v2)), (3, .inr (.inr v3)), (4, .inl v4), (0, .inr (.inr (some b)))] → w_L_law_1365 K xL xs k27 nc ns v1 v2 v3 v4 u0 u1 G → W p l e room_1 s m #[Value.ref b] below meth c H locs nc ns (lw_Z below #[Value.ref b] s) (F0 m 1365 ls [.long u1, .long u0]) := by
  intro nc ns v1 v2 v3 v4 u0 u1 G H locs ls hcn hW hS hl hw
  unfold w_L_law_1365 at hw
  refine W.lcmp C.1.1 C.1.2.1 dL_law_1365 ?_
  refine lv_if_eq (tgt := 1371) C.1.1 C.1.2.1 dL_law_1366 (by decide) (fun hc => ?_) (fun hc => ?_)
  · have hw := hw.1 hc
    exact s_L_law_1371 C hr hX hbl hbA hA2 hcN hll k27 hk27 nc ns v1 v2 v3 v4 _ _ _ _ (show nc ≤ 645934 ∧ ns ≤ 7158302 by omega) hW hS (tl_sub hl [0, 1, 2, 3, 4] rfl) hw
  · have hw := hw.2 hc
    refine lv_iconst (v := (0 : Int32)) C.1.1 C.1.2.1 dL_law_1369 (by decide) ?_
    exact tr_law C hr hA2 dL_law_1370 (show nc ≤ 645934 by omega) (show ns ≤ 7158302 by omega) hS hw
set_option maxHeartbeats 4000000 in
set_option maxRecDepth 100000 in
theorem s_L_law_1440 {K : tK} (C : tc_B p l s m #[Value.ref b] meth c D K A wz_L_law RL cL_law 7) (hr : meth.sig.returnType = (some .boolean)) (hX : va_X b xL xs s s.heap) (hbl : b < s.heap.size) (hbA : ¬ A b) (hA2 : ∀ q : Nat, A q → s.heap.size ≤ q) (hcN : va_Nw tw_nest s) (hll : l.stackTraces = false)  (k27 : Nat → Nat → Option Nat → Option Nat → Option Nat → Int32 → tG → Prop) (hk27 : ∀ (nc ns : Nat) (v1 : Option Nat) (v2 : Option Nat) (v3 : Option Nat) (v4 : Int32) (G : tG) (H : Heap) (locs : List Loc) (ls : Array Slot), nc ≤ 645934 ∧ ns ≤ 7158302 → tg_W D A s H G → va_S A s.heap H locs → tl ls 7 [(1, .inr (.inr v1)), (2, .inr (.inr v2)), (3, .inr (.inr v3)), (4, .inl v4), (0, .inr (.inr (some b)))] → k27 nc ns v1 v2 v3 v4 G → W p l e room_1 s m #[Value.ref b] below meth c H locs nc ns (lw_Z below #[Value.ref b] s) (F0 m 27 ls [])) : ∀ (nc ns : Nat) (v1 : Option Nat) (v2 : Option Nat) (v3 : Option Nat) (v4 : Int32) (G : tG) (H : Heap) (locs : List Loc) (ls : Array Slot), nc ≤ 645934 ∧ ns ≤ 7158302 → tg_W D A s H G → va_S A s.heap H locs → tl ls 7 [(1, .inr (.inr v1)), (2, .inr (.inr v2)), (3, .inr (.inr v3)), (4, .inl v4), (0, .inr (.inr (some b)))] → w_L_law_1440 K xL xs k27 nc ns v1 v2 v3 v4 G → W p l e room_1 s m #[Value.ref b] below meth c H locs nc ns (lw_Z below #[Value.ref b] s) (F0 m 1440 ls []) := by
  intro nc ns v1 v2 v3 v4 G H locs ls hcn hW hS hl hw
  unfold w_L_law_1440 at hw
  refine lv_goto (tgt := 3312) C.1.1 C.1.2.1 dL_law_1440 (by decide) ?_
  exact s_L_law_3312 C hr hX hbl hbA hA2 hcN hll k27 hk27 nc ns v1 v2 v3 v4 _ _ _ _ (show nc ≤ 645934 ∧ ns ≤ 7158302 by omega) hW hS (tl_sub hl [0, 1, 2, 3, 4] rfl) hw
set_option maxHeartbeats 4000000 in
set_option maxRecDepth 100000 in
theorem s_L_law_1516 {K : tK} (C : tc_B p l s m #[Value.ref b] meth c D K A wz_L_law RL cL_law 7) (hr : meth.sig.returnType = (some .boolean)) (hX : va_X b xL xs s s.heap) (hbl : b < s.heap.size) (hbA : ¬ A b) (hA2 : ∀ q : Nat, A q → s.heap.size ≤ q) (hcN : va_Nw tw_nest s) (hll : l.stackTraces = false)  (k27 : Nat → Nat → Option Nat → Option Nat → Option Nat → Int32 → tG → Prop) (hk27 : ∀ (nc ns : Nat) (v1 : Option Nat) (v2 : Option Nat) (v3 : Option Nat) (v4 : Int32) (G : tG) (H : Heap) (locs : List Loc) (ls : Array Slot), nc ≤ 645934 ∧ ns ≤ 7158302 → tg_W D A s H G → va_S A s.heap H locs → tl ls 7 [(1, .inr (.inr v1)), (2, .inr (.inr v2)), (3, .inr (.inr v3)), (4, .inl v4), (0, .inr (.inr (some b)))] → k27 nc ns v1 v2 v3 v4 G → W p l e room_1 s m #[Value.ref b] below meth c H locs nc ns (lw_Z below #[Value.ref b] s) (F0 m 27 ls [])) : ∀ (nc ns : Nat) (v1 : Option Nat) (v2 : Option Nat) (v3 : Option Nat) (v4 : Int32) (G : tG) (H : Heap) (locs : List Loc) (ls : Array Slot), nc ≤ 645934 ∧ ns ≤ 7158302 → tg_W D A s H G → va_S A s.heap H locs → tl ls 7 [(1, .inr (.inr v1)), (2, .inr (.inr v2)), (3, .inr (.inr v3)), (4, .inl v4), (0, .inr (.inr (some b)))] → w_L_law_1516 K xL xs k27 nc ns v1 v2 v3 v4 G → W p l e room_1 s m #[Value.ref b] below meth c H locs nc ns (lw_Z below #[Value.ref b] s) (F0 m 1516 ls []) := by
  intro nc ns v1 v2 v3 v4 G H locs ls hcn hW hS hl hw
  unfold w_L_law_1516 at hw
  refine lv_goto (tgt := 3312) C.1.1 C.1.2.1 dL_law_1516 (by decide) ?_
  exact s_L_law_3312 C hr hX hbl hbA hA2 hcN hll k27 hk27 nc ns v1 v2 v3 v4 _ _ _ _ (show nc ≤ 645934 ∧ ns ≤ 7158302 by omega) hW hS (tl_sub hl [0, 1, 2, 3, 4] rfl) hw
set_option maxHeartbeats 4000000 in
set_option maxRecDepth 100000 in
theorem s_L_law_1510 {K : tK} (C : tc_B p l s m #[Value.ref b] meth c D K A wz_L_law RL cL_law 7) (hr : meth.sig.returnType = (some .boolean)) (hX : va_X b xL xs s s.heap) (hbl : b < s.heap.size) (hbA : ¬ A b) (hA2 : ∀ q : Nat, A q → s.heap.size ≤ q) (hcN : va_Nw tw_nest s) (hll : l.stackTraces = false)  (k27 : Nat → Nat → Option Nat → Option Nat → Option Nat → Int32 → tG → Prop) (hk27 : ∀ (nc ns : Nat) (v1 : Option Nat) (v2 : Option Nat) (v3 : Option Nat) (v4 : Int32) (G : tG) (H : Heap) (locs : List Loc) (ls : Array Slot), nc ≤ 645934 ∧ ns ≤ 7158302 → tg_W D A s H G → va_S A s.heap H locs → tl ls 7 [(1, .inr (.inr v1)), (2, .inr (.inr v2)), (3, .inr (.inr v3)), (4, .inl v4), (0, .inr (.inr (some b)))] → k27 nc ns v1 v2 v3 v4 G → W p l e room_1 s m #[Value.ref b] below meth c H locs nc ns (lw_Z below #[Value.ref b] s) (F0 m 27 ls [])) : ∀ (nc ns : Nat) (v1 : Option Nat) (v2 : Option Nat) (v3 : Option Nat) (v4 : Int32) (u0 : Int64) (u1 : Int64) (G : tG) (H : Heap) (locs : List Loc) (ls : Array Slot), nc ≤ 645934 ∧ ns ≤ 7158302 → tg_W D A s H G → va_S A s.heap H locs → tl ls 7 [(1, .inr (.inr v1)), (2, .inr (.inr v2)), (3, .inr (.inr v3)), (4, .inl v4), (0, .inr (.inr (some b)))] → w_L_law_1510 K xL xs k27 nc ns v1 v2 v3 v4 u0 u1 G → W p l e room_1 s m #[Value.ref b] below meth c H locs nc ns (lw_Z below #[Value.ref b] s) (F0 m 1510 ls [.long u1, .long u0]) := by
  intro nc ns v1 v2 v3 v4 u0 u1 G H locs ls hcn hW hS hl hw
  unfold w_L_law_1510 at hw
  refine W.lcmp C.1.1 C.1.2.1 dL_law_1510 ?_
  refine lv_if_eq (tgt := 1516) C.1.1 C.1.2.1 dL_law_1511 (by decide) (fun hc => ?_) (fun hc => ?_)
  · have hw := hw.1 hc
    exact s_L_law_1516 C hr hX hbl hbA hA2 hcN hll k27 hk27 nc ns v1 v2 v3 v4 _ _ _ _ (show nc ≤ 645934 ∧ ns ≤ 7158302 by omega) hW hS (tl_sub hl [0, 1, 2, 3, 4] rfl) hw
  · have hw := hw.2 hc
    refine lv_iconst (v := (0 : Int32)) C.1.1 C.1.2.1 dL_law_1514 (by decide) ?_
    exact tr_law C hr hA2 dL_law_1515 (show nc ≤ 645934 by omega) (show ns ≤ 7158302 by omega) hS hw
set_option maxHeartbeats 4000000 in
set_option maxRecDepth 100000 in
theorem s_L_law_1573 {K : tK} (C : tc_B p l s m #[Value.ref b] meth c D K A wz_L_law RL cL_law 7) (hr : meth.sig.returnType = (some .boolean)) (hX : va_X b xL xs s s.heap) (hbl : b < s.heap.size) (hbA : ¬ A b) (hA2 : ∀ q : Nat, A q → s.heap.size ≤ q) (hcN : va_Nw tw_nest s) (hll : l.stackTraces = false)  (k27 : Nat → Nat → Option Nat → Option Nat → Option Nat → Int32 → tG → Prop) (hk27 : ∀ (nc ns : Nat) (v1 : Option Nat) (v2 : Option Nat) (v3 : Option Nat) (v4 : Int32) (G : tG) (H : Heap) (locs : List Loc) (ls : Array Slot), nc ≤ 645934 ∧ ns ≤ 7158302 → tg_W D A s H G → va_S A s.heap H locs → tl ls 7 [(1, .inr (.inr v1)), (2, .inr (.inr v2)), (3, .inr (.inr v3)), (4, .inl v4), (0, .inr (.inr (some b)))] → k27 nc ns v1 v2 v3 v4 G → W p l e room_1 s m #[Value.ref b] below meth c H locs nc ns (lw_Z below #[Value.ref b] s) (F0 m 27 ls [])) : ∀ (nc ns : Nat) (v1 : Option Nat) (v2 : Option Nat) (v3 : Option Nat) (v4 : Int32) (G : tG) (H : Heap) (locs : List Loc) (ls : Array Slot), nc ≤ 645934 ∧ ns ≤ 7158302 → tg_W D A s H G → va_S A s.heap H locs → tl ls 7 [(1, .inr (.inr v1)), (2, .inr (.inr v2)), (3, .inr (.inr v3)), (4, .inl v4), (0, .inr (.inr (some b)))] → w_L_law_1573 K xL xs k27 nc ns v1 v2 v3 v4 G → W p l e room_1 s m #[Value.ref b] below meth c H locs nc ns (lw_Z below #[Value.ref b] s) (F0 m 1573 ls []) := by
  intro nc ns v1 v2 v3 v4 G H locs ls hcn hW hS hl hw
  unfold w_L_law_1573 at hw
  refine lv_goto (tgt := 3312) C.1.1 C.1.2.1 dL_law_1573 (by decide) ?_
  exact s_L_law_3312 C hr hX hbl hbA hA2 hcN hll k27 hk27 nc ns v1 v2 v3 v4 _ _ _ _ (show nc ≤ 645934 ∧ ns ≤ 7158302 by omega) hW hS (tl_sub hl [0, 1, 2, 3, 4] rfl) hw
set_option maxHeartbeats 4000000 in
set_option maxRecDepth 100000 in
theorem s_L_law_1683 {K : tK} (C : tc_B p l s m #[Value.ref b] meth c D K A wz_L_law RL cL_law 7) (hr : meth.sig.returnType = (some .boolean)) (hX : va_X b xL xs s s.heap) (hbl : b < s.heap.size) (hbA : ¬ A b) (hA2 : ∀ q : Nat, A q → s.heap.size ≤ q) (hcN : va_Nw tw_nest s) (hll : l.stackTraces = false)  (k27 : Nat → Nat → Option Nat → Option Nat → Option Nat → Int32 → tG → Prop) (hk27 : ∀ (nc ns : Nat) (v1 : Option Nat) (v2 : Option Nat) (v3 : Option Nat) (v4 : Int32) (G : tG) (H : Heap) (locs : List Loc) (ls : Array Slot), nc ≤ 645934 ∧ ns ≤ 7158302 → tg_W D A s H G → va_S A s.heap H locs → tl ls 7 [(1, .inr (.inr v1)), (2, .inr (.inr v2)), (3, .inr (.inr v3)), (4, .inl v4), (0, .inr (.inr (some b)))] → k27 nc ns v1 v2 v3 v4 G → W p l e room_1 s m #[Value.ref b] below meth c H locs nc ns (lw_Z below #[Value.ref b] s) (F0 m 27 ls [])) : ∀ (nc ns : Nat) (v1 : Option Nat) (v2 : Option Nat) (v3 : Option Nat) (v4 : Int32) (G : tG) (H : Heap) (locs : List Loc) (ls : Array Slot), nc ≤ 645934 ∧ ns ≤ 7158302 → tg_W D A s H G → va_S A s.heap H locs → tl ls 7 [(1, .inr (.inr v1)), (2, .inr (.inr v2)), (3, .inr (.inr v3)), (4, .inl v4), (0, .inr (.inr (some b)))] → w_L_law_1683 K xL xs k27 nc ns v1 v2 v3 v4 G → W p l e room_1 s m #[Value.ref b] below meth c H locs nc ns (lw_Z below #[Value.ref b] s) (F0 m 1683 ls []) := by
  intro nc ns v1 v2 v3 v4 G H locs ls hcn hW hS hl hw
  unfold w_L_law_1683 at hw
  refine lv_goto (tgt := 3312) C.1.1 C.1.2.1 dL_law_1683 (by decide) ?_
  exact s_L_law_3312 C hr hX hbl hbA hA2 hcN hll k27 hk27 nc ns v1 v2 v3 v4 _ _ _ _ (show nc ≤ 645934 ∧ ns ≤ 7158302 by omega) hW hS (tl_sub hl [0, 1, 2, 3, 4] rfl) hw
set_option maxHeartbeats 4000000 in
set_option maxRecDepth 100000 in
theorem s_L_law_1648 {K : tK} (C : tc_B p l s m #[Value.ref b] meth c D K A wz_L_law RL cL_law 7) (hr : meth.sig.returnType = (some .boolean)) (hX : va_X b xL xs s s.heap) (hbl : b < s.heap.size) (hbA : ¬ A b) (hA2 : ∀ q : Nat, A q → s.heap.size ≤ q) (hcN : va_Nw tw_nest s) (hll : l.stackTraces = false)  (k27 : Nat → Nat → Option Nat → Option Nat → Option Nat → Int32 → tG → Prop) (hk27 : ∀ (nc ns : Nat) (v1 : Option Nat) (v2 : Option Nat) (v3 : Option Nat) (v4 : Int32) (G : tG) (H : Heap) (locs : List Loc) (ls : Array Slot), nc ≤ 645934 ∧ ns ≤ 7158302 → tg_W D A s H G → va_S A s.heap H locs → tl ls 7 [(1, .inr (.inr v1)), (2, .inr (.inr v2)), (3, .inr (.inr v3)), (4, .inl v4), (0, .inr (.inr (some b)))] → k27 nc ns v1 v2 v3 v4 G → W p l e room_1 s m #[Value.ref b] below meth c H locs nc ns (lw_Z below #[Value.ref b] s) (F0 m 27 ls [])) : ∀ (nc ns : Nat) (v1 : Option Nat) (v2 : Option Nat) (v3 : Option Nat) (v4 : Int32) (v5 : Int32) (u0 : Option Nat) (u1 : Int32) (u2 : Int32) (u3 : Int32) (u4 : Int32) (G : tG) (H : Heap) (locs : List Loc) (ls : Array Slot), nc ≤ 645934 ∧ ns ≤ 7158302 → tg_W D A s H G → va_S A s.heap H locs → tl ls 7 [(1, .inr (.inr v1)), (2, .inr (.inr v2)), (3, .inr (.inr v3)), (4, .inl v4), (5, .inl v5), (0, .inr (.inr (some b)))] → w_L_law_1648 K xL xs k27 nc ns v1 v2 v3 v4 v5 u0 u1 u2 u3 u4 G → W p l e room_1 s m #[Value.ref b] below meth c H locs nc ns (lw_Z below #[Value.ref b] s) (F0 m 1648 ls [.int u4, .int u3, .int u2, .int u1, va_rf u0]) := by
  intro nc ns v1 v2 v3 v4 v5 u0 u1 u2 u3 u4 G H locs ls hcn hW hS hl hw
  unfold w_L_law_1648 at hw
  obtain ⟨mc_1648, ms_1648, hb1648, hd1648, hw⟩ := hw
  refine tr_backR (tr_runV (r := u0) (As := [.int u1, .int u2, .int u3, .int u4]) C hl.1 (c_X3_walk l hll K mc_1648 ms_1648 _ u0 u1 u2 u3 u4) (cwV 4 C.1.2.2.2.2 (gi_V (zm kw_678) (zm kw_679) (zm kw_680) (zm kw_155) (zm kw_677)) rfl rfl rfl (by decide +kernel) ⟨(Nat.le_of_ble_eq_true rfl), (Nat.le_of_ble_eq_true rfl)⟩) rfl rfl dL_law_1648 ⟨hb1648, hd1648⟩ [] rfl (Nat.le_of_ble_eq_true rfl) rfl hW hS hw) hS (fun x_1648 G_1648 H locs hw hW hS => ?_)
  refine tr_astore (x := x_1648) C hl [(6, .inr (.inr x_1648)), (1, .inr (.inr v1)), (2, .inr (.inr v2)), (3, .inr (.inr v3)), (4, .inl v4), (5, .inl v5), (0, .inr (.inr (some b)))] (by decide) rfl dL_law_1651 (fun ls hl => ?_)
  refine tr_aload_n (k := 2) (x := v2) C hl 2 rfl dL_law_1653 ?_
  refine tr_backI (tr_runV (r := v2) (As := []) C hl.1 (c_X3_thrown l hll K _ v2) (cwV 0 C.1.2.2.2.2 (gi_V (zm kw_682) (zm kw_683) (zm kw_684) (zm kw_155) (zm kw_681)) rfl rfl rfl (by decide +kernel) ⟨(Nat.le_of_ble_eq_true rfl), (Nat.le_of_ble_eq_true rfl)⟩) rfl rfl dL_law_1654 ⟨(show (nc + mc_1648) + 0 ≤ 645934 by omega), (show (ns + ms_1648) + 0 ≤ 7158302 by omega)⟩ [] rfl (Nat.le_of_ble_eq_true rfl) rfl hW hS hw) hS (fun x_1654 G_1654 H locs hw hW hS => ?_)
  refine tr_iload (x := v5) C hl 5 rfl dL_law_1657 ?_
  refine lv_icmp_eq (tgt := 1664) C.1.1 C.1.2.1 dL_law_1659 (by decide) (fun hc => ?_) (fun hc => ?_)
  · have hw := hw.1 hc
    refine tr_iload (x := v5) C hl 5 rfl dL_law_1664 ?_
    refine lv_if_ne (tgt := 1683) C.1.1 C.1.2.1 dL_law_1666 (by decide) (fun hc => ?_) (fun hc => ?_)
    · have hw := hw.1 hc
      exact s_L_law_1683 C hr hX hbl hbA hA2 hcN hll k27 hk27 ((nc + mc_1648)) ((ns + ms_1648)) v1 v2 v3 v4 _ _ _ _ (show (nc + mc_1648) ≤ 645934 ∧ (ns + ms_1648) ≤ 7158302 by omega) hW hS (tl_sub hl [1, 2, 3, 4, 6] rfl) hw
    · have hw := hw.2 hc
      refine tr_aload_n (k := 3) (x := v3) C hl 3 rfl dL_law_1669 ?_
      refine tr_gfRN (C0 := RX2) (T := TX2) (N := 2) (ci := 4) (ref := "TwinrowLaw$Out") (host := "TwinrowLaw") (k := 1) (r := v3) C (zh hw_X2) rfl (by decide) (tc_kx C).2.1 rfl dL_law_1670 hW hw (fun x_1670 hw => ?_)
      refine tr_aload (x := x_1648) C hl 0 rfl dL_law_1673 ?_
      refine tr_backI (tr_runVS (r := x_1670) (As := [va_rf x_1648]) C hl.1 (c_J0_equals_9ea2d l hll K _ x_1670 x_1648) (cwV 1 C.1.2.2.2.2 (gi_V (zm kw_686) (zm kw_687) (zm kw_688) (zm kw_456) (zm kw_685)) rfl rfl rfl (by decide +kernel) ⟨(Nat.le_of_ble_eq_true rfl), (Nat.le_of_ble_eq_true rfl)⟩) rfl rfl dL_law_1675 ⟨(show (nc + mc_1648) + 0 ≤ 645934 by omega), (show (ns + ms_1648) + 0 ≤ 7158302 by omega)⟩ [] rfl (Nat.le_of_ble_eq_true rfl) rfl hW hS hw) hS (fun x_1675 G_1675 H locs hw hW hS => ?_)
      refine lv_if_ne (tgt := 1683) C.1.1 C.1.2.1 dL_law_1678 (by decide) (fun hc => ?_) (fun hc => ?_)
      · have hw := hw.1 hc
        exact s_L_law_1683 C hr hX hbl hbA hA2 hcN hll k27 hk27 ((nc + mc_1648)) ((ns + ms_1648)) v1 v2 v3 v4 _ _ _ _ (show (nc + mc_1648) ≤ 645934 ∧ (ns + ms_1648) ≤ 7158302 by omega) hW hS (tl_sub hl [1, 2, 3, 4, 6] rfl) hw
      · have hw := hw.2 hc
        refine lv_iconst (v := (0 : Int32)) C.1.1 C.1.2.1 dL_law_1681 (by decide) ?_
        exact tr_law C hr hA2 dL_law_1682 (show (nc + mc_1648) ≤ 645934 by omega) (show (ns + ms_1648) ≤ 7158302 by omega) hS hw
  · have hw := hw.2 hc
    refine lv_iconst (v := (0 : Int32)) C.1.1 C.1.2.1 dL_law_1662 (by decide) ?_
    exact tr_law C hr hA2 dL_law_1663 (show (nc + mc_1648) ≤ 645934 by omega) (show (ns + ms_1648) ≤ 7158302 by omega) hS hw
set_option maxHeartbeats 4000000 in
set_option maxRecDepth 100000 in
theorem s_L_law_1609 {K : tK} (C : tc_B p l s m #[Value.ref b] meth c D K A wz_L_law RL cL_law 7) (hr : meth.sig.returnType = (some .boolean)) (hX : va_X b xL xs s s.heap) (hbl : b < s.heap.size) (hbA : ¬ A b) (hA2 : ∀ q : Nat, A q → s.heap.size ≤ q) (hcN : va_Nw tw_nest s) (hll : l.stackTraces = false)  (k27 : Nat → Nat → Option Nat → Option Nat → Option Nat → Int32 → tG → Prop) (hk27 : ∀ (nc ns : Nat) (v1 : Option Nat) (v2 : Option Nat) (v3 : Option Nat) (v4 : Int32) (G : tG) (H : Heap) (locs : List Loc) (ls : Array Slot), nc ≤ 645934 ∧ ns ≤ 7158302 → tg_W D A s H G → va_S A s.heap H locs → tl ls 7 [(1, .inr (.inr v1)), (2, .inr (.inr v2)), (3, .inr (.inr v3)), (4, .inl v4), (0, .inr (.inr (some b)))] → k27 nc ns v1 v2 v3 v4 G → W p l e room_1 s m #[Value.ref b] below meth c H locs nc ns (lw_Z below #[Value.ref b] s) (F0 m 27 ls [])) : ∀ (nc ns : Nat) (v1 : Option Nat) (v2 : Option Nat) (v3 : Option Nat) (v4 : Int32) (u0 : Option Nat) (u1 : Int32) (u2 : Int32) (u3 : Int32) (u4 : Int32) (G : tG) (H : Heap) (locs : List Loc) (ls : Array Slot), nc ≤ 645934 ∧ ns ≤ 7158302 → tg_W D A s H G → va_S A s.heap H locs → tl ls 7 [(1, .inr (.inr v1)), (2, .inr (.inr v2)), (3, .inr (.inr v3)), (4, .inl v4), (0, .inr (.inr (some b)))] → w_L_law_1609 K xL xs k27 nc ns v1 v2 v3 v4 u0 u1 u2 u3 u4 G → W p l e room_1 s m #[Value.ref b] below meth c H locs nc ns (lw_Z below #[Value.ref b] s) (F0 m 1609 ls [.int u4, .int u3, .int u2, .int u1, va_rf u0]) := by
  intro nc ns v1 v2 v3 v4 u0 u1 u2 u3 u4 G H locs ls hcn hW hS hl hw
  unfold w_L_law_1609 at hw
  refine tr_aload_n (k := 3) (x := v3) C hl 2 rfl dL_law_1609 ?_
  obtain ⟨mc_1610, ms_1610, hb1610, hd1610, hw⟩ := hw
  refine tx_backNI (tx_runSX (As := [va_rf u0, .int u1, .int u2, .int u3, .int u4, va_rf v3]) C hl.1 (c_L_walk l hll K mc_1610 ms_1610 _ u0 u1 u2 u3 u4 v3) (vx_cwSW 6 C.1.2.2.2.2 (gi_SX (zm kw_690) (zm kw_691) (zm kw_692) (zm kw_689)) rfl rfl rfl (by decide +kernel) ⟨(Nat.le_of_ble_eq_true rfl), (Nat.le_of_ble_eq_true rfl)⟩) rfl dL_law_1610 ⟨hb1610, hd1610⟩ [] rfl (Nat.le_of_ble_eq_true rfl) rfl hW hS hw) hS (fun x_1610 G_1610 H locs hw hW hS => ?_)
  refine tr_istore (x := x_1610) C hl [(5, .inl x_1610), (1, .inr (.inr v1)), (2, .inr (.inr v2)), (3, .inr (.inr v3)), (4, .inl v4), (0, .inr (.inr (some b)))] (by decide) rfl dL_law_1613 (fun ls hl => ?_)
  refine tr_aload_n (k := 2) (x := v2) C hl 2 rfl dL_law_1615 ?_
  refine tr_aload_n (k := 0) (x := (some b)) C hl 5 rfl dL_law_1616 ?_
  refine tr_iload (x := v4) C hl 4 rfl dL_law_1617 ?_
  refine lv_iconst (v := (1 : Int32)) C.1.1 C.1.2.1 dL_law_1619 (by decide) ?_
  refine lv_iadd C.1.1 C.1.2.1 dL_law_1620 ?_
  refine tr_sld C hX hbl hbA hS dL_law_1621 hw (fun x_1621 hw => ?_)
  refine tr_aload_n (k := 0) (x := (some b)) C hl 5 rfl dL_law_1622 ?_
  refine tr_iload (x := v4) C hl 4 rfl dL_law_1623 ?_
  refine lv_iconst (v := (2 : Int32)) C.1.1 C.1.2.1 dL_law_1625 (by decide) ?_
  refine lv_iadd C.1.1 C.1.2.1 dL_law_1626 ?_
  refine tr_sld C hX hbl hbA hS dL_law_1627 hw (fun x_1627 hw => ?_)
  refine tr_aload_n (k := 0) (x := (some b)) C hl 5 rfl dL_law_1628 ?_
  refine tr_iload (x := v4) C hl 4 rfl dL_law_1629 ?_
  refine lv_iconst (v := (3 : Int32)) C.1.1 C.1.2.1 dL_law_1631 (by decide) ?_
  refine lv_iadd C.1.1 C.1.2.1 dL_law_1632 ?_
  refine tr_sld C hX hbl hbA hS dL_law_1633 hw (fun x_1633 hw => ?_)
  refine tr_aload_n (k := 0) (x := (some b)) C hl 5 rfl dL_law_1634 ?_
  refine tr_iload (x := v4) C hl 4 rfl dL_law_1635 ?_
  refine lv_iconst (v := (4 : Int32)) C.1.1 C.1.2.1 dL_law_1637 (by decide) ?_
  refine lv_iadd C.1.1 C.1.2.1 dL_law_1638 ?_
  refine tr_sld C hX hbl hbA hS dL_law_1639 hw (fun x_1639 hw => ?_)
  refine lv_if_eq (tgt := 1647) C.1.1 C.1.2.1 dL_law_1640 (by decide) (fun hc => ?_) (fun hc => ?_)
  · have hw := hw.1 hc
    refine lv_iconst (v := (0 : Int32)) C.1.1 C.1.2.1 dL_law_1647 (by decide) ?_
    exact s_L_law_1648 C hr hX hbl hbA hA2 hcN hll k27 hk27 ((nc + mc_1610)) ((ns + ms_1610)) v1 v2 v3 v4 x_1610 v2 x_1621 x_1627 x_1633 ((0 : Int32)) _ _ _ _ (show (nc + mc_1610) ≤ 645934 ∧ (ns + ms_1610) ≤ 7158302 by omega) hW hS (tl_sub hl [1, 2, 3, 4, 0, 5] rfl) hw
  · have hw := hw.2 hc
    refine lv_iconst (v := (1 : Int32)) C.1.1 C.1.2.1 dL_law_1643 (by decide) ?_
    refine lv_goto (tgt := 1648) C.1.1 C.1.2.1 dL_law_1644 (by decide) ?_
    exact s_L_law_1648 C hr hX hbl hbA hA2 hcN hll k27 hk27 ((nc + mc_1610)) ((ns + ms_1610)) v1 v2 v3 v4 x_1610 v2 x_1621 x_1627 x_1633 ((1 : Int32)) _ _ _ _ (show (nc + mc_1610) ≤ 645934 ∧ (ns + ms_1610) ≤ 7158302 by omega) hW hS (tl_sub hl [1, 2, 3, 4, 0, 5] rfl) hw
set_option maxHeartbeats 4000000 in
set_option maxRecDepth 100000 in
theorem s_L_law_1740 {K : tK} (C : tc_B p l s m #[Value.ref b] meth c D K A wz_L_law RL cL_law 7) (hr : meth.sig.returnType = (some .boolean)) (hX : va_X b xL xs s s.heap) (hbl : b < s.heap.size) (hbA : ¬ A b) (hA2 : ∀ q : Nat, A q → s.heap.size ≤ q) (hcN : va_Nw tw_nest s) (hll : l.stackTraces = false)  (k27 : Nat → Nat → Option Nat → Option Nat → Option Nat → Int32 → tG → Prop) (hk27 : ∀ (nc ns : Nat) (v1 : Option Nat) (v2 : Option Nat) (v3 : Option Nat) (v4 : Int32) (G : tG) (H : Heap) (locs : List Loc) (ls : Array Slot), nc ≤ 645934 ∧ ns ≤ 7158302 → tg_W D A s H G → va_S A s.heap H locs → tl ls 7 [(1, .inr (.inr v1)), (2, .inr (.inr v2)), (3, .inr (.inr v3)), (4, .inl v4), (0, .inr (.inr (some b)))] → k27 nc ns v1 v2 v3 v4 G → W p l e room_1 s m #[Value.ref b] below meth c H locs nc ns (lw_Z below #[Value.ref b] s) (F0 m 27 ls [])) : ∀ (nc ns : Nat) (v1 : Option Nat) (v2 : Option Nat) (v3 : Option Nat) (v4 : Int32) (G : tG) (H : Heap) (locs : List Loc) (ls : Array Slot), nc ≤ 645934 ∧ ns ≤ 7158302 → tg_W D A s H G → va_S A s.heap H locs → tl ls 7 [(1, .inr (.inr v1)), (2, .inr (.inr v2)), (3, .inr (.inr v3)), (4, .inl v4), (0, .inr (.inr (some b)))] → w_L_law_1740 K xL xs k27 nc ns v1 v2 v3 v4 G → W p l e room_1 s m #[Value.ref b] below meth c H locs nc ns (lw_Z below #[Value.ref b] s) (F0 m 1740 ls []) := by
  intro nc ns v1 v2 v3 v4 G H locs ls hcn hW hS hl hw
  unfold w_L_law_1740 at hw
  refine lv_goto (tgt := 3312) C.1.1 C.1.2.1 dL_law_1740 (by decide) ?_
  exact s_L_law_3312 C hr hX hbl hbA hA2 hcN hll k27 hk27 nc ns v1 v2 v3 v4 _ _ _ _ (show nc ≤ 645934 ∧ ns ≤ 7158302 by omega) hW hS (tl_sub hl [0, 1, 2, 3, 4] rfl) hw
set_option maxHeartbeats 4000000 in
set_option maxRecDepth 100000 in
theorem s_L_law_1861 {K : tK} (C : tc_B p l s m #[Value.ref b] meth c D K A wz_L_law RL cL_law 7) (hr : meth.sig.returnType = (some .boolean)) (hX : va_X b xL xs s s.heap) (hbl : b < s.heap.size) (hbA : ¬ A b) (hA2 : ∀ q : Nat, A q → s.heap.size ≤ q) (hcN : va_Nw tw_nest s) (hll : l.stackTraces = false)  (k27 : Nat → Nat → Option Nat → Option Nat → Option Nat → Int32 → tG → Prop) (hk27 : ∀ (nc ns : Nat) (v1 : Option Nat) (v2 : Option Nat) (v3 : Option Nat) (v4 : Int32) (G : tG) (H : Heap) (locs : List Loc) (ls : Array Slot), nc ≤ 645934 ∧ ns ≤ 7158302 → tg_W D A s H G → va_S A s.heap H locs → tl ls 7 [(1, .inr (.inr v1)), (2, .inr (.inr v2)), (3, .inr (.inr v3)), (4, .inl v4), (0, .inr (.inr (some b)))] → k27 nc ns v1 v2 v3 v4 G → W p l e room_1 s m #[Value.ref b] below meth c H locs nc ns (lw_Z below #[Value.ref b] s) (F0 m 27 ls [])) : ∀ (nc ns : Nat) (v1 : Option Nat) (v2 : Option Nat) (v3 : Option Nat) (v4 : Int32) (G : tG) (H : Heap) (locs : List Loc) (ls : Array Slot), nc ≤ 645934 ∧ ns ≤ 7158302 → tg_W D A s H G → va_S A s.heap H locs → tl ls 7 [(1, .inr (.inr v1)), (2, .inr (.inr v2)), (3, .inr (.inr v3)), (4, .inl v4), (0, .inr (.inr (some b)))] → w_L_law_1861 K xL xs k27 nc ns v1 v2 v3 v4 G → W p l e room_1 s m #[Value.ref b] below meth c H locs nc ns (lw_Z below #[Value.ref b] s) (F0 m 1861 ls []) := by
  intro nc ns v1 v2 v3 v4 G H locs ls hcn hW hS hl hw
  unfold w_L_law_1861 at hw
  refine lv_goto (tgt := 3312) C.1.1 C.1.2.1 dL_law_1861 (by decide) ?_
  exact s_L_law_3312 C hr hX hbl hbA hA2 hcN hll k27 hk27 nc ns v1 v2 v3 v4 _ _ _ _ (show nc ≤ 645934 ∧ ns ≤ 7158302 by omega) hW hS (tl_sub hl [0, 1, 2, 3, 4] rfl) hw
set_option maxHeartbeats 4000000 in
set_option maxRecDepth 100000 in
theorem s_L_law_1827 {K : tK} (C : tc_B p l s m #[Value.ref b] meth c D K A wz_L_law RL cL_law 7) (hr : meth.sig.returnType = (some .boolean)) (hX : va_X b xL xs s s.heap) (hbl : b < s.heap.size) (hbA : ¬ A b) (hA2 : ∀ q : Nat, A q → s.heap.size ≤ q) (hcN : va_Nw tw_nest s) (hll : l.stackTraces = false)  (k27 : Nat → Nat → Option Nat → Option Nat → Option Nat → Int32 → tG → Prop) (hk27 : ∀ (nc ns : Nat) (v1 : Option Nat) (v2 : Option Nat) (v3 : Option Nat) (v4 : Int32) (G : tG) (H : Heap) (locs : List Loc) (ls : Array Slot), nc ≤ 645934 ∧ ns ≤ 7158302 → tg_W D A s H G → va_S A s.heap H locs → tl ls 7 [(1, .inr (.inr v1)), (2, .inr (.inr v2)), (3, .inr (.inr v3)), (4, .inl v4), (0, .inr (.inr (some b)))] → k27 nc ns v1 v2 v3 v4 G → W p l e room_1 s m #[Value.ref b] below meth c H locs nc ns (lw_Z below #[Value.ref b] s) (F0 m 27 ls [])) : ∀ (nc ns : Nat) (v1 : Option Nat) (v2 : Option Nat) (v3 : Option Nat) (v4 : Int32) (v5 : Int32) (u0 : Option Nat) (u1 : Int32) (u2 : Int32) (u3 : Int32) (u4 : Int32) (u5 : Int32) (G : tG) (H : Heap) (locs : List Loc) (ls : Array Slot), nc ≤ 645934 ∧ ns ≤ 7158302 → tg_W D A s H G → va_S A s.heap H locs → tl ls 7 [(1, .inr (.inr v1)), (2, .inr (.inr v2)), (3, .inr (.inr v3)), (4, .inl v4), (5, .inl v5), (0, .inr (.inr (some b)))] → w_L_law_1827 K xL xs k27 nc ns v1 v2 v3 v4 v5 u0 u1 u2 u3 u4 u5 G → W p l e room_1 s m #[Value.ref b] below meth c H locs nc ns (lw_Z below #[Value.ref b] s) (F0 m 1827 ls [.int u5, .int u4, .int u3, .int u2, .int u1, va_rf u0]) := by
  intro nc ns v1 v2 v3 v4 v5 u0 u1 u2 u3 u4 u5 G H locs ls hcn hW hS hl hw
  unfold w_L_law_1827 at hw
  refine tr_backI (tr_runV (r := u0) (As := [.int u1, .int u2, .int u3, .int u4, .int u5]) C hl.1 (c_X3_walkSet l hll K _ u0 u1 u2 u3 u4 u5) (cwV 5 C.1.2.2.2.2 (gi_V (zm kw_694) (zm kw_695) (zm kw_696) (zm kw_155) (zm kw_693)) rfl rfl rfl (by decide +kernel) ⟨(Nat.le_of_ble_eq_true rfl), (Nat.le_of_ble_eq_true rfl)⟩) rfl rfl dL_law_1827 ⟨(show nc + 0 ≤ 645934 by omega), (show ns + 0 ≤ 7158302 by omega)⟩ [] rfl (Nat.le_of_ble_eq_true rfl) rfl hW hS hw) hS (fun x_1827 G_1827 H locs hw hW hS => ?_)
  refine tr_istore (x := x_1827) C hl [(6, .inl x_1827), (1, .inr (.inr v1)), (2, .inr (.inr v2)), (3, .inr (.inr v3)), (4, .inl v4), (5, .inl v5), (0, .inr (.inr (some b)))] (by decide) rfl dL_law_1830 (fun ls hl => ?_)
  refine tr_aload_n (k := 2) (x := v2) C hl 2 rfl dL_law_1832 ?_
  refine tr_backI (tr_runV (r := v2) (As := []) C hl.1 (c_X3_thrown l hll K _ v2) (cwV 0 C.1.2.2.2.2 (gi_V (zm kw_682) (zm kw_683) (zm kw_684) (zm kw_155) (zm kw_681)) rfl rfl rfl (by decide +kernel) ⟨(Nat.le_of_ble_eq_true rfl), (Nat.le_of_ble_eq_true rfl)⟩) rfl rfl dL_law_1833 ⟨(show nc + 0 ≤ 645934 by omega), (show ns + 0 ≤ 7158302 by omega)⟩ [] rfl (Nat.le_of_ble_eq_true rfl) rfl hW hS hw) hS (fun x_1833 G_1833 H locs hw hW hS => ?_)
  refine tr_iload (x := v5) C hl 5 rfl dL_law_1836 ?_
  refine lv_icmp_eq (tgt := 1843) C.1.1 C.1.2.1 dL_law_1838 (by decide) (fun hc => ?_) (fun hc => ?_)
  · have hw := hw.1 hc
    refine tr_iload (x := v5) C hl 5 rfl dL_law_1843 ?_
    refine lv_if_ne (tgt := 1861) C.1.1 C.1.2.1 dL_law_1845 (by decide) (fun hc => ?_) (fun hc => ?_)
    · have hw := hw.1 hc
      exact s_L_law_1861 C hr hX hbl hbA hA2 hcN hll k27 hk27 nc ns v1 v2 v3 v4 _ _ _ _ (show nc ≤ 645934 ∧ ns ≤ 7158302 by omega) hW hS (tl_sub hl [1, 2, 3, 4, 6] rfl) hw
    · have hw := hw.2 hc
      refine tr_aload_n (k := 3) (x := v3) C hl 3 rfl dL_law_1848 ?_
      refine tr_gfLN (C0 := RX2) (T := TX2) (N := 2) (ci := 4) (ref := "TwinrowLaw$Out") (host := "TwinrowLaw") (k := 0) (r := v3) C (zh hw_X2) rfl (by decide) (tc_kx C).1 rfl dL_law_1849 hW hw (fun x_1849 hw => ?_)
      refine tr_iload (x := x_1827) C hl 0 rfl dL_law_1852 ?_
      refine lv_i2l (v := ((x_1827).toInt64)) C.1.1 C.1.2.1 dL_law_1854 rfl ?_
      refine W.lcmp C.1.1 C.1.2.1 dL_law_1855 ?_
      refine lv_if_eq (tgt := 1861) C.1.1 C.1.2.1 dL_law_1856 (by decide) (fun hc => ?_) (fun hc => ?_)
      · have hw := hw.1 hc
        exact s_L_law_1861 C hr hX hbl hbA hA2 hcN hll k27 hk27 nc ns v1 v2 v3 v4 _ _ _ _ (show nc ≤ 645934 ∧ ns ≤ 7158302 by omega) hW hS (tl_sub hl [1, 2, 3, 4, 6] rfl) hw
      · have hw := hw.2 hc
        refine lv_iconst (v := (0 : Int32)) C.1.1 C.1.2.1 dL_law_1859 (by decide) ?_
        exact tr_law C hr hA2 dL_law_1860 (show nc ≤ 645934 by omega) (show ns ≤ 7158302 by omega) hS hw
  · have hw := hw.2 hc
    refine lv_iconst (v := (0 : Int32)) C.1.1 C.1.2.1 dL_law_1841 (by decide) ?_
    exact tr_law C hr hA2 dL_law_1842 (show nc ≤ 645934 by omega) (show ns ≤ 7158302 by omega) hS hw
set_option maxHeartbeats 4000000 in
set_option maxRecDepth 100000 in
theorem s_L_law_1782 {K : tK} (C : tc_B p l s m #[Value.ref b] meth c D K A wz_L_law RL cL_law 7) (hr : meth.sig.returnType = (some .boolean)) (hX : va_X b xL xs s s.heap) (hbl : b < s.heap.size) (hbA : ¬ A b) (hA2 : ∀ q : Nat, A q → s.heap.size ≤ q) (hcN : va_Nw tw_nest s) (hll : l.stackTraces = false)  (k27 : Nat → Nat → Option Nat → Option Nat → Option Nat → Int32 → tG → Prop) (hk27 : ∀ (nc ns : Nat) (v1 : Option Nat) (v2 : Option Nat) (v3 : Option Nat) (v4 : Int32) (G : tG) (H : Heap) (locs : List Loc) (ls : Array Slot), nc ≤ 645934 ∧ ns ≤ 7158302 → tg_W D A s H G → va_S A s.heap H locs → tl ls 7 [(1, .inr (.inr v1)), (2, .inr (.inr v2)), (3, .inr (.inr v3)), (4, .inl v4), (0, .inr (.inr (some b)))] → k27 nc ns v1 v2 v3 v4 G → W p l e room_1 s m #[Value.ref b] below meth c H locs nc ns (lw_Z below #[Value.ref b] s) (F0 m 27 ls [])) : ∀ (nc ns : Nat) (v1 : Option Nat) (v2 : Option Nat) (v3 : Option Nat) (v4 : Int32) (u0 : Option Nat) (u1 : Int32) (u2 : Int32) (u3 : Int32) (u4 : Int32) (u5 : Int32) (G : tG) (H : Heap) (locs : List Loc) (ls : Array Slot), nc ≤ 645934 ∧ ns ≤ 7158302 → tg_W D A s H G → va_S A s.heap H locs → tl ls 7 [(1, .inr (.inr v1)), (2, .inr (.inr v2)), (3, .inr (.inr v3)), (4, .inl v4), (0, .inr (.inr (some b)))] → w_L_law_1782 K xL xs k27 nc ns v1 v2 v3 v4 u0 u1 u2 u3 u4 u5 G → W p l e room_1 s m #[Value.ref b] below meth c H locs nc ns (lw_Z below #[Value.ref b] s) (F0 m 1782 ls [.int u5, .int u4, .int u3, .int u2, .int u1, va_rf u0]) := by
  intro nc ns v1 v2 v3 v4 u0 u1 u2 u3 u4 u5 G H locs ls hcn hW hS hl hw
  unfold w_L_law_1782 at hw
  refine tr_aload_n (k := 3) (x := v3) C hl 2 rfl dL_law_1782 ?_
  have hq1 := hw.1
  have hw := hw.2
  refine tx_backNI (tx_runSX (As := [va_rf u0, .int u1, .int u2, .int u3, .int u4, .int u5, va_rf v3]) C hl.1 (c_L_walkSet l hll K _ u0 u1 u2 u3 u4 u5 v3) (vx_cwSW 7 C.1.2.2.2.2 (gi_SX (zm kw_698) (zm kw_699) (zm kw_692) (zm kw_697)) rfl rfl rfl (by decide +kernel) ⟨(Nat.le_of_ble_eq_true rfl), (Nat.le_of_ble_eq_true rfl)⟩) rfl dL_law_1783 ⟨hq1.1, hq1.2⟩ [] rfl (Nat.le_of_ble_eq_true rfl) rfl hW hS hw) hS (fun x_1783 G_1783 H locs hw hW hS => ?_)
  refine tr_istore (x := x_1783) C hl [(5, .inl x_1783), (1, .inr (.inr v1)), (2, .inr (.inr v2)), (3, .inr (.inr v3)), (4, .inl v4), (0, .inr (.inr (some b)))] (by decide) rfl dL_law_1786 (fun ls hl => ?_)
  refine tr_aload_n (k := 2) (x := v2) C hl 2 rfl dL_law_1788 ?_
  refine tr_aload_n (k := 0) (x := (some b)) C hl 5 rfl dL_law_1789 ?_
  refine tr_iload (x := v4) C hl 4 rfl dL_law_1790 ?_
  refine lv_iconst (v := (1 : Int32)) C.1.1 C.1.2.1 dL_law_1792 (by decide) ?_
  refine lv_iadd C.1.1 C.1.2.1 dL_law_1793 ?_
  refine tr_sld C hX hbl hbA hS dL_law_1794 hw (fun x_1794 hw => ?_)
  refine tr_aload_n (k := 0) (x := (some b)) C hl 5 rfl dL_law_1795 ?_
  refine tr_iload (x := v4) C hl 4 rfl dL_law_1796 ?_
  refine lv_iconst (v := (2 : Int32)) C.1.1 C.1.2.1 dL_law_1798 (by decide) ?_
  refine lv_iadd C.1.1 C.1.2.1 dL_law_1799 ?_
  refine tr_sld C hX hbl hbA hS dL_law_1800 hw (fun x_1800 hw => ?_)
  refine tr_aload_n (k := 0) (x := (some b)) C hl 5 rfl dL_law_1801 ?_
  refine tr_iload (x := v4) C hl 4 rfl dL_law_1802 ?_
  refine lv_iconst (v := (3 : Int32)) C.1.1 C.1.2.1 dL_law_1804 (by decide) ?_
  refine lv_iadd C.1.1 C.1.2.1 dL_law_1805 ?_
  refine tr_sld C hX hbl hbA hS dL_law_1806 hw (fun x_1806 hw => ?_)
  refine tr_aload_n (k := 0) (x := (some b)) C hl 5 rfl dL_law_1807 ?_
  refine tr_iload (x := v4) C hl 4 rfl dL_law_1808 ?_
  refine lv_iconst (v := (4 : Int32)) C.1.1 C.1.2.1 dL_law_1810 (by decide) ?_
  refine lv_iadd C.1.1 C.1.2.1 dL_law_1811 ?_
  refine tr_sld C hX hbl hbA hS dL_law_1812 hw (fun x_1812 hw => ?_)
  refine tr_aload_n (k := 0) (x := (some b)) C hl 5 rfl dL_law_1813 ?_
  refine tr_iload (x := v4) C hl 4 rfl dL_law_1814 ?_
  refine lv_iconst (v := (5 : Int32)) C.1.1 C.1.2.1 dL_law_1816 (by decide) ?_
  refine lv_iadd C.1.1 C.1.2.1 dL_law_1817 ?_
  refine tr_sld C hX hbl hbA hS dL_law_1818 hw (fun x_1818 hw => ?_)
  refine lv_if_eq (tgt := 1826) C.1.1 C.1.2.1 dL_law_1819 (by decide) (fun hc => ?_) (fun hc => ?_)
  · have hw := hw.1 hc
    refine lv_iconst (v := (0 : Int32)) C.1.1 C.1.2.1 dL_law_1826 (by decide) ?_
    exact s_L_law_1827 C hr hX hbl hbA hA2 hcN hll k27 hk27 ((nc + 4)) ((ns + 24)) v1 v2 v3 v4 x_1783 v2 x_1794 x_1800 x_1806 x_1812 ((0 : Int32)) _ _ _ _ (show (nc + 4) ≤ 645934 ∧ (ns + 24) ≤ 7158302 by omega) hW hS (tl_sub hl [1, 2, 3, 4, 0, 5] rfl) hw
  · have hw := hw.2 hc
    refine lv_iconst (v := (1 : Int32)) C.1.1 C.1.2.1 dL_law_1822 (by decide) ?_
    refine lv_goto (tgt := 1827) C.1.1 C.1.2.1 dL_law_1823 (by decide) ?_
    exact s_L_law_1827 C hr hX hbl hbA hA2 hcN hll k27 hk27 ((nc + 4)) ((ns + 24)) v1 v2 v3 v4 x_1783 v2 x_1794 x_1800 x_1806 x_1812 ((1 : Int32)) _ _ _ _ (show (nc + 4) ≤ 645934 ∧ (ns + 24) ≤ 7158302 by omega) hW hS (tl_sub hl [1, 2, 3, 4, 0, 5] rfl) hw
set_option maxHeartbeats 4000000 in
set_option maxRecDepth 100000 in
theorem s_L_law_1942 {K : tK} (C : tc_B p l s m #[Value.ref b] meth c D K A wz_L_law RL cL_law 7) (hr : meth.sig.returnType = (some .boolean)) (hX : va_X b xL xs s s.heap) (hbl : b < s.heap.size) (hbA : ¬ A b) (hA2 : ∀ q : Nat, A q → s.heap.size ≤ q) (hcN : va_Nw tw_nest s) (hll : l.stackTraces = false)  (k27 : Nat → Nat → Option Nat → Option Nat → Option Nat → Int32 → tG → Prop) (hk27 : ∀ (nc ns : Nat) (v1 : Option Nat) (v2 : Option Nat) (v3 : Option Nat) (v4 : Int32) (G : tG) (H : Heap) (locs : List Loc) (ls : Array Slot), nc ≤ 645934 ∧ ns ≤ 7158302 → tg_W D A s H G → va_S A s.heap H locs → tl ls 7 [(1, .inr (.inr v1)), (2, .inr (.inr v2)), (3, .inr (.inr v3)), (4, .inl v4), (0, .inr (.inr (some b)))] → k27 nc ns v1 v2 v3 v4 G → W p l e room_1 s m #[Value.ref b] below meth c H locs nc ns (lw_Z below #[Value.ref b] s) (F0 m 27 ls [])) : ∀ (nc ns : Nat) (v1 : Option Nat) (v2 : Option Nat) (v3 : Option Nat) (v4 : Int32) (G : tG) (H : Heap) (locs : List Loc) (ls : Array Slot), nc ≤ 645934 ∧ ns ≤ 7158302 → tg_W D A s H G → va_S A s.heap H locs → tl ls 7 [(1, .inr (.inr v1)), (2, .inr (.inr v2)), (3, .inr (.inr v3)), (4, .inl v4), (0, .inr (.inr (some b)))] → w_L_law_1942 K xL xs k27 nc ns v1 v2 v3 v4 G → W p l e room_1 s m #[Value.ref b] below meth c H locs nc ns (lw_Z below #[Value.ref b] s) (F0 m 1942 ls []) := by
  intro nc ns v1 v2 v3 v4 G H locs ls hcn hW hS hl hw
  unfold w_L_law_1942 at hw
  refine lv_goto (tgt := 3312) C.1.1 C.1.2.1 dL_law_1942 (by decide) ?_
  exact s_L_law_3312 C hr hX hbl hbA hA2 hcN hll k27 hk27 nc ns v1 v2 v3 v4 _ _ _ _ (show nc ≤ 645934 ∧ ns ≤ 7158302 by omega) hW hS (tl_sub hl [0, 1, 2, 3, 4] rfl) hw
set_option maxHeartbeats 4000000 in
set_option maxRecDepth 100000 in
theorem s_L_law_2023 {K : tK} (C : tc_B p l s m #[Value.ref b] meth c D K A wz_L_law RL cL_law 7) (hr : meth.sig.returnType = (some .boolean)) (hX : va_X b xL xs s s.heap) (hbl : b < s.heap.size) (hbA : ¬ A b) (hA2 : ∀ q : Nat, A q → s.heap.size ≤ q) (hcN : va_Nw tw_nest s) (hll : l.stackTraces = false)  (k27 : Nat → Nat → Option Nat → Option Nat → Option Nat → Int32 → tG → Prop) (hk27 : ∀ (nc ns : Nat) (v1 : Option Nat) (v2 : Option Nat) (v3 : Option Nat) (v4 : Int32) (G : tG) (H : Heap) (locs : List Loc) (ls : Array Slot), nc ≤ 645934 ∧ ns ≤ 7158302 → tg_W D A s H G → va_S A s.heap H locs → tl ls 7 [(1, .inr (.inr v1)), (2, .inr (.inr v2)), (3, .inr (.inr v3)), (4, .inl v4), (0, .inr (.inr (some b)))] → k27 nc ns v1 v2 v3 v4 G → W p l e room_1 s m #[Value.ref b] below meth c H locs nc ns (lw_Z below #[Value.ref b] s) (F0 m 27 ls [])) : ∀ (nc ns : Nat) (v1 : Option Nat) (v2 : Option Nat) (v3 : Option Nat) (v4 : Int32) (G : tG) (H : Heap) (locs : List Loc) (ls : Array Slot), nc ≤ 645934 ∧ ns ≤ 7158302 → tg_W D A s H G → va_S A s.heap H locs → tl ls 7 [(1, .inr (.inr v1)), (2, .inr (.inr v2)), (3, .inr (.inr v3)), (4, .inl v4), (0, .inr (.inr (some b)))] → w_L_law_2023 K xL xs k27 nc ns v1 v2 v3 v4 G → W p l e room_1 s m #[Value.ref b] below meth c H locs nc ns (lw_Z below #[Value.ref b] s) (F0 m 2023 ls []) := by
  intro nc ns v1 v2 v3 v4 G H locs ls hcn hW hS hl hw
  unfold w_L_law_2023 at hw
  refine lv_goto (tgt := 3312) C.1.1 C.1.2.1 dL_law_2023 (by decide) ?_
  exact s_L_law_3312 C hr hX hbl hbA hA2 hcN hll k27 hk27 nc ns v1 v2 v3 v4 _ _ _ _ (show nc ≤ 645934 ∧ ns ≤ 7158302 by omega) hW hS (tl_sub hl [0, 1, 2, 3, 4] rfl) hw
set_option maxHeartbeats 4000000 in
set_option maxRecDepth 100000 in
theorem s_L_law_2092 {K : tK} (C : tc_B p l s m #[Value.ref b] meth c D K A wz_L_law RL cL_law 7) (hr : meth.sig.returnType = (some .boolean)) (hX : va_X b xL xs s s.heap) (hbl : b < s.heap.size) (hbA : ¬ A b) (hA2 : ∀ q : Nat, A q → s.heap.size ≤ q) (hcN : va_Nw tw_nest s) (hll : l.stackTraces = false)  (k27 : Nat → Nat → Option Nat → Option Nat → Option Nat → Int32 → tG → Prop) (hk27 : ∀ (nc ns : Nat) (v1 : Option Nat) (v2 : Option Nat) (v3 : Option Nat) (v4 : Int32) (G : tG) (H : Heap) (locs : List Loc) (ls : Array Slot), nc ≤ 645934 ∧ ns ≤ 7158302 → tg_W D A s H G → va_S A s.heap H locs → tl ls 7 [(1, .inr (.inr v1)), (2, .inr (.inr v2)), (3, .inr (.inr v3)), (4, .inl v4), (0, .inr (.inr (some b)))] → k27 nc ns v1 v2 v3 v4 G → W p l e room_1 s m #[Value.ref b] below meth c H locs nc ns (lw_Z below #[Value.ref b] s) (F0 m 27 ls [])) : ∀ (nc ns : Nat) (v1 : Option Nat) (v2 : Option Nat) (v3 : Option Nat) (v4 : Int32) (G : tG) (H : Heap) (locs : List Loc) (ls : Array Slot), nc ≤ 645934 ∧ ns ≤ 7158302 → tg_W D A s H G → va_S A s.heap H locs → tl ls 7 [(1, .inr (.inr v1)), (2, .inr (.inr v2)), (3, .inr (.inr v3)), (4, .inl v4), (0, .inr (.inr (some b)))] → w_L_law_2092 K xL xs k27 nc ns v1 v2 v3 v4 G → W p l e room_1 s m #[Value.ref b] below meth c H locs nc ns (lw_Z below #[Value.ref b] s) (F0 m 2092 ls []) := by
  intro nc ns v1 v2 v3 v4 G H locs ls hcn hW hS hl hw
  unfold w_L_law_2092 at hw
  refine lv_goto (tgt := 3312) C.1.1 C.1.2.1 dL_law_2092 (by decide) ?_
  exact s_L_law_3312 C hr hX hbl hbA hA2 hcN hll k27 hk27 nc ns v1 v2 v3 v4 _ _ _ _ (show nc ≤ 645934 ∧ ns ≤ 7158302 by omega) hW hS (tl_sub hl [0, 1, 2, 3, 4] rfl) hw
set_option maxHeartbeats 4000000 in
set_option maxRecDepth 100000 in
theorem s_L_law_2177 {K : tK} (C : tc_B p l s m #[Value.ref b] meth c D K A wz_L_law RL cL_law 7) (hr : meth.sig.returnType = (some .boolean)) (hX : va_X b xL xs s s.heap) (hbl : b < s.heap.size) (hbA : ¬ A b) (hA2 : ∀ q : Nat, A q → s.heap.size ≤ q) (hcN : va_Nw tw_nest s) (hll : l.stackTraces = false)  (k27 : Nat → Nat → Option Nat → Option Nat → Option Nat → Int32 → tG → Prop) (hk27 : ∀ (nc ns : Nat) (v1 : Option Nat) (v2 : Option Nat) (v3 : Option Nat) (v4 : Int32) (G : tG) (H : Heap) (locs : List Loc) (ls : Array Slot), nc ≤ 645934 ∧ ns ≤ 7158302 → tg_W D A s H G → va_S A s.heap H locs → tl ls 7 [(1, .inr (.inr v1)), (2, .inr (.inr v2)), (3, .inr (.inr v3)), (4, .inl v4), (0, .inr (.inr (some b)))] → k27 nc ns v1 v2 v3 v4 G → W p l e room_1 s m #[Value.ref b] below meth c H locs nc ns (lw_Z below #[Value.ref b] s) (F0 m 27 ls [])) : ∀ (nc ns : Nat) (v1 : Option Nat) (v2 : Option Nat) (v3 : Option Nat) (v4 : Int32) (G : tG) (H : Heap) (locs : List Loc) (ls : Array Slot), nc ≤ 645934 ∧ ns ≤ 7158302 → tg_W D A s H G → va_S A s.heap H locs → tl ls 7 [(1, .inr (.inr v1)), (2, .inr (.inr v2)), (3, .inr (.inr v3)), (4, .inl v4), (0, .inr (.inr (some b)))] → w_L_law_2177 K xL xs k27 nc ns v1 v2 v3 v4 G → W p l e room_1 s m #[Value.ref b] below meth c H locs nc ns (lw_Z below #[Value.ref b] s) (F0 m 2177 ls []) := by
  intro nc ns v1 v2 v3 v4 G H locs ls hcn hW hS hl hw
  unfold w_L_law_2177 at hw
  refine lv_goto (tgt := 3312) C.1.1 C.1.2.1 dL_law_2177 (by decide) ?_
  exact s_L_law_3312 C hr hX hbl hbA hA2 hcN hll k27 hk27 nc ns v1 v2 v3 v4 _ _ _ _ (show nc ≤ 645934 ∧ ns ≤ 7158302 by omega) hW hS (tl_sub hl [0, 1, 2, 3, 4] rfl) hw
set_option maxHeartbeats 4000000 in
set_option maxRecDepth 100000 in
theorem s_L_law_2143 {K : tK} (C : tc_B p l s m #[Value.ref b] meth c D K A wz_L_law RL cL_law 7) (hr : meth.sig.returnType = (some .boolean)) (hX : va_X b xL xs s s.heap) (hbl : b < s.heap.size) (hbA : ¬ A b) (hA2 : ∀ q : Nat, A q → s.heap.size ≤ q) (hcN : va_Nw tw_nest s) (hll : l.stackTraces = false)  (k27 : Nat → Nat → Option Nat → Option Nat → Option Nat → Int32 → tG → Prop) (hk27 : ∀ (nc ns : Nat) (v1 : Option Nat) (v2 : Option Nat) (v3 : Option Nat) (v4 : Int32) (G : tG) (H : Heap) (locs : List Loc) (ls : Array Slot), nc ≤ 645934 ∧ ns ≤ 7158302 → tg_W D A s H G → va_S A s.heap H locs → tl ls 7 [(1, .inr (.inr v1)), (2, .inr (.inr v2)), (3, .inr (.inr v3)), (4, .inl v4), (0, .inr (.inr (some b)))] → k27 nc ns v1 v2 v3 v4 G → W p l e room_1 s m #[Value.ref b] below meth c H locs nc ns (lw_Z below #[Value.ref b] s) (F0 m 27 ls [])) : ∀ (nc ns : Nat) (v1 : Option Nat) (v2 : Option Nat) (v3 : Option Nat) (v4 : Int32) (v5 : Int32) (u0 : Option Nat) (u1 : Int32) (u2 : Int32) (G : tG) (H : Heap) (locs : List Loc) (ls : Array Slot), nc ≤ 645934 ∧ ns ≤ 7158302 → tg_W D A s H G → va_S A s.heap H locs → tl ls 7 [(1, .inr (.inr v1)), (2, .inr (.inr v2)), (3, .inr (.inr v3)), (4, .inl v4), (5, .inl v5), (0, .inr (.inr (some b)))] → w_L_law_2143 K xL xs k27 nc ns v1 v2 v3 v4 v5 u0 u1 u2 G → W p l e room_1 s m #[Value.ref b] below meth c H locs nc ns (lw_Z below #[Value.ref b] s) (F0 m 2143 ls [.int u2, .int u1, va_rf u0]) := by
  intro nc ns v1 v2 v3 v4 v5 u0 u1 u2 G H locs ls hcn hW hS hl hw
  unfold w_L_law_2143 at hw
  have hq2 := hw.1
  have hw := hw.2
  refine tr_backI (tr_runV (r := u0) (As := [.int u1, .int u2]) C hl.1 (c_X3_sort l hll K _ u0 u1 u2) (cwV 2 C.1.2.2.2.2 (gi_V (zm kw_701) (zm kw_702) (zm kw_703) (zm kw_155) (zm kw_700)) rfl rfl rfl (by decide +kernel) ⟨(Nat.le_of_ble_eq_true rfl), (Nat.le_of_ble_eq_true rfl)⟩) rfl rfl dL_law_2143 ⟨hq2.1, hq2.2⟩ [] rfl (Nat.le_of_ble_eq_true rfl) rfl hW hS hw) hS (fun x_2143 G_2143 H locs hw hW hS => ?_)
  refine tr_istore (x := x_2143) C hl [(6, .inl x_2143), (1, .inr (.inr v1)), (2, .inr (.inr v2)), (3, .inr (.inr v3)), (4, .inl v4), (5, .inl v5), (0, .inr (.inr (some b)))] (by decide) rfl dL_law_2146 (fun ls hl => ?_)
  refine tr_aload_n (k := 2) (x := v2) C hl 2 rfl dL_law_2148 ?_
  refine tr_backI (tr_runV (r := v2) (As := []) C hl.1 (c_X3_thrown l hll K _ v2) (cwV 0 C.1.2.2.2.2 (gi_V (zm kw_682) (zm kw_683) (zm kw_684) (zm kw_155) (zm kw_681)) rfl rfl rfl (by decide +kernel) ⟨(Nat.le_of_ble_eq_true rfl), (Nat.le_of_ble_eq_true rfl)⟩) rfl rfl dL_law_2149 ⟨(show (nc + 1) + 0 ≤ 645934 by omega), (show (ns + 12) + 0 ≤ 7158302 by omega)⟩ [] rfl (Nat.le_of_ble_eq_true rfl) rfl hW hS hw) hS (fun x_2149 G_2149 H locs hw hW hS => ?_)
  refine tr_iload (x := v5) C hl 5 rfl dL_law_2152 ?_
  refine lv_icmp_eq (tgt := 2159) C.1.1 C.1.2.1 dL_law_2154 (by decide) (fun hc => ?_) (fun hc => ?_)
  · have hw := hw.1 hc
    refine tr_iload (x := v5) C hl 5 rfl dL_law_2159 ?_
    refine lv_if_ne (tgt := 2177) C.1.1 C.1.2.1 dL_law_2161 (by decide) (fun hc => ?_) (fun hc => ?_)
    · have hw := hw.1 hc
      exact s_L_law_2177 C hr hX hbl hbA hA2 hcN hll k27 hk27 ((nc + 1)) ((ns + 12)) v1 v2 v3 v4 _ _ _ _ (show (nc + 1) ≤ 645934 ∧ (ns + 12) ≤ 7158302 by omega) hW hS (tl_sub hl [1, 2, 3, 4, 6] rfl) hw
    · have hw := hw.2 hc
      refine tr_aload_n (k := 3) (x := v3) C hl 3 rfl dL_law_2164 ?_
      refine tr_gfLN (C0 := RX2) (T := TX2) (N := 2) (ci := 4) (ref := "TwinrowLaw$Out") (host := "TwinrowLaw") (k := 0) (r := v3) C (zh hw_X2) rfl (by decide) (tc_kx C).1 rfl dL_law_2165 hW hw (fun x_2165 hw => ?_)
      refine tr_iload (x := x_2143) C hl 0 rfl dL_law_2168 ?_
      refine lv_i2l (v := ((x_2143).toInt64)) C.1.1 C.1.2.1 dL_law_2170 rfl ?_
      refine W.lcmp C.1.1 C.1.2.1 dL_law_2171 ?_
      refine lv_if_eq (tgt := 2177) C.1.1 C.1.2.1 dL_law_2172 (by decide) (fun hc => ?_) (fun hc => ?_)
      · have hw := hw.1 hc
        exact s_L_law_2177 C hr hX hbl hbA hA2 hcN hll k27 hk27 ((nc + 1)) ((ns + 12)) v1 v2 v3 v4 _ _ _ _ (show (nc + 1) ≤ 645934 ∧ (ns + 12) ≤ 7158302 by omega) hW hS (tl_sub hl [1, 2, 3, 4, 6] rfl) hw
      · have hw := hw.2 hc
        refine lv_iconst (v := (0 : Int32)) C.1.1 C.1.2.1 dL_law_2175 (by decide) ?_
        exact tr_law C hr hA2 dL_law_2176 (show (nc + 1) ≤ 645934 by omega) (show (ns + 12) ≤ 7158302 by omega) hS hw
  · have hw := hw.2 hc
    refine lv_iconst (v := (0 : Int32)) C.1.1 C.1.2.1 dL_law_2157 (by decide) ?_
    exact tr_law C hr hA2 dL_law_2158 (show (nc + 1) ≤ 645934 by omega) (show (ns + 12) ≤ 7158302 by omega) hS hw
set_option maxHeartbeats 4000000 in
set_option maxRecDepth 100000 in
theorem s_L_law_2116 {K : tK} (C : tc_B p l s m #[Value.ref b] meth c D K A wz_L_law RL cL_law 7) (hr : meth.sig.returnType = (some .boolean)) (hX : va_X b xL xs s s.heap) (hbl : b < s.heap.size) (hbA : ¬ A b) (hA2 : ∀ q : Nat, A q → s.heap.size ≤ q) (hcN : va_Nw tw_nest s) (hll : l.stackTraces = false)  (k27 : Nat → Nat → Option Nat → Option Nat → Option Nat → Int32 → tG → Prop) (hk27 : ∀ (nc ns : Nat) (v1 : Option Nat) (v2 : Option Nat) (v3 : Option Nat) (v4 : Int32) (G : tG) (H : Heap) (locs : List Loc) (ls : Array Slot), nc ≤ 645934 ∧ ns ≤ 7158302 → tg_W D A s H G → va_S A s.heap H locs → tl ls 7 [(1, .inr (.inr v1)), (2, .inr (.inr v2)), (3, .inr (.inr v3)), (4, .inl v4), (0, .inr (.inr (some b)))] → k27 nc ns v1 v2 v3 v4 G → W p l e room_1 s m #[Value.ref b] below meth c H locs nc ns (lw_Z below #[Value.ref b] s) (F0 m 27 ls [])) : ∀ (nc ns : Nat) (v1 : Option Nat) (v2 : Option Nat) (v3 : Option Nat) (v4 : Int32) (u0 : Option Nat) (u1 : Int32) (u2 : Int32) (G : tG) (H : Heap) (locs : List Loc) (ls : Array Slot), nc ≤ 645934 ∧ ns ≤ 7158302 → tg_W D A s H G → va_S A s.heap H locs → tl ls 7 [(1, .inr (.inr v1)), (2, .inr (.inr v2)), (3, .inr (.inr v3)), (4, .inl v4), (0, .inr (.inr (some b)))] → w_L_law_2116 K xL xs k27 nc ns v1 v2 v3 v4 u0 u1 u2 G → W p l e room_1 s m #[Value.ref b] below meth c H locs nc ns (lw_Z below #[Value.ref b] s) (F0 m 2116 ls [.int u2, .int u1, va_rf u0]) := by
  intro nc ns v1 v2 v3 v4 u0 u1 u2 G H locs ls hcn hW hS hl hw
  unfold w_L_law_2116 at hw
  refine tr_aload_n (k := 3) (x := v3) C hl 2 rfl dL_law_2116 ?_
  have hq3 := hw.1
  have hw := hw.2
  refine tx_backNI (tx_runSX (As := [va_rf u0, .int u1, .int u2, va_rf v3]) C hl.1 (c_L_sort l hll K _ u0 u1 u2 v3) (vx_cwSW 4 C.1.2.2.2.2 (gi_SX (zm kw_705) (zm kw_706) (zm kw_692) (zm kw_704)) rfl rfl rfl (by decide +kernel) ⟨(Nat.le_of_ble_eq_true rfl), (Nat.le_of_ble_eq_true rfl)⟩) rfl dL_law_2117 ⟨hq3.1, hq3.2⟩ [] rfl (Nat.le_of_ble_eq_true rfl) rfl hW hS hw) hS (fun x_2117 G_2117 H locs hw hW hS => ?_)
  refine tr_istore (x := x_2117) C hl [(5, .inl x_2117), (1, .inr (.inr v1)), (2, .inr (.inr v2)), (3, .inr (.inr v3)), (4, .inl v4), (0, .inr (.inr (some b)))] (by decide) rfl dL_law_2120 (fun ls hl => ?_)
  refine tr_aload_n (k := 2) (x := v2) C hl 2 rfl dL_law_2122 ?_
  refine tr_aload_n (k := 0) (x := (some b)) C hl 5 rfl dL_law_2123 ?_
  refine tr_iload (x := v4) C hl 4 rfl dL_law_2124 ?_
  refine lv_iconst (v := (1 : Int32)) C.1.1 C.1.2.1 dL_law_2126 (by decide) ?_
  refine lv_iadd C.1.1 C.1.2.1 dL_law_2127 ?_
  refine tr_sld C hX hbl hbA hS dL_law_2128 hw (fun x_2128 hw => ?_)
  refine tr_aload_n (k := 0) (x := (some b)) C hl 5 rfl dL_law_2129 ?_
  refine tr_iload (x := v4) C hl 4 rfl dL_law_2130 ?_
  refine lv_iconst (v := (2 : Int32)) C.1.1 C.1.2.1 dL_law_2132 (by decide) ?_
  refine lv_iadd C.1.1 C.1.2.1 dL_law_2133 ?_
  refine tr_sld C hX hbl hbA hS dL_law_2134 hw (fun x_2134 hw => ?_)
  refine lv_if_eq (tgt := 2142) C.1.1 C.1.2.1 dL_law_2135 (by decide) (fun hc => ?_) (fun hc => ?_)
  · have hw := hw.1 hc
    refine lv_iconst (v := (0 : Int32)) C.1.1 C.1.2.1 dL_law_2142 (by decide) ?_
    exact s_L_law_2143 C hr hX hbl hbA hA2 hcN hll k27 hk27 ((nc + 1)) ((ns + 6)) v1 v2 v3 v4 x_2117 v2 x_2128 ((0 : Int32)) _ _ _ _ (show (nc + 1) ≤ 645934 ∧ (ns + 6) ≤ 7158302 by omega) hW hS (tl_sub hl [1, 2, 3, 4, 0, 5] rfl) hw
  · have hw := hw.2 hc
    refine lv_iconst (v := (1 : Int32)) C.1.1 C.1.2.1 dL_law_2138 (by decide) ?_
    refine lv_goto (tgt := 2143) C.1.1 C.1.2.1 dL_law_2139 (by decide) ?_
    exact s_L_law_2143 C hr hX hbl hbA hA2 hcN hll k27 hk27 ((nc + 1)) ((ns + 6)) v1 v2 v3 v4 x_2117 v2 x_2128 ((1 : Int32)) _ _ _ _ (show (nc + 1) ≤ 645934 ∧ (ns + 6) ≤ 7158302 by omega) hW hS (tl_sub hl [1, 2, 3, 4, 0, 5] rfl) hw
set_option maxHeartbeats 4000000 in
set_option maxRecDepth 100000 in
theorem s_L_law_2234 {K : tK} (C : tc_B p l s m #[Value.ref b] meth c D K A wz_L_law RL cL_law 7) (hr : meth.sig.returnType = (some .boolean)) (hX : va_X b xL xs s s.heap) (hbl : b < s.heap.size) (hbA : ¬ A b) (hA2 : ∀ q : Nat, A q → s.heap.size ≤ q) (hcN : va_Nw tw_nest s) (hll : l.stackTraces = false)  (k27 : Nat → Nat → Option Nat → Option Nat → Option Nat → Int32 → tG → Prop) (hk27 : ∀ (nc ns : Nat) (v1 : Option Nat) (v2 : Option Nat) (v3 : Option Nat) (v4 : Int32) (G : tG) (H : Heap) (locs : List Loc) (ls : Array Slot), nc ≤ 645934 ∧ ns ≤ 7158302 → tg_W D A s H G → va_S A s.heap H locs → tl ls 7 [(1, .inr (.inr v1)), (2, .inr (.inr v2)), (3, .inr (.inr v3)), (4, .inl v4), (0, .inr (.inr (some b)))] → k27 nc ns v1 v2 v3 v4 G → W p l e room_1 s m #[Value.ref b] below meth c H locs nc ns (lw_Z below #[Value.ref b] s) (F0 m 27 ls [])) : ∀ (nc ns : Nat) (v1 : Option Nat) (v2 : Option Nat) (v3 : Option Nat) (v4 : Int32) (G : tG) (H : Heap) (locs : List Loc) (ls : Array Slot), nc ≤ 645934 ∧ ns ≤ 7158302 → tg_W D A s H G → va_S A s.heap H locs → tl ls 7 [(1, .inr (.inr v1)), (2, .inr (.inr v2)), (3, .inr (.inr v3)), (4, .inl v4), (0, .inr (.inr (some b)))] → w_L_law_2234 K xL xs k27 nc ns v1 v2 v3 v4 G → W p l e room_1 s m #[Value.ref b] below meth c H locs nc ns (lw_Z below #[Value.ref b] s) (F0 m 2234 ls []) := by
  intro nc ns v1 v2 v3 v4 G H locs ls hcn hW hS hl hw
  unfold w_L_law_2234 at hw
  refine lv_goto (tgt := 3312) C.1.1 C.1.2.1 dL_law_2234 (by decide) ?_
  exact s_L_law_3312 C hr hX hbl hbA hA2 hcN hll k27 hk27 nc ns v1 v2 v3 v4 _ _ _ _ (show nc ≤ 645934 ∧ ns ≤ 7158302 by omega) hW hS (tl_sub hl [0, 1, 2, 3, 4] rfl) hw
set_option maxHeartbeats 4000000 in
set_option maxRecDepth 100000 in
theorem s_L_law_2303 {K : tK} (C : tc_B p l s m #[Value.ref b] meth c D K A wz_L_law RL cL_law 7) (hr : meth.sig.returnType = (some .boolean)) (hX : va_X b xL xs s s.heap) (hbl : b < s.heap.size) (hbA : ¬ A b) (hA2 : ∀ q : Nat, A q → s.heap.size ≤ q) (hcN : va_Nw tw_nest s) (hll : l.stackTraces = false)  (k27 : Nat → Nat → Option Nat → Option Nat → Option Nat → Int32 → tG → Prop) (hk27 : ∀ (nc ns : Nat) (v1 : Option Nat) (v2 : Option Nat) (v3 : Option Nat) (v4 : Int32) (G : tG) (H : Heap) (locs : List Loc) (ls : Array Slot), nc ≤ 645934 ∧ ns ≤ 7158302 → tg_W D A s H G → va_S A s.heap H locs → tl ls 7 [(1, .inr (.inr v1)), (2, .inr (.inr v2)), (3, .inr (.inr v3)), (4, .inl v4), (0, .inr (.inr (some b)))] → k27 nc ns v1 v2 v3 v4 G → W p l e room_1 s m #[Value.ref b] below meth c H locs nc ns (lw_Z below #[Value.ref b] s) (F0 m 27 ls [])) : ∀ (nc ns : Nat) (v1 : Option Nat) (v2 : Option Nat) (v3 : Option Nat) (v4 : Int32) (G : tG) (H : Heap) (locs : List Loc) (ls : Array Slot), nc ≤ 645934 ∧ ns ≤ 7158302 → tg_W D A s H G → va_S A s.heap H locs → tl ls 7 [(1, .inr (.inr v1)), (2, .inr (.inr v2)), (3, .inr (.inr v3)), (4, .inl v4), (0, .inr (.inr (some b)))] → w_L_law_2303 K xL xs k27 nc ns v1 v2 v3 v4 G → W p l e room_1 s m #[Value.ref b] below meth c H locs nc ns (lw_Z below #[Value.ref b] s) (F0 m 2303 ls []) := by
  intro nc ns v1 v2 v3 v4 G H locs ls hcn hW hS hl hw
  unfold w_L_law_2303 at hw
  refine lv_goto (tgt := 3312) C.1.1 C.1.2.1 dL_law_2303 (by decide) ?_
  exact s_L_law_3312 C hr hX hbl hbA hA2 hcN hll k27 hk27 nc ns v1 v2 v3 v4 _ _ _ _ (show nc ≤ 645934 ∧ ns ≤ 7158302 by omega) hW hS (tl_sub hl [0, 1, 2, 3, 4] rfl) hw
set_option maxHeartbeats 4000000 in
set_option maxRecDepth 100000 in
theorem s_L_law_2384 {K : tK} (C : tc_B p l s m #[Value.ref b] meth c D K A wz_L_law RL cL_law 7) (hr : meth.sig.returnType = (some .boolean)) (hX : va_X b xL xs s s.heap) (hbl : b < s.heap.size) (hbA : ¬ A b) (hA2 : ∀ q : Nat, A q → s.heap.size ≤ q) (hcN : va_Nw tw_nest s) (hll : l.stackTraces = false)  (k27 : Nat → Nat → Option Nat → Option Nat → Option Nat → Int32 → tG → Prop) (hk27 : ∀ (nc ns : Nat) (v1 : Option Nat) (v2 : Option Nat) (v3 : Option Nat) (v4 : Int32) (G : tG) (H : Heap) (locs : List Loc) (ls : Array Slot), nc ≤ 645934 ∧ ns ≤ 7158302 → tg_W D A s H G → va_S A s.heap H locs → tl ls 7 [(1, .inr (.inr v1)), (2, .inr (.inr v2)), (3, .inr (.inr v3)), (4, .inl v4), (0, .inr (.inr (some b)))] → k27 nc ns v1 v2 v3 v4 G → W p l e room_1 s m #[Value.ref b] below meth c H locs nc ns (lw_Z below #[Value.ref b] s) (F0 m 27 ls [])) : ∀ (nc ns : Nat) (v1 : Option Nat) (v2 : Option Nat) (v3 : Option Nat) (v4 : Int32) (G : tG) (H : Heap) (locs : List Loc) (ls : Array Slot), nc ≤ 645934 ∧ ns ≤ 7158302 → tg_W D A s H G → va_S A s.heap H locs → tl ls 7 [(1, .inr (.inr v1)), (2, .inr (.inr v2)), (3, .inr (.inr v3)), (4, .inl v4), (0, .inr (.inr (some b)))] → w_L_law_2384 K xL xs k27 nc ns v1 v2 v3 v4 G → W p l e room_1 s m #[Value.ref b] below meth c H locs nc ns (lw_Z below #[Value.ref b] s) (F0 m 2384 ls []) := by
  intro nc ns v1 v2 v3 v4 G H locs ls hcn hW hS hl hw
  unfold w_L_law_2384 at hw
  refine lv_goto (tgt := 3312) C.1.1 C.1.2.1 dL_law_2384 (by decide) ?_
  exact s_L_law_3312 C hr hX hbl hbA hA2 hcN hll k27 hk27 nc ns v1 v2 v3 v4 _ _ _ _ (show nc ≤ 645934 ∧ ns ≤ 7158302 by omega) hW hS (tl_sub hl [0, 1, 2, 3, 4] rfl) hw
set_option maxHeartbeats 4000000 in
set_option maxRecDepth 100000 in
theorem s_L_law_2453 {K : tK} (C : tc_B p l s m #[Value.ref b] meth c D K A wz_L_law RL cL_law 7) (hr : meth.sig.returnType = (some .boolean)) (hX : va_X b xL xs s s.heap) (hbl : b < s.heap.size) (hbA : ¬ A b) (hA2 : ∀ q : Nat, A q → s.heap.size ≤ q) (hcN : va_Nw tw_nest s) (hll : l.stackTraces = false)  (k27 : Nat → Nat → Option Nat → Option Nat → Option Nat → Int32 → tG → Prop) (hk27 : ∀ (nc ns : Nat) (v1 : Option Nat) (v2 : Option Nat) (v3 : Option Nat) (v4 : Int32) (G : tG) (H : Heap) (locs : List Loc) (ls : Array Slot), nc ≤ 645934 ∧ ns ≤ 7158302 → tg_W D A s H G → va_S A s.heap H locs → tl ls 7 [(1, .inr (.inr v1)), (2, .inr (.inr v2)), (3, .inr (.inr v3)), (4, .inl v4), (0, .inr (.inr (some b)))] → k27 nc ns v1 v2 v3 v4 G → W p l e room_1 s m #[Value.ref b] below meth c H locs nc ns (lw_Z below #[Value.ref b] s) (F0 m 27 ls [])) : ∀ (nc ns : Nat) (v1 : Option Nat) (v2 : Option Nat) (v3 : Option Nat) (v4 : Int32) (G : tG) (H : Heap) (locs : List Loc) (ls : Array Slot), nc ≤ 645934 ∧ ns ≤ 7158302 → tg_W D A s H G → va_S A s.heap H locs → tl ls 7 [(1, .inr (.inr v1)), (2, .inr (.inr v2)), (3, .inr (.inr v3)), (4, .inl v4), (0, .inr (.inr (some b)))] → w_L_law_2453 K xL xs k27 nc ns v1 v2 v3 v4 G → W p l e room_1 s m #[Value.ref b] below meth c H locs nc ns (lw_Z below #[Value.ref b] s) (F0 m 2453 ls []) := by
  intro nc ns v1 v2 v3 v4 G H locs ls hcn hW hS hl hw
  unfold w_L_law_2453 at hw
  refine lv_goto (tgt := 3312) C.1.1 C.1.2.1 dL_law_2453 (by decide) ?_
  exact s_L_law_3312 C hr hX hbl hbA hA2 hcN hll k27 hk27 nc ns v1 v2 v3 v4 _ _ _ _ (show nc ≤ 645934 ∧ ns ≤ 7158302 by omega) hW hS (tl_sub hl [0, 1, 2, 3, 4] rfl) hw
set_option maxHeartbeats 4000000 in
set_option maxRecDepth 100000 in
theorem s_L_law_2534 {K : tK} (C : tc_B p l s m #[Value.ref b] meth c D K A wz_L_law RL cL_law 7) (hr : meth.sig.returnType = (some .boolean)) (hX : va_X b xL xs s s.heap) (hbl : b < s.heap.size) (hbA : ¬ A b) (hA2 : ∀ q : Nat, A q → s.heap.size ≤ q) (hcN : va_Nw tw_nest s) (hll : l.stackTraces = false)  (k27 : Nat → Nat → Option Nat → Option Nat → Option Nat → Int32 → tG → Prop) (hk27 : ∀ (nc ns : Nat) (v1 : Option Nat) (v2 : Option Nat) (v3 : Option Nat) (v4 : Int32) (G : tG) (H : Heap) (locs : List Loc) (ls : Array Slot), nc ≤ 645934 ∧ ns ≤ 7158302 → tg_W D A s H G → va_S A s.heap H locs → tl ls 7 [(1, .inr (.inr v1)), (2, .inr (.inr v2)), (3, .inr (.inr v3)), (4, .inl v4), (0, .inr (.inr (some b)))] → k27 nc ns v1 v2 v3 v4 G → W p l e room_1 s m #[Value.ref b] below meth c H locs nc ns (lw_Z below #[Value.ref b] s) (F0 m 27 ls [])) : ∀ (nc ns : Nat) (v1 : Option Nat) (v2 : Option Nat) (v3 : Option Nat) (v4 : Int32) (G : tG) (H : Heap) (locs : List Loc) (ls : Array Slot), nc ≤ 645934 ∧ ns ≤ 7158302 → tg_W D A s H G → va_S A s.heap H locs → tl ls 7 [(1, .inr (.inr v1)), (2, .inr (.inr v2)), (3, .inr (.inr v3)), (4, .inl v4), (0, .inr (.inr (some b)))] → w_L_law_2534 K xL xs k27 nc ns v1 v2 v3 v4 G → W p l e room_1 s m #[Value.ref b] below meth c H locs nc ns (lw_Z below #[Value.ref b] s) (F0 m 2534 ls []) := by
  intro nc ns v1 v2 v3 v4 G H locs ls hcn hW hS hl hw
  unfold w_L_law_2534 at hw
  refine lv_goto (tgt := 3312) C.1.1 C.1.2.1 dL_law_2534 (by decide) ?_
  exact s_L_law_3312 C hr hX hbl hbA hA2 hcN hll k27 hk27 nc ns v1 v2 v3 v4 _ _ _ _ (show nc ≤ 645934 ∧ ns ≤ 7158302 by omega) hW hS (tl_sub hl [0, 1, 2, 3, 4] rfl) hw
set_option maxHeartbeats 4000000 in
set_option maxRecDepth 100000 in
theorem s_L_law_2603 {K : tK} (C : tc_B p l s m #[Value.ref b] meth c D K A wz_L_law RL cL_law 7) (hr : meth.sig.returnType = (some .boolean)) (hX : va_X b xL xs s s.heap) (hbl : b < s.heap.size) (hbA : ¬ A b) (hA2 : ∀ q : Nat, A q → s.heap.size ≤ q) (hcN : va_Nw tw_nest s) (hll : l.stackTraces = false)  (k27 : Nat → Nat → Option Nat → Option Nat → Option Nat → Int32 → tG → Prop) (hk27 : ∀ (nc ns : Nat) (v1 : Option Nat) (v2 : Option Nat) (v3 : Option Nat) (v4 : Int32) (G : tG) (H : Heap) (locs : List Loc) (ls : Array Slot), nc ≤ 645934 ∧ ns ≤ 7158302 → tg_W D A s H G → va_S A s.heap H locs → tl ls 7 [(1, .inr (.inr v1)), (2, .inr (.inr v2)), (3, .inr (.inr v3)), (4, .inl v4), (0, .inr (.inr (some b)))] → k27 nc ns v1 v2 v3 v4 G → W p l e room_1 s m #[Value.ref b] below meth c H locs nc ns (lw_Z below #[Value.ref b] s) (F0 m 27 ls [])) : ∀ (nc ns : Nat) (v1 : Option Nat) (v2 : Option Nat) (v3 : Option Nat) (v4 : Int32) (G : tG) (H : Heap) (locs : List Loc) (ls : Array Slot), nc ≤ 645934 ∧ ns ≤ 7158302 → tg_W D A s H G → va_S A s.heap H locs → tl ls 7 [(1, .inr (.inr v1)), (2, .inr (.inr v2)), (3, .inr (.inr v3)), (4, .inl v4), (0, .inr (.inr (some b)))] → w_L_law_2603 K xL xs k27 nc ns v1 v2 v3 v4 G → W p l e room_1 s m #[Value.ref b] below meth c H locs nc ns (lw_Z below #[Value.ref b] s) (F0 m 2603 ls []) := by
  intro nc ns v1 v2 v3 v4 G H locs ls hcn hW hS hl hw
  unfold w_L_law_2603 at hw
  refine lv_goto (tgt := 3312) C.1.1 C.1.2.1 dL_law_2603 (by decide) ?_
  exact s_L_law_3312 C hr hX hbl hbA hA2 hcN hll k27 hk27 nc ns v1 v2 v3 v4 _ _ _ _ (show nc ≤ 645934 ∧ ns ≤ 7158302 by omega) hW hS (tl_sub hl [0, 1, 2, 3, 4] rfl) hw
set_option maxHeartbeats 4000000 in
set_option maxRecDepth 100000 in
theorem s_L_law_2672 {K : tK} (C : tc_B p l s m #[Value.ref b] meth c D K A wz_L_law RL cL_law 7) (hr : meth.sig.returnType = (some .boolean)) (hX : va_X b xL xs s s.heap) (hbl : b < s.heap.size) (hbA : ¬ A b) (hA2 : ∀ q : Nat, A q → s.heap.size ≤ q) (hcN : va_Nw tw_nest s) (hll : l.stackTraces = false)  (k27 : Nat → Nat → Option Nat → Option Nat → Option Nat → Int32 → tG → Prop) (hk27 : ∀ (nc ns : Nat) (v1 : Option Nat) (v2 : Option Nat) (v3 : Option Nat) (v4 : Int32) (G : tG) (H : Heap) (locs : List Loc) (ls : Array Slot), nc ≤ 645934 ∧ ns ≤ 7158302 → tg_W D A s H G → va_S A s.heap H locs → tl ls 7 [(1, .inr (.inr v1)), (2, .inr (.inr v2)), (3, .inr (.inr v3)), (4, .inl v4), (0, .inr (.inr (some b)))] → k27 nc ns v1 v2 v3 v4 G → W p l e room_1 s m #[Value.ref b] below meth c H locs nc ns (lw_Z below #[Value.ref b] s) (F0 m 27 ls [])) : ∀ (nc ns : Nat) (v1 : Option Nat) (v2 : Option Nat) (v3 : Option Nat) (v4 : Int32) (G : tG) (H : Heap) (locs : List Loc) (ls : Array Slot), nc ≤ 645934 ∧ ns ≤ 7158302 → tg_W D A s H G → va_S A s.heap H locs → tl ls 7 [(1, .inr (.inr v1)), (2, .inr (.inr v2)), (3, .inr (.inr v3)), (4, .inl v4), (0, .inr (.inr (some b)))] → w_L_law_2672 K xL xs k27 nc ns v1 v2 v3 v4 G → W p l e room_1 s m #[Value.ref b] below meth c H locs nc ns (lw_Z below #[Value.ref b] s) (F0 m 2672 ls []) := by
  intro nc ns v1 v2 v3 v4 G H locs ls hcn hW hS hl hw
  unfold w_L_law_2672 at hw
  refine lv_goto (tgt := 3312) C.1.1 C.1.2.1 dL_law_2672 (by decide) ?_
  exact s_L_law_3312 C hr hX hbl hbA hA2 hcN hll k27 hk27 nc ns v1 v2 v3 v4 _ _ _ _ (show nc ≤ 645934 ∧ ns ≤ 7158302 by omega) hW hS (tl_sub hl [0, 1, 2, 3, 4] rfl) hw
set_option maxHeartbeats 4000000 in
set_option maxRecDepth 100000 in
theorem s_L_law_2741 {K : tK} (C : tc_B p l s m #[Value.ref b] meth c D K A wz_L_law RL cL_law 7) (hr : meth.sig.returnType = (some .boolean)) (hX : va_X b xL xs s s.heap) (hbl : b < s.heap.size) (hbA : ¬ A b) (hA2 : ∀ q : Nat, A q → s.heap.size ≤ q) (hcN : va_Nw tw_nest s) (hll : l.stackTraces = false)  (k27 : Nat → Nat → Option Nat → Option Nat → Option Nat → Int32 → tG → Prop) (hk27 : ∀ (nc ns : Nat) (v1 : Option Nat) (v2 : Option Nat) (v3 : Option Nat) (v4 : Int32) (G : tG) (H : Heap) (locs : List Loc) (ls : Array Slot), nc ≤ 645934 ∧ ns ≤ 7158302 → tg_W D A s H G → va_S A s.heap H locs → tl ls 7 [(1, .inr (.inr v1)), (2, .inr (.inr v2)), (3, .inr (.inr v3)), (4, .inl v4), (0, .inr (.inr (some b)))] → k27 nc ns v1 v2 v3 v4 G → W p l e room_1 s m #[Value.ref b] below meth c H locs nc ns (lw_Z below #[Value.ref b] s) (F0 m 27 ls [])) : ∀ (nc ns : Nat) (v1 : Option Nat) (v2 : Option Nat) (v3 : Option Nat) (v4 : Int32) (G : tG) (H : Heap) (locs : List Loc) (ls : Array Slot), nc ≤ 645934 ∧ ns ≤ 7158302 → tg_W D A s H G → va_S A s.heap H locs → tl ls 7 [(1, .inr (.inr v1)), (2, .inr (.inr v2)), (3, .inr (.inr v3)), (4, .inl v4), (0, .inr (.inr (some b)))] → w_L_law_2741 K xL xs k27 nc ns v1 v2 v3 v4 G → W p l e room_1 s m #[Value.ref b] below meth c H locs nc ns (lw_Z below #[Value.ref b] s) (F0 m 2741 ls []) := by
  intro nc ns v1 v2 v3 v4 G H locs ls hcn hW hS hl hw
  unfold w_L_law_2741 at hw
  refine lv_goto (tgt := 3312) C.1.1 C.1.2.1 dL_law_2741 (by decide) ?_
  exact s_L_law_3312 C hr hX hbl hbA hA2 hcN hll k27 hk27 nc ns v1 v2 v3 v4 _ _ _ _ (show nc ≤ 645934 ∧ ns ≤ 7158302 by omega) hW hS (tl_sub hl [0, 1, 2, 3, 4] rfl) hw
set_option maxHeartbeats 4000000 in
set_option maxRecDepth 100000 in
theorem s_L_law_2810 {K : tK} (C : tc_B p l s m #[Value.ref b] meth c D K A wz_L_law RL cL_law 7) (hr : meth.sig.returnType = (some .boolean)) (hX : va_X b xL xs s s.heap) (hbl : b < s.heap.size) (hbA : ¬ A b) (hA2 : ∀ q : Nat, A q → s.heap.size ≤ q) (hcN : va_Nw tw_nest s) (hll : l.stackTraces = false)  (k27 : Nat → Nat → Option Nat → Option Nat → Option Nat → Int32 → tG → Prop) (hk27 : ∀ (nc ns : Nat) (v1 : Option Nat) (v2 : Option Nat) (v3 : Option Nat) (v4 : Int32) (G : tG) (H : Heap) (locs : List Loc) (ls : Array Slot), nc ≤ 645934 ∧ ns ≤ 7158302 → tg_W D A s H G → va_S A s.heap H locs → tl ls 7 [(1, .inr (.inr v1)), (2, .inr (.inr v2)), (3, .inr (.inr v3)), (4, .inl v4), (0, .inr (.inr (some b)))] → k27 nc ns v1 v2 v3 v4 G → W p l e room_1 s m #[Value.ref b] below meth c H locs nc ns (lw_Z below #[Value.ref b] s) (F0 m 27 ls [])) : ∀ (nc ns : Nat) (v1 : Option Nat) (v2 : Option Nat) (v3 : Option Nat) (v4 : Int32) (G : tG) (H : Heap) (locs : List Loc) (ls : Array Slot), nc ≤ 645934 ∧ ns ≤ 7158302 → tg_W D A s H G → va_S A s.heap H locs → tl ls 7 [(1, .inr (.inr v1)), (2, .inr (.inr v2)), (3, .inr (.inr v3)), (4, .inl v4), (0, .inr (.inr (some b)))] → w_L_law_2810 K xL xs k27 nc ns v1 v2 v3 v4 G → W p l e room_1 s m #[Value.ref b] below meth c H locs nc ns (lw_Z below #[Value.ref b] s) (F0 m 2810 ls []) := by
  intro nc ns v1 v2 v3 v4 G H locs ls hcn hW hS hl hw
  unfold w_L_law_2810 at hw
  refine lv_goto (tgt := 3312) C.1.1 C.1.2.1 dL_law_2810 (by decide) ?_
  exact s_L_law_3312 C hr hX hbl hbA hA2 hcN hll k27 hk27 nc ns v1 v2 v3 v4 _ _ _ _ (show nc ≤ 645934 ∧ ns ≤ 7158302 by omega) hW hS (tl_sub hl [0, 1, 2, 3, 4] rfl) hw
set_option maxHeartbeats 4000000 in
set_option maxRecDepth 100000 in
theorem s_L_law_2879 {K : tK} (C : tc_B p l s m #[Value.ref b] meth c D K A wz_L_law RL cL_law 7) (hr : meth.sig.returnType = (some .boolean)) (hX : va_X b xL xs s s.heap) (hbl : b < s.heap.size) (hbA : ¬ A b) (hA2 : ∀ q : Nat, A q → s.heap.size ≤ q) (hcN : va_Nw tw_nest s) (hll : l.stackTraces = false)  (k27 : Nat → Nat → Option Nat → Option Nat → Option Nat → Int32 → tG → Prop) (hk27 : ∀ (nc ns : Nat) (v1 : Option Nat) (v2 : Option Nat) (v3 : Option Nat) (v4 : Int32) (G : tG) (H : Heap) (locs : List Loc) (ls : Array Slot), nc ≤ 645934 ∧ ns ≤ 7158302 → tg_W D A s H G → va_S A s.heap H locs → tl ls 7 [(1, .inr (.inr v1)), (2, .inr (.inr v2)), (3, .inr (.inr v3)), (4, .inl v4), (0, .inr (.inr (some b)))] → k27 nc ns v1 v2 v3 v4 G → W p l e room_1 s m #[Value.ref b] below meth c H locs nc ns (lw_Z below #[Value.ref b] s) (F0 m 27 ls [])) : ∀ (nc ns : Nat) (v1 : Option Nat) (v2 : Option Nat) (v3 : Option Nat) (v4 : Int32) (G : tG) (H : Heap) (locs : List Loc) (ls : Array Slot), nc ≤ 645934 ∧ ns ≤ 7158302 → tg_W D A s H G → va_S A s.heap H locs → tl ls 7 [(1, .inr (.inr v1)), (2, .inr (.inr v2)), (3, .inr (.inr v3)), (4, .inl v4), (0, .inr (.inr (some b)))] → w_L_law_2879 K xL xs k27 nc ns v1 v2 v3 v4 G → W p l e room_1 s m #[Value.ref b] below meth c H locs nc ns (lw_Z below #[Value.ref b] s) (F0 m 2879 ls []) := by
  intro nc ns v1 v2 v3 v4 G H locs ls hcn hW hS hl hw
  unfold w_L_law_2879 at hw
  refine lv_goto (tgt := 3312) C.1.1 C.1.2.1 dL_law_2879 (by decide) ?_
  exact s_L_law_3312 C hr hX hbl hbA hA2 hcN hll k27 hk27 nc ns v1 v2 v3 v4 _ _ _ _ (show nc ≤ 645934 ∧ ns ≤ 7158302 by omega) hW hS (tl_sub hl [0, 1, 2, 3, 4] rfl) hw
set_option maxHeartbeats 4000000 in
set_option maxRecDepth 100000 in
theorem s_L_law_2960 {K : tK} (C : tc_B p l s m #[Value.ref b] meth c D K A wz_L_law RL cL_law 7) (hr : meth.sig.returnType = (some .boolean)) (hX : va_X b xL xs s s.heap) (hbl : b < s.heap.size) (hbA : ¬ A b) (hA2 : ∀ q : Nat, A q → s.heap.size ≤ q) (hcN : va_Nw tw_nest s) (hll : l.stackTraces = false)  (k27 : Nat → Nat → Option Nat → Option Nat → Option Nat → Int32 → tG → Prop) (hk27 : ∀ (nc ns : Nat) (v1 : Option Nat) (v2 : Option Nat) (v3 : Option Nat) (v4 : Int32) (G : tG) (H : Heap) (locs : List Loc) (ls : Array Slot), nc ≤ 645934 ∧ ns ≤ 7158302 → tg_W D A s H G → va_S A s.heap H locs → tl ls 7 [(1, .inr (.inr v1)), (2, .inr (.inr v2)), (3, .inr (.inr v3)), (4, .inl v4), (0, .inr (.inr (some b)))] → k27 nc ns v1 v2 v3 v4 G → W p l e room_1 s m #[Value.ref b] below meth c H locs nc ns (lw_Z below #[Value.ref b] s) (F0 m 27 ls [])) : ∀ (nc ns : Nat) (v1 : Option Nat) (v2 : Option Nat) (v3 : Option Nat) (v4 : Int32) (G : tG) (H : Heap) (locs : List Loc) (ls : Array Slot), nc ≤ 645934 ∧ ns ≤ 7158302 → tg_W D A s H G → va_S A s.heap H locs → tl ls 7 [(1, .inr (.inr v1)), (2, .inr (.inr v2)), (3, .inr (.inr v3)), (4, .inl v4), (0, .inr (.inr (some b)))] → w_L_law_2960 K xL xs k27 nc ns v1 v2 v3 v4 G → W p l e room_1 s m #[Value.ref b] below meth c H locs nc ns (lw_Z below #[Value.ref b] s) (F0 m 2960 ls []) := by
  intro nc ns v1 v2 v3 v4 G H locs ls hcn hW hS hl hw
  unfold w_L_law_2960 at hw
  refine lv_goto (tgt := 3312) C.1.1 C.1.2.1 dL_law_2960 (by decide) ?_
  exact s_L_law_3312 C hr hX hbl hbA hA2 hcN hll k27 hk27 nc ns v1 v2 v3 v4 _ _ _ _ (show nc ≤ 645934 ∧ ns ≤ 7158302 by omega) hW hS (tl_sub hl [0, 1, 2, 3, 4] rfl) hw
set_option maxHeartbeats 4000000 in
set_option maxRecDepth 100000 in
theorem s_L_law_3017 {K : tK} (C : tc_B p l s m #[Value.ref b] meth c D K A wz_L_law RL cL_law 7) (hr : meth.sig.returnType = (some .boolean)) (hX : va_X b xL xs s s.heap) (hbl : b < s.heap.size) (hbA : ¬ A b) (hA2 : ∀ q : Nat, A q → s.heap.size ≤ q) (hcN : va_Nw tw_nest s) (hll : l.stackTraces = false)  (k27 : Nat → Nat → Option Nat → Option Nat → Option Nat → Int32 → tG → Prop) (hk27 : ∀ (nc ns : Nat) (v1 : Option Nat) (v2 : Option Nat) (v3 : Option Nat) (v4 : Int32) (G : tG) (H : Heap) (locs : List Loc) (ls : Array Slot), nc ≤ 645934 ∧ ns ≤ 7158302 → tg_W D A s H G → va_S A s.heap H locs → tl ls 7 [(1, .inr (.inr v1)), (2, .inr (.inr v2)), (3, .inr (.inr v3)), (4, .inl v4), (0, .inr (.inr (some b)))] → k27 nc ns v1 v2 v3 v4 G → W p l e room_1 s m #[Value.ref b] below meth c H locs nc ns (lw_Z below #[Value.ref b] s) (F0 m 27 ls [])) : ∀ (nc ns : Nat) (v1 : Option Nat) (v2 : Option Nat) (v3 : Option Nat) (v4 : Int32) (G : tG) (H : Heap) (locs : List Loc) (ls : Array Slot), nc ≤ 645934 ∧ ns ≤ 7158302 → tg_W D A s H G → va_S A s.heap H locs → tl ls 7 [(1, .inr (.inr v1)), (2, .inr (.inr v2)), (3, .inr (.inr v3)), (4, .inl v4), (0, .inr (.inr (some b)))] → w_L_law_3017 K xL xs k27 nc ns v1 v2 v3 v4 G → W p l e room_1 s m #[Value.ref b] below meth c H locs nc ns (lw_Z below #[Value.ref b] s) (F0 m 3017 ls []) := by
  intro nc ns v1 v2 v3 v4 G H locs ls hcn hW hS hl hw
  unfold w_L_law_3017 at hw
  refine lv_goto (tgt := 3312) C.1.1 C.1.2.1 dL_law_3017 (by decide) ?_
  exact s_L_law_3312 C hr hX hbl hbA hA2 hcN hll k27 hk27 nc ns v1 v2 v3 v4 _ _ _ _ (show nc ≤ 645934 ∧ ns ≤ 7158302 by omega) hW hS (tl_sub hl [0, 1, 2, 3, 4] rfl) hw
set_option maxHeartbeats 4000000 in
set_option maxRecDepth 100000 in
theorem s_L_law_3098 {K : tK} (C : tc_B p l s m #[Value.ref b] meth c D K A wz_L_law RL cL_law 7) (hr : meth.sig.returnType = (some .boolean)) (hX : va_X b xL xs s s.heap) (hbl : b < s.heap.size) (hbA : ¬ A b) (hA2 : ∀ q : Nat, A q → s.heap.size ≤ q) (hcN : va_Nw tw_nest s) (hll : l.stackTraces = false)  (k27 : Nat → Nat → Option Nat → Option Nat → Option Nat → Int32 → tG → Prop) (hk27 : ∀ (nc ns : Nat) (v1 : Option Nat) (v2 : Option Nat) (v3 : Option Nat) (v4 : Int32) (G : tG) (H : Heap) (locs : List Loc) (ls : Array Slot), nc ≤ 645934 ∧ ns ≤ 7158302 → tg_W D A s H G → va_S A s.heap H locs → tl ls 7 [(1, .inr (.inr v1)), (2, .inr (.inr v2)), (3, .inr (.inr v3)), (4, .inl v4), (0, .inr (.inr (some b)))] → k27 nc ns v1 v2 v3 v4 G → W p l e room_1 s m #[Value.ref b] below meth c H locs nc ns (lw_Z below #[Value.ref b] s) (F0 m 27 ls [])) : ∀ (nc ns : Nat) (v1 : Option Nat) (v2 : Option Nat) (v3 : Option Nat) (v4 : Int32) (G : tG) (H : Heap) (locs : List Loc) (ls : Array Slot), nc ≤ 645934 ∧ ns ≤ 7158302 → tg_W D A s H G → va_S A s.heap H locs → tl ls 7 [(1, .inr (.inr v1)), (2, .inr (.inr v2)), (3, .inr (.inr v3)), (4, .inl v4), (0, .inr (.inr (some b)))] → w_L_law_3098 K xL xs k27 nc ns v1 v2 v3 v4 G → W p l e room_1 s m #[Value.ref b] below meth c H locs nc ns (lw_Z below #[Value.ref b] s) (F0 m 3098 ls []) := by
  intro nc ns v1 v2 v3 v4 G H locs ls hcn hW hS hl hw
  unfold w_L_law_3098 at hw
  refine lv_goto (tgt := 3312) C.1.1 C.1.2.1 dL_law_3098 (by decide) ?_
  exact s_L_law_3312 C hr hX hbl hbA hA2 hcN hll k27 hk27 nc ns v1 v2 v3 v4 _ _ _ _ (show nc ≤ 645934 ∧ ns ≤ 7158302 by omega) hW hS (tl_sub hl [0, 1, 2, 3, 4] rfl) hw
set_option maxHeartbeats 4000000 in
set_option maxRecDepth 100000 in
theorem s_L_law_3168 {K : tK} (C : tc_B p l s m #[Value.ref b] meth c D K A wz_L_law RL cL_law 7) (hr : meth.sig.returnType = (some .boolean)) (hX : va_X b xL xs s s.heap) (hbl : b < s.heap.size) (hbA : ¬ A b) (hA2 : ∀ q : Nat, A q → s.heap.size ≤ q) (hcN : va_Nw tw_nest s) (hll : l.stackTraces = false)  (k27 : Nat → Nat → Option Nat → Option Nat → Option Nat → Int32 → tG → Prop) (hk27 : ∀ (nc ns : Nat) (v1 : Option Nat) (v2 : Option Nat) (v3 : Option Nat) (v4 : Int32) (G : tG) (H : Heap) (locs : List Loc) (ls : Array Slot), nc ≤ 645934 ∧ ns ≤ 7158302 → tg_W D A s H G → va_S A s.heap H locs → tl ls 7 [(1, .inr (.inr v1)), (2, .inr (.inr v2)), (3, .inr (.inr v3)), (4, .inl v4), (0, .inr (.inr (some b)))] → k27 nc ns v1 v2 v3 v4 G → W p l e room_1 s m #[Value.ref b] below meth c H locs nc ns (lw_Z below #[Value.ref b] s) (F0 m 27 ls [])) : ∀ (nc ns : Nat) (v1 : Option Nat) (v2 : Option Nat) (v3 : Option Nat) (v4 : Int32) (G : tG) (H : Heap) (locs : List Loc) (ls : Array Slot), nc ≤ 645934 ∧ ns ≤ 7158302 → tg_W D A s H G → va_S A s.heap H locs → tl ls 7 [(1, .inr (.inr v1)), (2, .inr (.inr v2)), (3, .inr (.inr v3)), (4, .inl v4), (0, .inr (.inr (some b)))] → w_L_law_3168 K xL xs k27 nc ns v1 v2 v3 v4 G → W p l e room_1 s m #[Value.ref b] below meth c H locs nc ns (lw_Z below #[Value.ref b] s) (F0 m 3168 ls []) := by
  intro nc ns v1 v2 v3 v4 G H locs ls hcn hW hS hl hw
  unfold w_L_law_3168 at hw
  refine lv_goto (tgt := 3312) C.1.1 C.1.2.1 dL_law_3168 (by decide) ?_
  exact s_L_law_3312 C hr hX hbl hbA hA2 hcN hll k27 hk27 nc ns v1 v2 v3 v4 _ _ _ _ (show nc ≤ 645934 ∧ ns ≤ 7158302 by omega) hW hS (tl_sub hl [0, 1, 2, 3, 4] rfl) hw
set_option maxHeartbeats 4000000 in
set_option maxRecDepth 100000 in
theorem s_L_law_3225 {K : tK} (C : tc_B p l s m #[Value.ref b] meth c D K A wz_L_law RL cL_law 7) (hr : meth.sig.returnType = (some .boolean)) (hX : va_X b xL xs s s.heap) (hbl : b < s.heap.size) (hbA : ¬ A b) (hA2 : ∀ q : Nat, A q → s.heap.size ≤ q) (hcN : va_Nw tw_nest s) (hll : l.stackTraces = false)  (k27 : Nat → Nat → Option Nat → Option Nat → Option Nat → Int32 → tG → Prop) (hk27 : ∀ (nc ns : Nat) (v1 : Option Nat) (v2 : Option Nat) (v3 : Option Nat) (v4 : Int32) (G : tG) (H : Heap) (locs : List Loc) (ls : Array Slot), nc ≤ 645934 ∧ ns ≤ 7158302 → tg_W D A s H G → va_S A s.heap H locs → tl ls 7 [(1, .inr (.inr v1)), (2, .inr (.inr v2)), (3, .inr (.inr v3)), (4, .inl v4), (0, .inr (.inr (some b)))] → k27 nc ns v1 v2 v3 v4 G → W p l e room_1 s m #[Value.ref b] below meth c H locs nc ns (lw_Z below #[Value.ref b] s) (F0 m 27 ls [])) : ∀ (nc ns : Nat) (v1 : Option Nat) (v2 : Option Nat) (v3 : Option Nat) (v4 : Int32) (G : tG) (H : Heap) (locs : List Loc) (ls : Array Slot), nc ≤ 645934 ∧ ns ≤ 7158302 → tg_W D A s H G → va_S A s.heap H locs → tl ls 7 [(1, .inr (.inr v1)), (2, .inr (.inr v2)), (3, .inr (.inr v3)), (4, .inl v4), (0, .inr (.inr (some b)))] → w_L_law_3225 K xL xs k27 nc ns v1 v2 v3 v4 G → W p l e room_1 s m #[Value.ref b] below meth c H locs nc ns (lw_Z below #[Value.ref b] s) (F0 m 3225 ls []) := by
  intro nc ns v1 v2 v3 v4 G H locs ls hcn hW hS hl hw
  unfold w_L_law_3225 at hw
  refine lv_goto (tgt := 3312) C.1.1 C.1.2.1 dL_law_3225 (by decide) ?_
  exact s_L_law_3312 C hr hX hbl hbA hA2 hcN hll k27 hk27 nc ns v1 v2 v3 v4 _ _ _ _ (show nc ≤ 645934 ∧ ns ≤ 7158302 by omega) hW hS (tl_sub hl [0, 1, 2, 3, 4] rfl) hw
set_option maxHeartbeats 4000000 in
set_option maxRecDepth 100000 in
theorem s_L_law_3282 {K : tK} (C : tc_B p l s m #[Value.ref b] meth c D K A wz_L_law RL cL_law 7) (hr : meth.sig.returnType = (some .boolean)) (hX : va_X b xL xs s s.heap) (hbl : b < s.heap.size) (hbA : ¬ A b) (hA2 : ∀ q : Nat, A q → s.heap.size ≤ q) (hcN : va_Nw tw_nest s) (hll : l.stackTraces = false)  (k27 : Nat → Nat → Option Nat → Option Nat → Option Nat → Int32 → tG → Prop) (hk27 : ∀ (nc ns : Nat) (v1 : Option Nat) (v2 : Option Nat) (v3 : Option Nat) (v4 : Int32) (G : tG) (H : Heap) (locs : List Loc) (ls : Array Slot), nc ≤ 645934 ∧ ns ≤ 7158302 → tg_W D A s H G → va_S A s.heap H locs → tl ls 7 [(1, .inr (.inr v1)), (2, .inr (.inr v2)), (3, .inr (.inr v3)), (4, .inl v4), (0, .inr (.inr (some b)))] → k27 nc ns v1 v2 v3 v4 G → W p l e room_1 s m #[Value.ref b] below meth c H locs nc ns (lw_Z below #[Value.ref b] s) (F0 m 27 ls [])) : ∀ (nc ns : Nat) (v1 : Option Nat) (v2 : Option Nat) (v3 : Option Nat) (v4 : Int32) (G : tG) (H : Heap) (locs : List Loc) (ls : Array Slot), nc ≤ 645934 ∧ ns ≤ 7158302 → tg_W D A s H G → va_S A s.heap H locs → tl ls 7 [(1, .inr (.inr v1)), (2, .inr (.inr v2)), (3, .inr (.inr v3)), (4, .inl v4), (0, .inr (.inr (some b)))] → w_L_law_3282 K xL xs k27 nc ns v1 v2 v3 v4 G → W p l e room_1 s m #[Value.ref b] below meth c H locs nc ns (lw_Z below #[Value.ref b] s) (F0 m 3282 ls []) := by
  intro nc ns v1 v2 v3 v4 G H locs ls hcn hW hS hl hw
  unfold w_L_law_3282 at hw
  refine lv_goto (tgt := 3312) C.1.1 C.1.2.1 dL_law_3282 (by decide) ?_
  exact s_L_law_3312 C hr hX hbl hbA hA2 hcN hll k27 hk27 nc ns v1 v2 v3 v4 _ _ _ _ (show nc ≤ 645934 ∧ ns ≤ 7158302 by omega) hW hS (tl_sub hl [0, 1, 2, 3, 4] rfl) hw
set_option maxHeartbeats 4000000 in
set_option maxRecDepth 100000 in
theorem s_L_law_27_b {K : tK} (C : tc_B p l s m #[Value.ref b] meth c D K A wz_L_law RL cL_law 7) (hr : meth.sig.returnType = (some .boolean)) (hX : va_X b xL xs s s.heap) (hbl : b < s.heap.size) (hbA : ¬ A b) (hA2 : ∀ q : Nat, A q → s.heap.size ≤ q) (hcN : va_Nw tw_nest s) (hll : l.stackTraces = false)  (k27 : Nat → Nat → Option Nat → Option Nat → Option Nat → Int32 → tG → Prop) (hk27 : ∀ (nc ns : Nat) (v1 : Option Nat) (v2 : Option Nat) (v3 : Option Nat) (v4 : Int32) (G : tG) (H : Heap) (locs : List Loc) (ls : Array Slot), nc ≤ 645934 ∧ ns ≤ 7158302 → tg_W D A s H G → va_S A s.heap H locs → tl ls 7 [(1, .inr (.inr v1)), (2, .inr (.inr v2)), (3, .inr (.inr v3)), (4, .inl v4), (0, .inr (.inr (some b)))] → k27 nc ns v1 v2 v3 v4 G → W p l e room_1 s m #[Value.ref b] below meth c H locs nc ns (lw_Z below #[Value.ref b] s) (F0 m 27 ls [])) : ∀ (nc ns : Nat) (v1 : Option Nat) (v2 : Option Nat) (v3 : Option Nat) (v4 : Int32) (G : tG) (H : Heap) (locs : List Loc) (ls : Array Slot), nc ≤ 645934 ∧ ns ≤ 7158302 → tg_W D A s H G → va_S A s.heap H locs → tl ls 7 [(1, .inr (.inr v1)), (2, .inr (.inr v2)), (3, .inr (.inr v3)), (4, .inl v4), (0, .inr (.inr (some b)))] → w_L_law_27_b K xL xs k27 nc ns v1 v2 v3 v4 G → W p l e room_1 s m #[Value.ref b] below meth c H locs nc ns (lw_Z below #[Value.ref b] s) (F0 m 27 ls []) := by
  intro nc ns v1 v2 v3 v4 G H locs ls hcn hW hS hl hw
  unfold w_L_law_27_b at hw
  refine tr_iload (x := v4) C hl 3 rfl dL_law_27 ?_
  refine tr_aload_n (k := 0) (x := (some b)) C hl 4 rfl dL_law_29 ?_
  refine tr_slen C hX hbl hbA hS dL_law_30 ?_
  refine lv_bipush (v := (6 : Int32)) C.1.1 C.1.2.1 dL_law_31 (by decide) ?_
  refine lv_isub C.1.1 C.1.2.1 dL_law_33 ?_
  refine lv_icmp_gt (tgt := 3318) C.1.1 C.1.2.1 dL_law_34 (by decide) (fun hc => ?_) (fun hc => ?_)
  · have hw := hw.1 hc
    refine lv_iconst (v := (1 : Int32)) C.1.1 C.1.2.1 dL_law_3318 (by decide) ?_
    exact tr_law C hr hA2 dL_law_3319 (show nc ≤ 645934 by omega) (show ns ≤ 7158302 by omega) hS hw
  · have hw := hw.2 hc
    refine tr_aload_n (k := 0) (x := (some b)) C hl 4 rfl dL_law_37 ?_
    refine tr_iload (x := v4) C hl 3 rfl dL_law_38 ?_
    refine tr_sld C hX hbl hbA hS dL_law_40 hw (fun x_40 hw => ?_)
    refine lv_bipush (v := (63 : Int32)) C.1.1 C.1.2.1 dL_law_41 (by decide) ?_
    refine lv_iand C.1.1 C.1.2.1 dL_law_43 ?_
    by_cases hc0 : (x_40 &&& (63 : Int32)) = (0 : Int32)
    · have hw := hw.1 hc0
      refine lv_tableIn (off := 196) (tgt := 240) C.1.1 C.1.2.1 dL_law_44 (by rw [hc0]; decide) (by rw [hc0]; decide) (by rw [hc0]; rfl) (by decide) ?_
      refine tr_aload_n (k := 1) (x := v1) C hl 0 rfl dL_law_240 ?_
      refine tr_aload_n (k := 0) (x := (some b)) C hl 4 rfl dL_law_241 ?_
      refine tr_iload (x := v4) C hl 3 rfl dL_law_242 ?_
      refine lv_iconst (v := (1 : Int32)) C.1.1 C.1.2.1 dL_law_244 (by decide) ?_
      refine lv_iadd C.1.1 C.1.2.1 dL_law_245 ?_
      refine tr_sld C hX hbl hbA hS dL_law_246 hw (fun x_246 hw => ?_)
      refine tr_aload_n (k := 0) (x := (some b)) C hl 4 rfl dL_law_247 ?_
      refine tr_iload (x := v4) C hl 3 rfl dL_law_248 ?_
      refine lv_iconst (v := (2 : Int32)) C.1.1 C.1.2.1 dL_law_250 (by decide) ?_
      refine lv_iadd C.1.1 C.1.2.1 dL_law_251 ?_
      refine tr_sld C hX hbl hbA hS dL_law_252 hw (fun x_252 hw => ?_)
      refine tr_aload_n (k := 3) (x := v3) C hl 2 rfl dL_law_253 ?_
      have hq4 := hw.1
      have hw := hw.2
      refine tx_backNI (tx_runSX (As := [va_rf v1, .int x_246, .int x_252, va_rf v3]) C hl.1 (c_L_lay l hll K _ v1 x_246 x_252 v3) (vx_cwSW 4 C.1.2.2.2.2 (gi_SX (zm kw_708) (zm kw_709) (zm kw_692) (zm kw_707)) rfl rfl rfl (by decide +kernel) ⟨(Nat.le_of_ble_eq_true rfl), (Nat.le_of_ble_eq_true rfl)⟩) rfl dL_law_254 ⟨hq4.1, hq4.2⟩ [] rfl (Nat.le_of_ble_eq_true rfl) rfl hW hS hw) hS (fun x_254 G_254 H locs hw hW hS => ?_)
      refine tr_istore (x := x_254) C hl [(5, .inl x_254), (1, .inr (.inr v1)), (2, .inr (.inr v2)), (3, .inr (.inr v3)), (4, .inl v4), (0, .inr (.inr (some b)))] (by decide) rfl dL_law_257 (fun ls hl => ?_)
      refine tr_aload_n (k := 2) (x := v2) C hl 2 rfl dL_law_259 ?_
      refine tr_aload_n (k := 0) (x := (some b)) C hl 5 rfl dL_law_260 ?_
      refine tr_iload (x := v4) C hl 4 rfl dL_law_261 ?_
      refine lv_iconst (v := (1 : Int32)) C.1.1 C.1.2.1 dL_law_263 (by decide) ?_
      refine lv_iadd C.1.1 C.1.2.1 dL_law_264 ?_
      refine tr_sld C hX hbl hbA hS dL_law_265 hw (fun x_265 hw => ?_)
      refine tr_aload_n (k := 0) (x := (some b)) C hl 5 rfl dL_law_266 ?_
      refine tr_iload (x := v4) C hl 4 rfl dL_law_267 ?_
      refine lv_iconst (v := (2 : Int32)) C.1.1 C.1.2.1 dL_law_269 (by decide) ?_
      refine lv_iadd C.1.1 C.1.2.1 dL_law_270 ?_
      refine tr_sld C hX hbl hbA hS dL_law_271 hw (fun x_271 hw => ?_)
      have hq5 := hw.1
      have hw := hw.2
      refine tr_backI (tr_runV (r := v2) (As := [.int x_265, .int x_271]) C hl.1 (c_X3_lay l hll K _ v2 x_265 x_271) (cwV 2 C.1.2.2.2.2 (gi_V (zm kw_711) (zm kw_712) (zm kw_713) (zm kw_155) (zm kw_710)) rfl rfl rfl (by decide +kernel) ⟨(Nat.le_of_ble_eq_true rfl), (Nat.le_of_ble_eq_true rfl)⟩) rfl rfl dL_law_272 ⟨hq5.1, hq5.2⟩ [] rfl (Nat.le_of_ble_eq_true rfl) rfl hW hS hw) hS (fun x_272 G_272 H locs hw hW hS => ?_)
      refine tr_istore (x := x_272) C hl [(6, .inl x_272), (5, .inl x_254), (1, .inr (.inr v1)), (2, .inr (.inr v2)), (3, .inr (.inr v3)), (4, .inl v4), (0, .inr (.inr (some b)))] (by decide) rfl dL_law_275 (fun ls hl => ?_)
      refine tr_aload_n (k := 2) (x := v2) C hl 3 rfl dL_law_277 ?_
      refine tr_backI (tr_runV (r := v2) (As := []) C hl.1 (c_X3_thrown l hll K _ v2) (cwV 0 C.1.2.2.2.2 (gi_V (zm kw_682) (zm kw_683) (zm kw_684) (zm kw_155) (zm kw_681)) rfl rfl rfl (by decide +kernel) ⟨(Nat.le_of_ble_eq_true rfl), (Nat.le_of_ble_eq_true rfl)⟩) rfl rfl dL_law_278 ⟨(show ((nc + 3) + 1) + 0 ≤ 645934 by omega), (show ((ns + 16) + 12) + 0 ≤ 7158302 by omega)⟩ [] rfl (Nat.le_of_ble_eq_true rfl) rfl hW hS hw) hS (fun x_278 G_278 H locs hw hW hS => ?_)
      refine tr_iload (x := x_254) C hl 1 rfl dL_law_281 ?_
      refine lv_icmp_eq (tgt := 288) C.1.1 C.1.2.1 dL_law_283 (by decide) (fun hc => ?_) (fun hc => ?_)
      · have hw := hw.1 hc
        refine tr_iload (x := x_254) C hl 1 rfl dL_law_288 ?_
        refine lv_if_ne (tgt := 306) C.1.1 C.1.2.1 dL_law_290 (by decide) (fun hc => ?_) (fun hc => ?_)
        · have hw := hw.1 hc
          exact s_L_law_306 C hr hX hbl hbA hA2 hcN hll k27 hk27 (((nc + 3) + 1)) (((ns + 16) + 12)) v1 v2 v3 v4 _ _ _ _ (show ((nc + 3) + 1) ≤ 645934 ∧ ((ns + 16) + 12) ≤ 7158302 by omega) hW hS (tl_sub hl [2, 3, 4, 5, 6] rfl) hw
        · have hw := hw.2 hc
          refine tr_aload_n (k := 3) (x := v3) C hl 4 rfl dL_law_293 ?_
          refine tr_gfLN (C0 := RX2) (T := TX2) (N := 2) (ci := 4) (ref := "TwinrowLaw$Out") (host := "TwinrowLaw") (k := 0) (r := v3) C (zh hw_X2) rfl (by decide) (tc_kx C).1 rfl dL_law_294 hW hw (fun x_294 hw => ?_)
          refine tr_iload (x := x_272) C hl 0 rfl dL_law_297 ?_
          refine lv_i2l (v := ((x_272).toInt64)) C.1.1 C.1.2.1 dL_law_299 rfl ?_
          refine W.lcmp C.1.1 C.1.2.1 dL_law_300 ?_
          refine lv_if_eq (tgt := 306) C.1.1 C.1.2.1 dL_law_301 (by decide) (fun hc => ?_) (fun hc => ?_)
          · have hw := hw.1 hc
            exact s_L_law_306 C hr hX hbl hbA hA2 hcN hll k27 hk27 (((nc + 3) + 1)) (((ns + 16) + 12)) v1 v2 v3 v4 _ _ _ _ (show ((nc + 3) + 1) ≤ 645934 ∧ ((ns + 16) + 12) ≤ 7158302 by omega) hW hS (tl_sub hl [2, 3, 4, 5, 6] rfl) hw
          · have hw := hw.2 hc
            refine lv_iconst (v := (0 : Int32)) C.1.1 C.1.2.1 dL_law_304 (by decide) ?_
            exact tr_law C hr hA2 dL_law_305 (show ((nc + 3) + 1) ≤ 645934 by omega) (show ((ns + 16) + 12) ≤ 7158302 by omega) hS hw
      · have hw := hw.2 hc
        refine lv_iconst (v := (0 : Int32)) C.1.1 C.1.2.1 dL_law_286 (by decide) ?_
        exact tr_law C hr hA2 dL_law_287 (show ((nc + 3) + 1) ≤ 645934 by omega) (show ((ns + 16) + 12) ≤ 7158302 by omega) hS hw
    have hw := hw.2
    by_cases hc1 : (x_40 &&& (63 : Int32)) = (1 : Int32)
    · have hw := hw.1 hc1
      refine lv_tableIn (off := 265) (tgt := 309) C.1.1 C.1.2.1 dL_law_44 (by rw [hc1]; decide) (by rw [hc1]; decide) (by rw [hc1]; rfl) (by decide) ?_
      refine tr_aload_n (k := 1) (x := v1) C hl 0 rfl dL_law_309 ?_
      refine tr_aload_n (k := 0) (x := (some b)) C hl 4 rfl dL_law_310 ?_
      refine tr_iload (x := v4) C hl 3 rfl dL_law_311 ?_
      refine lv_iconst (v := (1 : Int32)) C.1.1 C.1.2.1 dL_law_313 (by decide) ?_
      refine lv_iadd C.1.1 C.1.2.1 dL_law_314 ?_
      refine tr_sld C hX hbl hbA hS dL_law_315 hw (fun x_315 hw => ?_)
      refine tr_aload_n (k := 0) (x := (some b)) C hl 4 rfl dL_law_316 ?_
      refine tr_iload (x := v4) C hl 3 rfl dL_law_317 ?_
      refine lv_iconst (v := (2 : Int32)) C.1.1 C.1.2.1 dL_law_319 (by decide) ?_
      refine lv_iadd C.1.1 C.1.2.1 dL_law_320 ?_
      refine tr_sld C hX hbl hbA hS dL_law_321 hw (fun x_321 hw => ?_)
      refine tr_aload_n (k := 0) (x := (some b)) C hl 4 rfl dL_law_322 ?_
      refine tr_iload (x := v4) C hl 3 rfl dL_law_323 ?_
      refine lv_iconst (v := (3 : Int32)) C.1.1 C.1.2.1 dL_law_325 (by decide) ?_
      refine lv_iadd C.1.1 C.1.2.1 dL_law_326 ?_
      refine tr_sld C hX hbl hbA hS dL_law_327 hw (fun x_327 hw => ?_)
      refine tr_aload_n (k := 3) (x := v3) C hl 2 rfl dL_law_328 ?_
      have hq6 := hw.1
      have hw := hw.2
      refine tx_backNI (tx_runSX (As := [va_rf v1, .int x_315, .int x_321, .int x_327, va_rf v3]) C hl.1 (c_L_put l hll K _ v1 x_315 x_321 x_327 v3) (vx_cwSW 5 C.1.2.2.2.2 (gi_SX (zm kw_715) (zm kw_716) (zm kw_692) (zm kw_714)) rfl rfl rfl (by decide +kernel) ⟨(Nat.le_of_ble_eq_true rfl), (Nat.le_of_ble_eq_true rfl)⟩) rfl dL_law_329 ⟨hq6.1, hq6.2⟩ [] rfl (Nat.le_of_ble_eq_true rfl) rfl hW hS hw) hS (fun x_329 G_329 H locs hw hW hS => ?_)
      refine tr_istore (x := x_329) C hl [(5, .inl x_329), (1, .inr (.inr v1)), (2, .inr (.inr v2)), (3, .inr (.inr v3)), (4, .inl v4), (0, .inr (.inr (some b)))] (by decide) rfl dL_law_332 (fun ls hl => ?_)
      refine tr_aload_n (k := 2) (x := v2) C hl 2 rfl dL_law_334 ?_
      refine tr_aload_n (k := 0) (x := (some b)) C hl 5 rfl dL_law_335 ?_
      refine tr_iload (x := v4) C hl 4 rfl dL_law_336 ?_
      refine lv_iconst (v := (1 : Int32)) C.1.1 C.1.2.1 dL_law_338 (by decide) ?_
      refine lv_iadd C.1.1 C.1.2.1 dL_law_339 ?_
      refine tr_sld C hX hbl hbA hS dL_law_340 hw (fun x_340 hw => ?_)
      refine tr_aload_n (k := 0) (x := (some b)) C hl 5 rfl dL_law_341 ?_
      refine tr_iload (x := v4) C hl 4 rfl dL_law_342 ?_
      refine lv_iconst (v := (2 : Int32)) C.1.1 C.1.2.1 dL_law_344 (by decide) ?_
      refine lv_iadd C.1.1 C.1.2.1 dL_law_345 ?_
      refine tr_sld C hX hbl hbA hS dL_law_346 hw (fun x_346 hw => ?_)
      refine tr_aload_n (k := 0) (x := (some b)) C hl 5 rfl dL_law_347 ?_
      refine tr_iload (x := v4) C hl 4 rfl dL_law_348 ?_
      refine lv_iconst (v := (3 : Int32)) C.1.1 C.1.2.1 dL_law_350 (by decide) ?_
      refine lv_iadd C.1.1 C.1.2.1 dL_law_351 ?_
      refine tr_sld C hX hbl hbA hS dL_law_352 hw (fun x_352 hw => ?_)
      refine tr_backI (tr_runV (r := v2) (As := [.int x_340, .int x_346, .int x_352]) C hl.1 (c_X3_put l hll K _ v2 x_340 x_346 x_352) (cwV 3 C.1.2.2.2.2 (gi_V (zm kw_718) (zm kw_719) (zm kw_720) (zm kw_155) (zm kw_717)) rfl rfl rfl (by decide +kernel) ⟨(Nat.le_of_ble_eq_true rfl), (Nat.le_of_ble_eq_true rfl)⟩) rfl rfl dL_law_353 ⟨(show (nc + 3) + 0 ≤ 645934 by omega), (show (ns + 18) + 0 ≤ 7158302 by omega)⟩ [] rfl (Nat.le_of_ble_eq_true rfl) rfl hW hS hw) hS (fun x_353 G_353 H locs hw hW hS => ?_)
      refine tr_istore (x := x_353) C hl [(6, .inl x_353), (5, .inl x_329), (1, .inr (.inr v1)), (2, .inr (.inr v2)), (3, .inr (.inr v3)), (4, .inl v4), (0, .inr (.inr (some b)))] (by decide) rfl dL_law_356 (fun ls hl => ?_)
      refine tr_aload_n (k := 2) (x := v2) C hl 3 rfl dL_law_358 ?_
      refine tr_backI (tr_runV (r := v2) (As := []) C hl.1 (c_X3_thrown l hll K _ v2) (cwV 0 C.1.2.2.2.2 (gi_V (zm kw_682) (zm kw_683) (zm kw_684) (zm kw_155) (zm kw_681)) rfl rfl rfl (by decide +kernel) ⟨(Nat.le_of_ble_eq_true rfl), (Nat.le_of_ble_eq_true rfl)⟩) rfl rfl dL_law_359 ⟨(show (nc + 3) + 0 ≤ 645934 by omega), (show (ns + 18) + 0 ≤ 7158302 by omega)⟩ [] rfl (Nat.le_of_ble_eq_true rfl) rfl hW hS hw) hS (fun x_359 G_359 H locs hw hW hS => ?_)
      refine tr_iload (x := x_329) C hl 1 rfl dL_law_362 ?_
      refine lv_icmp_eq (tgt := 369) C.1.1 C.1.2.1 dL_law_364 (by decide) (fun hc => ?_) (fun hc => ?_)
      · have hw := hw.1 hc
        refine tr_iload (x := x_329) C hl 1 rfl dL_law_369 ?_
        refine lv_if_ne (tgt := 387) C.1.1 C.1.2.1 dL_law_371 (by decide) (fun hc => ?_) (fun hc => ?_)
        · have hw := hw.1 hc
          exact s_L_law_387 C hr hX hbl hbA hA2 hcN hll k27 hk27 ((nc + 3)) ((ns + 18)) v1 v2 v3 v4 _ _ _ _ (show (nc + 3) ≤ 645934 ∧ (ns + 18) ≤ 7158302 by omega) hW hS (tl_sub hl [2, 3, 4, 5, 6] rfl) hw
        · have hw := hw.2 hc
          refine tr_aload_n (k := 3) (x := v3) C hl 4 rfl dL_law_374 ?_
          refine tr_gfLN (C0 := RX2) (T := TX2) (N := 2) (ci := 4) (ref := "TwinrowLaw$Out") (host := "TwinrowLaw") (k := 0) (r := v3) C (zh hw_X2) rfl (by decide) (tc_kx C).1 rfl dL_law_375 hW hw (fun x_375 hw => ?_)
          refine tr_iload (x := x_353) C hl 0 rfl dL_law_378 ?_
          refine lv_i2l (v := ((x_353).toInt64)) C.1.1 C.1.2.1 dL_law_380 rfl ?_
          refine W.lcmp C.1.1 C.1.2.1 dL_law_381 ?_
          refine lv_if_eq (tgt := 387) C.1.1 C.1.2.1 dL_law_382 (by decide) (fun hc => ?_) (fun hc => ?_)
          · have hw := hw.1 hc
            exact s_L_law_387 C hr hX hbl hbA hA2 hcN hll k27 hk27 ((nc + 3)) ((ns + 18)) v1 v2 v3 v4 _ _ _ _ (show (nc + 3) ≤ 645934 ∧ (ns + 18) ≤ 7158302 by omega) hW hS (tl_sub hl [2, 3, 4, 5, 6] rfl) hw
          · have hw := hw.2 hc
            refine lv_iconst (v := (0 : Int32)) C.1.1 C.1.2.1 dL_law_385 (by decide) ?_
            exact tr_law C hr hA2 dL_law_386 (show (nc + 3) ≤ 645934 by omega) (show (ns + 18) ≤ 7158302 by omega) hS hw
      · have hw := hw.2 hc
        refine lv_iconst (v := (0 : Int32)) C.1.1 C.1.2.1 dL_law_367 (by decide) ?_
        exact tr_law C hr hA2 dL_law_368 (show (nc + 3) ≤ 645934 by omega) (show (ns + 18) ≤ 7158302 by omega) hS hw
    have hw := hw.2
    by_cases hc2 : (x_40 &&& (63 : Int32)) = (2 : Int32)
    · have hw := hw.1 hc2
      refine lv_tableIn (off := 346) (tgt := 390) C.1.1 C.1.2.1 dL_law_44 (by rw [hc2]; decide) (by rw [hc2]; decide) (by rw [hc2]; rfl) (by decide) ?_
      refine tr_aload_n (k := 1) (x := v1) C hl 0 rfl dL_law_390 ?_
      refine tr_aload_n (k := 0) (x := (some b)) C hl 4 rfl dL_law_391 ?_
      refine tr_iload (x := v4) C hl 3 rfl dL_law_392 ?_
      refine lv_iconst (v := (1 : Int32)) C.1.1 C.1.2.1 dL_law_394 (by decide) ?_
      refine lv_iadd C.1.1 C.1.2.1 dL_law_395 ?_
      refine tr_sld C hX hbl hbA hS dL_law_396 hw (fun x_396 hw => ?_)
      refine tr_aload_n (k := 0) (x := (some b)) C hl 4 rfl dL_law_397 ?_
      refine tr_iload (x := v4) C hl 3 rfl dL_law_398 ?_
      refine lv_iconst (v := (2 : Int32)) C.1.1 C.1.2.1 dL_law_400 (by decide) ?_
      refine lv_iadd C.1.1 C.1.2.1 dL_law_401 ?_
      refine tr_sld C hX hbl hbA hS dL_law_402 hw (fun x_402 hw => ?_)
      refine tr_aload_n (k := 3) (x := v3) C hl 2 rfl dL_law_403 ?_
      have hq7 := hw.1
      have hw := hw.2
      refine tx_backNI (tx_runSX (As := [va_rf v1, .int x_396, .int x_402, va_rf v3]) C hl.1 (c_L_at l hll K _ v1 x_396 x_402 v3) (vx_cwSW 4 C.1.2.2.2.2 (gi_SX (zm kw_722) (zm kw_723) (zm kw_692) (zm kw_721)) rfl rfl rfl (by decide +kernel) ⟨(Nat.le_of_ble_eq_true rfl), (Nat.le_of_ble_eq_true rfl)⟩) rfl dL_law_404 ⟨hq7.1, hq7.2⟩ [] rfl (Nat.le_of_ble_eq_true rfl) rfl hW hS hw) hS (fun x_404 G_404 H locs hw hW hS => ?_)
      refine tr_istore (x := x_404) C hl [(5, .inl x_404), (1, .inr (.inr v1)), (2, .inr (.inr v2)), (3, .inr (.inr v3)), (4, .inl v4), (0, .inr (.inr (some b)))] (by decide) rfl dL_law_407 (fun ls hl => ?_)
      refine tr_aload_n (k := 2) (x := v2) C hl 2 rfl dL_law_409 ?_
      refine tr_aload_n (k := 0) (x := (some b)) C hl 5 rfl dL_law_410 ?_
      refine tr_iload (x := v4) C hl 4 rfl dL_law_411 ?_
      refine lv_iconst (v := (1 : Int32)) C.1.1 C.1.2.1 dL_law_413 (by decide) ?_
      refine lv_iadd C.1.1 C.1.2.1 dL_law_414 ?_
      refine tr_sld C hX hbl hbA hS dL_law_415 hw (fun x_415 hw => ?_)
      refine tr_aload_n (k := 0) (x := (some b)) C hl 5 rfl dL_law_416 ?_
      refine tr_iload (x := v4) C hl 4 rfl dL_law_417 ?_
      refine lv_iconst (v := (2 : Int32)) C.1.1 C.1.2.1 dL_law_419 (by decide) ?_
      refine lv_iadd C.1.1 C.1.2.1 dL_law_420 ?_
      refine tr_sld C hX hbl hbA hS dL_law_421 hw (fun x_421 hw => ?_)
      refine tr_backI (tr_runV (r := v2) (As := [.int x_415, .int x_421]) C hl.1 (c_X3_at l hll K _ v2 x_415 x_421) (cwV 2 C.1.2.2.2.2 (gi_V (zm kw_725) (zm kw_726) (zm kw_727) (zm kw_155) (zm kw_724)) rfl rfl rfl (by decide +kernel) ⟨(Nat.le_of_ble_eq_true rfl), (Nat.le_of_ble_eq_true rfl)⟩) rfl rfl dL_law_422 ⟨(show (nc + 2) + 0 ≤ 645934 by omega), (show (ns + 12) + 0 ≤ 7158302 by omega)⟩ [] rfl (Nat.le_of_ble_eq_true rfl) rfl hW hS hw) hS (fun x_422 G_422 H locs hw hW hS => ?_)
      refine tr_istore (x := x_422) C hl [(6, .inl x_422), (5, .inl x_404), (1, .inr (.inr v1)), (2, .inr (.inr v2)), (3, .inr (.inr v3)), (4, .inl v4), (0, .inr (.inr (some b)))] (by decide) rfl dL_law_425 (fun ls hl => ?_)
      refine tr_aload_n (k := 2) (x := v2) C hl 3 rfl dL_law_427 ?_
      refine tr_backI (tr_runV (r := v2) (As := []) C hl.1 (c_X3_thrown l hll K _ v2) (cwV 0 C.1.2.2.2.2 (gi_V (zm kw_682) (zm kw_683) (zm kw_684) (zm kw_155) (zm kw_681)) rfl rfl rfl (by decide +kernel) ⟨(Nat.le_of_ble_eq_true rfl), (Nat.le_of_ble_eq_true rfl)⟩) rfl rfl dL_law_428 ⟨(show (nc + 2) + 0 ≤ 645934 by omega), (show (ns + 12) + 0 ≤ 7158302 by omega)⟩ [] rfl (Nat.le_of_ble_eq_true rfl) rfl hW hS hw) hS (fun x_428 G_428 H locs hw hW hS => ?_)
      refine tr_iload (x := x_404) C hl 1 rfl dL_law_431 ?_
      refine lv_icmp_eq (tgt := 438) C.1.1 C.1.2.1 dL_law_433 (by decide) (fun hc => ?_) (fun hc => ?_)
      · have hw := hw.1 hc
        refine tr_iload (x := x_404) C hl 1 rfl dL_law_438 ?_
        refine lv_if_ne (tgt := 456) C.1.1 C.1.2.1 dL_law_440 (by decide) (fun hc => ?_) (fun hc => ?_)
        · have hw := hw.1 hc
          exact s_L_law_456 C hr hX hbl hbA hA2 hcN hll k27 hk27 ((nc + 2)) ((ns + 12)) v1 v2 v3 v4 _ _ _ _ (show (nc + 2) ≤ 645934 ∧ (ns + 12) ≤ 7158302 by omega) hW hS (tl_sub hl [2, 3, 4, 5, 6] rfl) hw
        · have hw := hw.2 hc
          refine tr_aload_n (k := 3) (x := v3) C hl 4 rfl dL_law_443 ?_
          refine tr_gfLN (C0 := RX2) (T := TX2) (N := 2) (ci := 4) (ref := "TwinrowLaw$Out") (host := "TwinrowLaw") (k := 0) (r := v3) C (zh hw_X2) rfl (by decide) (tc_kx C).1 rfl dL_law_444 hW hw (fun x_444 hw => ?_)
          refine tr_iload (x := x_422) C hl 0 rfl dL_law_447 ?_
          refine lv_i2l (v := ((x_422).toInt64)) C.1.1 C.1.2.1 dL_law_449 rfl ?_
          refine W.lcmp C.1.1 C.1.2.1 dL_law_450 ?_
          refine lv_if_eq (tgt := 456) C.1.1 C.1.2.1 dL_law_451 (by decide) (fun hc => ?_) (fun hc => ?_)
          · have hw := hw.1 hc
            exact s_L_law_456 C hr hX hbl hbA hA2 hcN hll k27 hk27 ((nc + 2)) ((ns + 12)) v1 v2 v3 v4 _ _ _ _ (show (nc + 2) ≤ 645934 ∧ (ns + 12) ≤ 7158302 by omega) hW hS (tl_sub hl [2, 3, 4, 5, 6] rfl) hw
          · have hw := hw.2 hc
            refine lv_iconst (v := (0 : Int32)) C.1.1 C.1.2.1 dL_law_454 (by decide) ?_
            exact tr_law C hr hA2 dL_law_455 (show (nc + 2) ≤ 645934 by omega) (show (ns + 12) ≤ 7158302 by omega) hS hw
      · have hw := hw.2 hc
        refine lv_iconst (v := (0 : Int32)) C.1.1 C.1.2.1 dL_law_436 (by decide) ?_
        exact tr_law C hr hA2 dL_law_437 (show (nc + 2) ≤ 645934 by omega) (show (ns + 12) ≤ 7158302 by omega) hS hw
    have hw := hw.2
    by_cases hc3 : (x_40 &&& (63 : Int32)) = (3 : Int32)
    · have hw := hw.1 hc3
      refine lv_tableIn (off := 415) (tgt := 459) C.1.1 C.1.2.1 dL_law_44 (by rw [hc3]; decide) (by rw [hc3]; decide) (by rw [hc3]; rfl) (by decide) ?_
      refine tr_aload_n (k := 1) (x := v1) C hl 0 rfl dL_law_459 ?_
      refine tr_aload_n (k := 0) (x := (some b)) C hl 4 rfl dL_law_460 ?_
      refine tr_iload (x := v4) C hl 3 rfl dL_law_461 ?_
      refine lv_iconst (v := (1 : Int32)) C.1.1 C.1.2.1 dL_law_463 (by decide) ?_
      refine lv_iadd C.1.1 C.1.2.1 dL_law_464 ?_
      refine tr_sld C hX hbl hbA hS dL_law_465 hw (fun x_465 hw => ?_)
      refine tr_aload_n (k := 0) (x := (some b)) C hl 4 rfl dL_law_466 ?_
      refine tr_iload (x := v4) C hl 3 rfl dL_law_467 ?_
      refine lv_iconst (v := (2 : Int32)) C.1.1 C.1.2.1 dL_law_469 (by decide) ?_
      refine lv_iadd C.1.1 C.1.2.1 dL_law_470 ?_
      refine tr_sld C hX hbl hbA hS dL_law_471 hw (fun x_471 hw => ?_)
      refine tr_aload_n (k := 0) (x := (some b)) C hl 4 rfl dL_law_472 ?_
      refine tr_iload (x := v4) C hl 3 rfl dL_law_473 ?_
      refine lv_iconst (v := (3 : Int32)) C.1.1 C.1.2.1 dL_law_475 (by decide) ?_
      refine lv_iadd C.1.1 C.1.2.1 dL_law_476 ?_
      refine tr_sld C hX hbl hbA hS dL_law_477 hw (fun x_477 hw => ?_)
      refine tr_aload_n (k := 0) (x := (some b)) C hl 4 rfl dL_law_478 ?_
      refine tr_iload (x := v4) C hl 3 rfl dL_law_479 ?_
      refine lv_iconst (v := (4 : Int32)) C.1.1 C.1.2.1 dL_law_481 (by decide) ?_
      refine lv_iadd C.1.1 C.1.2.1 dL_law_482 ?_
      refine tr_sld C hX hbl hbA hS dL_law_483 hw (fun x_483 hw => ?_)
      refine tr_aload_n (k := 3) (x := v3) C hl 2 rfl dL_law_484 ?_
      have hq8 := hw.1
      have hw := hw.2
      refine tx_backNI (tx_runSX (As := [va_rf v1, .int x_465, .int x_471, .int x_477, .int x_483, va_rf v3]) C hl.1 (c_L_part l hll K _ v1 x_465 x_471 x_477 x_483 v3) (vx_cwSW 6 C.1.2.2.2.2 (gi_SX (zm kw_729) (zm kw_730) (zm kw_692) (zm kw_728)) rfl rfl rfl (by decide +kernel) ⟨(Nat.le_of_ble_eq_true rfl), (Nat.le_of_ble_eq_true rfl)⟩) rfl dL_law_485 ⟨hq8.1, hq8.2⟩ [] rfl (Nat.le_of_ble_eq_true rfl) rfl hW hS hw) hS (fun x_485 G_485 H locs hw hW hS => ?_)
      refine tr_istore (x := x_485) C hl [(5, .inl x_485), (1, .inr (.inr v1)), (2, .inr (.inr v2)), (3, .inr (.inr v3)), (4, .inl v4), (0, .inr (.inr (some b)))] (by decide) rfl dL_law_488 (fun ls hl => ?_)
      refine tr_aload_n (k := 2) (x := v2) C hl 2 rfl dL_law_490 ?_
      refine tr_aload_n (k := 0) (x := (some b)) C hl 5 rfl dL_law_491 ?_
      refine tr_iload (x := v4) C hl 4 rfl dL_law_492 ?_
      refine lv_iconst (v := (1 : Int32)) C.1.1 C.1.2.1 dL_law_494 (by decide) ?_
      refine lv_iadd C.1.1 C.1.2.1 dL_law_495 ?_
      refine tr_sld C hX hbl hbA hS dL_law_496 hw (fun x_496 hw => ?_)
      refine tr_aload_n (k := 0) (x := (some b)) C hl 5 rfl dL_law_497 ?_
      refine tr_iload (x := v4) C hl 4 rfl dL_law_498 ?_
      refine lv_iconst (v := (2 : Int32)) C.1.1 C.1.2.1 dL_law_500 (by decide) ?_
      refine lv_iadd C.1.1 C.1.2.1 dL_law_501 ?_
      refine tr_sld C hX hbl hbA hS dL_law_502 hw (fun x_502 hw => ?_)
      refine tr_aload_n (k := 0) (x := (some b)) C hl 5 rfl dL_law_503 ?_
      refine tr_iload (x := v4) C hl 4 rfl dL_law_504 ?_
      refine lv_iconst (v := (3 : Int32)) C.1.1 C.1.2.1 dL_law_506 (by decide) ?_
      refine lv_iadd C.1.1 C.1.2.1 dL_law_507 ?_
      refine tr_sld C hX hbl hbA hS dL_law_508 hw (fun x_508 hw => ?_)
      refine tr_aload_n (k := 0) (x := (some b)) C hl 5 rfl dL_law_509 ?_
      refine tr_iload (x := v4) C hl 4 rfl dL_law_510 ?_
      refine lv_iconst (v := (4 : Int32)) C.1.1 C.1.2.1 dL_law_512 (by decide) ?_
      refine lv_iadd C.1.1 C.1.2.1 dL_law_513 ?_
      refine tr_sld C hX hbl hbA hS dL_law_514 hw (fun x_514 hw => ?_)
      refine tr_backI (tr_runV (r := v2) (As := [.int x_496, .int x_502, .int x_508, .int x_514]) C hl.1 (c_X3_part l hll K _ v2 x_496 x_502 x_508 x_514) (cwV 4 C.1.2.2.2.2 (gi_V (zm kw_732) (zm kw_733) (zm kw_734) (zm kw_155) (zm kw_731)) rfl rfl rfl (by decide +kernel) ⟨(Nat.le_of_ble_eq_true rfl), (Nat.le_of_ble_eq_true rfl)⟩) rfl rfl dL_law_515 ⟨(show (nc + 5) + 0 ≤ 645934 by omega), (show (ns + 28) + 0 ≤ 7158302 by omega)⟩ [] rfl (Nat.le_of_ble_eq_true rfl) rfl hW hS hw) hS (fun x_515 G_515 H locs hw hW hS => ?_)
      refine tr_istore (x := x_515) C hl [(6, .inl x_515), (5, .inl x_485), (1, .inr (.inr v1)), (2, .inr (.inr v2)), (3, .inr (.inr v3)), (4, .inl v4), (0, .inr (.inr (some b)))] (by decide) rfl dL_law_518 (fun ls hl => ?_)
      refine tr_aload_n (k := 2) (x := v2) C hl 3 rfl dL_law_520 ?_
      refine tr_backI (tr_runV (r := v2) (As := []) C hl.1 (c_X3_thrown l hll K _ v2) (cwV 0 C.1.2.2.2.2 (gi_V (zm kw_682) (zm kw_683) (zm kw_684) (zm kw_155) (zm kw_681)) rfl rfl rfl (by decide +kernel) ⟨(Nat.le_of_ble_eq_true rfl), (Nat.le_of_ble_eq_true rfl)⟩) rfl rfl dL_law_521 ⟨(show (nc + 5) + 0 ≤ 645934 by omega), (show (ns + 28) + 0 ≤ 7158302 by omega)⟩ [] rfl (Nat.le_of_ble_eq_true rfl) rfl hW hS hw) hS (fun x_521 G_521 H locs hw hW hS => ?_)
      refine tr_iload (x := x_485) C hl 1 rfl dL_law_524 ?_
      refine lv_icmp_eq (tgt := 531) C.1.1 C.1.2.1 dL_law_526 (by decide) (fun hc => ?_) (fun hc => ?_)
      · have hw := hw.1 hc
        refine tr_iload (x := x_485) C hl 1 rfl dL_law_531 ?_
        refine lv_if_ne (tgt := 549) C.1.1 C.1.2.1 dL_law_533 (by decide) (fun hc => ?_) (fun hc => ?_)
        · have hw := hw.1 hc
          exact s_L_law_549 C hr hX hbl hbA hA2 hcN hll k27 hk27 ((nc + 5)) ((ns + 28)) v1 v2 v3 v4 _ _ _ _ (show (nc + 5) ≤ 645934 ∧ (ns + 28) ≤ 7158302 by omega) hW hS (tl_sub hl [2, 3, 4, 5, 6] rfl) hw
        · have hw := hw.2 hc
          refine tr_aload_n (k := 3) (x := v3) C hl 4 rfl dL_law_536 ?_
          refine tr_gfLN (C0 := RX2) (T := TX2) (N := 2) (ci := 4) (ref := "TwinrowLaw$Out") (host := "TwinrowLaw") (k := 0) (r := v3) C (zh hw_X2) rfl (by decide) (tc_kx C).1 rfl dL_law_537 hW hw (fun x_537 hw => ?_)
          refine tr_iload (x := x_515) C hl 0 rfl dL_law_540 ?_
          refine lv_i2l (v := ((x_515).toInt64)) C.1.1 C.1.2.1 dL_law_542 rfl ?_
          refine W.lcmp C.1.1 C.1.2.1 dL_law_543 ?_
          refine lv_if_eq (tgt := 549) C.1.1 C.1.2.1 dL_law_544 (by decide) (fun hc => ?_) (fun hc => ?_)
          · have hw := hw.1 hc
            exact s_L_law_549 C hr hX hbl hbA hA2 hcN hll k27 hk27 ((nc + 5)) ((ns + 28)) v1 v2 v3 v4 _ _ _ _ (show (nc + 5) ≤ 645934 ∧ (ns + 28) ≤ 7158302 by omega) hW hS (tl_sub hl [2, 3, 4, 5, 6] rfl) hw
          · have hw := hw.2 hc
            refine lv_iconst (v := (0 : Int32)) C.1.1 C.1.2.1 dL_law_547 (by decide) ?_
            exact tr_law C hr hA2 dL_law_548 (show (nc + 5) ≤ 645934 by omega) (show (ns + 28) ≤ 7158302 by omega) hS hw
      · have hw := hw.2 hc
        refine lv_iconst (v := (0 : Int32)) C.1.1 C.1.2.1 dL_law_529 (by decide) ?_
        exact tr_law C hr hA2 dL_law_530 (show (nc + 5) ≤ 645934 by omega) (show (ns + 28) ≤ 7158302 by omega) hS hw
    have hw := hw.2
    by_cases hc4 : (x_40 &&& (63 : Int32)) = (4 : Int32)
    · have hw := hw.1 hc4
      refine lv_tableIn (off := 508) (tgt := 552) C.1.1 C.1.2.1 dL_law_44 (by rw [hc4]; decide) (by rw [hc4]; decide) (by rw [hc4]; rfl) (by decide) ?_
      refine tr_aload_n (k := 1) (x := v1) C hl 0 rfl dL_law_552 ?_
      refine tr_aload_n (k := 0) (x := (some b)) C hl 4 rfl dL_law_553 ?_
      refine tr_iload (x := v4) C hl 3 rfl dL_law_554 ?_
      refine lv_iconst (v := (1 : Int32)) C.1.1 C.1.2.1 dL_law_556 (by decide) ?_
      refine lv_iadd C.1.1 C.1.2.1 dL_law_557 ?_
      refine tr_sld C hX hbl hbA hS dL_law_558 hw (fun x_558 hw => ?_)
      refine tr_aload_n (k := 0) (x := (some b)) C hl 4 rfl dL_law_559 ?_
      refine tr_iload (x := v4) C hl 3 rfl dL_law_560 ?_
      refine lv_iconst (v := (2 : Int32)) C.1.1 C.1.2.1 dL_law_562 (by decide) ?_
      refine lv_iadd C.1.1 C.1.2.1 dL_law_563 ?_
      refine tr_sld C hX hbl hbA hS dL_law_564 hw (fun x_564 hw => ?_)
      refine tr_aload_n (k := 0) (x := (some b)) C hl 4 rfl dL_law_565 ?_
      refine tr_iload (x := v4) C hl 3 rfl dL_law_566 ?_
      refine lv_iconst (v := (3 : Int32)) C.1.1 C.1.2.1 dL_law_568 (by decide) ?_
      refine lv_iadd C.1.1 C.1.2.1 dL_law_569 ?_
      refine tr_sld C hX hbl hbA hS dL_law_570 hw (fun x_570 hw => ?_)
      refine tr_aload_n (k := 3) (x := v3) C hl 2 rfl dL_law_571 ?_
      have hq9 := hw.1
      have hw := hw.2
      refine tx_backNI (tx_runSX (As := [va_rf v1, .int x_558, .int x_564, .int x_570, va_rf v3]) C hl.1 (c_L_set l hll K _ v1 x_558 x_564 x_570 v3) (vx_cwSW 5 C.1.2.2.2.2 (gi_SX (zm kw_736) (zm kw_737) (zm kw_692) (zm kw_735)) rfl rfl rfl (by decide +kernel) ⟨(Nat.le_of_ble_eq_true rfl), (Nat.le_of_ble_eq_true rfl)⟩) rfl dL_law_572 ⟨hq9.1, hq9.2⟩ [] rfl (Nat.le_of_ble_eq_true rfl) rfl hW hS hw) hS (fun x_572 G_572 H locs hw hW hS => ?_)
      refine tr_istore (x := x_572) C hl [(5, .inl x_572), (1, .inr (.inr v1)), (2, .inr (.inr v2)), (3, .inr (.inr v3)), (4, .inl v4), (0, .inr (.inr (some b)))] (by decide) rfl dL_law_575 (fun ls hl => ?_)
      refine tr_aload_n (k := 2) (x := v2) C hl 2 rfl dL_law_577 ?_
      refine tr_aload_n (k := 0) (x := (some b)) C hl 5 rfl dL_law_578 ?_
      refine tr_iload (x := v4) C hl 4 rfl dL_law_579 ?_
      refine lv_iconst (v := (1 : Int32)) C.1.1 C.1.2.1 dL_law_581 (by decide) ?_
      refine lv_iadd C.1.1 C.1.2.1 dL_law_582 ?_
      refine tr_sld C hX hbl hbA hS dL_law_583 hw (fun x_583 hw => ?_)
      refine tr_aload_n (k := 0) (x := (some b)) C hl 5 rfl dL_law_584 ?_
      refine tr_iload (x := v4) C hl 4 rfl dL_law_585 ?_
      refine lv_iconst (v := (2 : Int32)) C.1.1 C.1.2.1 dL_law_587 (by decide) ?_
      refine lv_iadd C.1.1 C.1.2.1 dL_law_588 ?_
      refine tr_sld C hX hbl hbA hS dL_law_589 hw (fun x_589 hw => ?_)
      refine tr_aload_n (k := 0) (x := (some b)) C hl 5 rfl dL_law_590 ?_
      refine tr_iload (x := v4) C hl 4 rfl dL_law_591 ?_
      refine lv_iconst (v := (3 : Int32)) C.1.1 C.1.2.1 dL_law_593 (by decide) ?_
      refine lv_iadd C.1.1 C.1.2.1 dL_law_594 ?_
      refine tr_sld C hX hbl hbA hS dL_law_595 hw (fun x_595 hw => ?_)
      refine tr_backI (tr_runV (r := v2) (As := [.int x_583, .int x_589, .int x_595]) C hl.1 (c_X3_set l hll K _ v2 x_583 x_589 x_595) (cwV 3 C.1.2.2.2.2 (gi_V (zm kw_739) (zm kw_740) (zm kw_741) (zm kw_155) (zm kw_738)) rfl rfl rfl (by decide +kernel) ⟨(Nat.le_of_ble_eq_true rfl), (Nat.le_of_ble_eq_true rfl)⟩) rfl rfl dL_law_596 ⟨(show (nc + 3) + 0 ≤ 645934 by omega), (show (ns + 18) + 0 ≤ 7158302 by omega)⟩ [] rfl (Nat.le_of_ble_eq_true rfl) rfl hW hS hw) hS (fun x_596 G_596 H locs hw hW hS => ?_)
      refine tr_istore (x := x_596) C hl [(6, .inl x_596), (5, .inl x_572), (1, .inr (.inr v1)), (2, .inr (.inr v2)), (3, .inr (.inr v3)), (4, .inl v4), (0, .inr (.inr (some b)))] (by decide) rfl dL_law_599 (fun ls hl => ?_)
      refine tr_aload_n (k := 2) (x := v2) C hl 3 rfl dL_law_601 ?_
      refine tr_backI (tr_runV (r := v2) (As := []) C hl.1 (c_X3_thrown l hll K _ v2) (cwV 0 C.1.2.2.2.2 (gi_V (zm kw_682) (zm kw_683) (zm kw_684) (zm kw_155) (zm kw_681)) rfl rfl rfl (by decide +kernel) ⟨(Nat.le_of_ble_eq_true rfl), (Nat.le_of_ble_eq_true rfl)⟩) rfl rfl dL_law_602 ⟨(show (nc + 3) + 0 ≤ 645934 by omega), (show (ns + 18) + 0 ≤ 7158302 by omega)⟩ [] rfl (Nat.le_of_ble_eq_true rfl) rfl hW hS hw) hS (fun x_602 G_602 H locs hw hW hS => ?_)
      refine tr_iload (x := x_572) C hl 1 rfl dL_law_605 ?_
      refine lv_icmp_eq (tgt := 612) C.1.1 C.1.2.1 dL_law_607 (by decide) (fun hc => ?_) (fun hc => ?_)
      · have hw := hw.1 hc
        refine tr_iload (x := x_572) C hl 1 rfl dL_law_612 ?_
        refine lv_if_ne (tgt := 630) C.1.1 C.1.2.1 dL_law_614 (by decide) (fun hc => ?_) (fun hc => ?_)
        · have hw := hw.1 hc
          exact s_L_law_630 C hr hX hbl hbA hA2 hcN hll k27 hk27 ((nc + 3)) ((ns + 18)) v1 v2 v3 v4 _ _ _ _ (show (nc + 3) ≤ 645934 ∧ (ns + 18) ≤ 7158302 by omega) hW hS (tl_sub hl [2, 3, 4, 5, 6] rfl) hw
        · have hw := hw.2 hc
          refine tr_aload_n (k := 3) (x := v3) C hl 4 rfl dL_law_617 ?_
          refine tr_gfLN (C0 := RX2) (T := TX2) (N := 2) (ci := 4) (ref := "TwinrowLaw$Out") (host := "TwinrowLaw") (k := 0) (r := v3) C (zh hw_X2) rfl (by decide) (tc_kx C).1 rfl dL_law_618 hW hw (fun x_618 hw => ?_)
          refine tr_iload (x := x_596) C hl 0 rfl dL_law_621 ?_
          refine lv_i2l (v := ((x_596).toInt64)) C.1.1 C.1.2.1 dL_law_623 rfl ?_
          refine W.lcmp C.1.1 C.1.2.1 dL_law_624 ?_
          refine lv_if_eq (tgt := 630) C.1.1 C.1.2.1 dL_law_625 (by decide) (fun hc => ?_) (fun hc => ?_)
          · have hw := hw.1 hc
            exact s_L_law_630 C hr hX hbl hbA hA2 hcN hll k27 hk27 ((nc + 3)) ((ns + 18)) v1 v2 v3 v4 _ _ _ _ (show (nc + 3) ≤ 645934 ∧ (ns + 18) ≤ 7158302 by omega) hW hS (tl_sub hl [2, 3, 4, 5, 6] rfl) hw
          · have hw := hw.2 hc
            refine lv_iconst (v := (0 : Int32)) C.1.1 C.1.2.1 dL_law_628 (by decide) ?_
            exact tr_law C hr hA2 dL_law_629 (show (nc + 3) ≤ 645934 by omega) (show (ns + 18) ≤ 7158302 by omega) hS hw
      · have hw := hw.2 hc
        refine lv_iconst (v := (0 : Int32)) C.1.1 C.1.2.1 dL_law_610 (by decide) ?_
        exact tr_law C hr hA2 dL_law_611 (show (nc + 3) ≤ 645934 by omega) (show (ns + 18) ≤ 7158302 by omega) hS hw
    have hw := hw.2
    by_cases hc5 : (x_40 &&& (63 : Int32)) = (5 : Int32)
    · have hw := hw.1 hc5
      refine lv_tableIn (off := 589) (tgt := 633) C.1.1 C.1.2.1 dL_law_44 (by rw [hc5]; decide) (by rw [hc5]; decide) (by rw [hc5]; rfl) (by decide) ?_
      refine tr_aload_n (k := 1) (x := v1) C hl 0 rfl dL_law_633 ?_
      refine tr_aload_n (k := 0) (x := (some b)) C hl 4 rfl dL_law_634 ?_
      refine tr_iload (x := v4) C hl 3 rfl dL_law_635 ?_
      refine lv_iconst (v := (1 : Int32)) C.1.1 C.1.2.1 dL_law_637 (by decide) ?_
      refine lv_iadd C.1.1 C.1.2.1 dL_law_638 ?_
      refine tr_sld C hX hbl hbA hS dL_law_639 hw (fun x_639 hw => ?_)
      refine tr_aload_n (k := 0) (x := (some b)) C hl 4 rfl dL_law_640 ?_
      refine tr_iload (x := v4) C hl 3 rfl dL_law_641 ?_
      refine lv_iconst (v := (2 : Int32)) C.1.1 C.1.2.1 dL_law_643 (by decide) ?_
      refine lv_iadd C.1.1 C.1.2.1 dL_law_644 ?_
      refine tr_sld C hX hbl hbA hS dL_law_645 hw (fun x_645 hw => ?_)
      refine tr_aload_n (k := 3) (x := v3) C hl 2 rfl dL_law_646 ?_
      have hq10 := hw.1
      have hw := hw.2
      refine tx_backNI (tx_runSX (As := [va_rf v1, .int x_639, .int x_645, va_rf v3]) C hl.1 (c_L_get l hll K _ v1 x_639 x_645 v3) (vx_cwSW 4 C.1.2.2.2.2 (gi_SX (zm kw_743) (zm kw_744) (zm kw_692) (zm kw_742)) rfl rfl rfl (by decide +kernel) ⟨(Nat.le_of_ble_eq_true rfl), (Nat.le_of_ble_eq_true rfl)⟩) rfl dL_law_647 ⟨hq10.1, hq10.2⟩ [] rfl (Nat.le_of_ble_eq_true rfl) rfl hW hS hw) hS (fun x_647 G_647 H locs hw hW hS => ?_)
      refine tr_istore (x := x_647) C hl [(5, .inl x_647), (1, .inr (.inr v1)), (2, .inr (.inr v2)), (3, .inr (.inr v3)), (4, .inl v4), (0, .inr (.inr (some b)))] (by decide) rfl dL_law_650 (fun ls hl => ?_)
      refine tr_aload_n (k := 2) (x := v2) C hl 2 rfl dL_law_652 ?_
      refine tr_aload_n (k := 0) (x := (some b)) C hl 5 rfl dL_law_653 ?_
      refine tr_iload (x := v4) C hl 4 rfl dL_law_654 ?_
      refine lv_iconst (v := (1 : Int32)) C.1.1 C.1.2.1 dL_law_656 (by decide) ?_
      refine lv_iadd C.1.1 C.1.2.1 dL_law_657 ?_
      refine tr_sld C hX hbl hbA hS dL_law_658 hw (fun x_658 hw => ?_)
      refine tr_aload_n (k := 0) (x := (some b)) C hl 5 rfl dL_law_659 ?_
      refine tr_iload (x := v4) C hl 4 rfl dL_law_660 ?_
      refine lv_iconst (v := (2 : Int32)) C.1.1 C.1.2.1 dL_law_662 (by decide) ?_
      refine lv_iadd C.1.1 C.1.2.1 dL_law_663 ?_
      refine tr_sld C hX hbl hbA hS dL_law_664 hw (fun x_664 hw => ?_)
      refine tr_backI (tr_runV (r := v2) (As := [.int x_658, .int x_664]) C hl.1 (c_X3_get l hll K _ v2 x_658 x_664) (cwV 2 C.1.2.2.2.2 (gi_V (zm kw_746) (zm kw_747) (zm kw_748) (zm kw_155) (zm kw_745)) rfl rfl rfl (by decide +kernel) ⟨(Nat.le_of_ble_eq_true rfl), (Nat.le_of_ble_eq_true rfl)⟩) rfl rfl dL_law_665 ⟨(show (nc + 2) + 0 ≤ 645934 by omega), (show (ns + 12) + 0 ≤ 7158302 by omega)⟩ [] rfl (Nat.le_of_ble_eq_true rfl) rfl hW hS hw) hS (fun x_665 G_665 H locs hw hW hS => ?_)
      refine tr_istore (x := x_665) C hl [(6, .inl x_665), (5, .inl x_647), (1, .inr (.inr v1)), (2, .inr (.inr v2)), (3, .inr (.inr v3)), (4, .inl v4), (0, .inr (.inr (some b)))] (by decide) rfl dL_law_668 (fun ls hl => ?_)
      refine tr_aload_n (k := 2) (x := v2) C hl 3 rfl dL_law_670 ?_
      refine tr_backI (tr_runV (r := v2) (As := []) C hl.1 (c_X3_thrown l hll K _ v2) (cwV 0 C.1.2.2.2.2 (gi_V (zm kw_682) (zm kw_683) (zm kw_684) (zm kw_155) (zm kw_681)) rfl rfl rfl (by decide +kernel) ⟨(Nat.le_of_ble_eq_true rfl), (Nat.le_of_ble_eq_true rfl)⟩) rfl rfl dL_law_671 ⟨(show (nc + 2) + 0 ≤ 645934 by omega), (show (ns + 12) + 0 ≤ 7158302 by omega)⟩ [] rfl (Nat.le_of_ble_eq_true rfl) rfl hW hS hw) hS (fun x_671 G_671 H locs hw hW hS => ?_)
      refine tr_iload (x := x_647) C hl 1 rfl dL_law_674 ?_
      refine lv_icmp_eq (tgt := 681) C.1.1 C.1.2.1 dL_law_676 (by decide) (fun hc => ?_) (fun hc => ?_)
      · have hw := hw.1 hc
        refine tr_iload (x := x_647) C hl 1 rfl dL_law_681 ?_
        refine lv_if_ne (tgt := 699) C.1.1 C.1.2.1 dL_law_683 (by decide) (fun hc => ?_) (fun hc => ?_)
        · have hw := hw.1 hc
          exact s_L_law_699 C hr hX hbl hbA hA2 hcN hll k27 hk27 ((nc + 2)) ((ns + 12)) v1 v2 v3 v4 _ _ _ _ (show (nc + 2) ≤ 645934 ∧ (ns + 12) ≤ 7158302 by omega) hW hS (tl_sub hl [2, 3, 4, 5, 6] rfl) hw
        · have hw := hw.2 hc
          refine tr_aload_n (k := 3) (x := v3) C hl 4 rfl dL_law_686 ?_
          refine tr_gfLN (C0 := RX2) (T := TX2) (N := 2) (ci := 4) (ref := "TwinrowLaw$Out") (host := "TwinrowLaw") (k := 0) (r := v3) C (zh hw_X2) rfl (by decide) (tc_kx C).1 rfl dL_law_687 hW hw (fun x_687 hw => ?_)
          refine tr_iload (x := x_665) C hl 0 rfl dL_law_690 ?_
          refine lv_i2l (v := ((x_665).toInt64)) C.1.1 C.1.2.1 dL_law_692 rfl ?_
          refine W.lcmp C.1.1 C.1.2.1 dL_law_693 ?_
          refine lv_if_eq (tgt := 699) C.1.1 C.1.2.1 dL_law_694 (by decide) (fun hc => ?_) (fun hc => ?_)
          · have hw := hw.1 hc
            exact s_L_law_699 C hr hX hbl hbA hA2 hcN hll k27 hk27 ((nc + 2)) ((ns + 12)) v1 v2 v3 v4 _ _ _ _ (show (nc + 2) ≤ 645934 ∧ (ns + 12) ≤ 7158302 by omega) hW hS (tl_sub hl [2, 3, 4, 5, 6] rfl) hw
          · have hw := hw.2 hc
            refine lv_iconst (v := (0 : Int32)) C.1.1 C.1.2.1 dL_law_697 (by decide) ?_
            exact tr_law C hr hA2 dL_law_698 (show (nc + 2) ≤ 645934 by omega) (show (ns + 12) ≤ 7158302 by omega) hS hw
      · have hw := hw.2 hc
        refine lv_iconst (v := (0 : Int32)) C.1.1 C.1.2.1 dL_law_679 (by decide) ?_
        exact tr_law C hr hA2 dL_law_680 (show (nc + 2) ≤ 645934 by omega) (show (ns + 12) ≤ 7158302 by omega) hS hw
    have hw := hw.2
    by_cases hc6 : (x_40 &&& (63 : Int32)) = (6 : Int32)
    · have hw := hw.1 hc6
      refine lv_tableIn (off := 658) (tgt := 702) C.1.1 C.1.2.1 dL_law_44 (by rw [hc6]; decide) (by rw [hc6]; decide) (by rw [hc6]; rfl) (by decide) ?_
      refine tr_aload_n (k := 1) (x := v1) C hl 0 rfl dL_law_702 ?_
      refine tr_aload_n (k := 0) (x := (some b)) C hl 4 rfl dL_law_703 ?_
      refine tr_iload (x := v4) C hl 3 rfl dL_law_704 ?_
      refine lv_iconst (v := (1 : Int32)) C.1.1 C.1.2.1 dL_law_706 (by decide) ?_
      refine lv_iadd C.1.1 C.1.2.1 dL_law_707 ?_
      refine tr_sld C hX hbl hbA hS dL_law_708 hw (fun x_708 hw => ?_)
      refine tr_aload_n (k := 3) (x := v3) C hl 2 rfl dL_law_709 ?_
      have hq11 := hw.1
      have hw := hw.2
      refine tx_backNI (tx_runSX (As := [va_rf v1, .int x_708, va_rf v3]) C hl.1 (c_L_length l hll K _ v1 x_708 v3) (vx_cwSW 3 C.1.2.2.2.2 (gi_SX (zm kw_750) (zm kw_751) (zm kw_692) (zm kw_749)) rfl rfl rfl (by decide +kernel) ⟨(Nat.le_of_ble_eq_true rfl), (Nat.le_of_ble_eq_true rfl)⟩) rfl dL_law_710 ⟨hq11.1, hq11.2⟩ [] rfl (Nat.le_of_ble_eq_true rfl) rfl hW hS hw) hS (fun x_710 G_710 H locs hw hW hS => ?_)
      refine tr_istore (x := x_710) C hl [(5, .inl x_710), (1, .inr (.inr v1)), (2, .inr (.inr v2)), (3, .inr (.inr v3)), (4, .inl v4), (0, .inr (.inr (some b)))] (by decide) rfl dL_law_713 (fun ls hl => ?_)
      refine tr_aload_n (k := 2) (x := v2) C hl 2 rfl dL_law_715 ?_
      refine tr_aload_n (k := 0) (x := (some b)) C hl 5 rfl dL_law_716 ?_
      refine tr_iload (x := v4) C hl 4 rfl dL_law_717 ?_
      refine lv_iconst (v := (1 : Int32)) C.1.1 C.1.2.1 dL_law_719 (by decide) ?_
      refine lv_iadd C.1.1 C.1.2.1 dL_law_720 ?_
      refine tr_sld C hX hbl hbA hS dL_law_721 hw (fun x_721 hw => ?_)
      refine tr_backI (tr_runV (r := v2) (As := [.int x_721]) C hl.1 (c_X3_length l hll K _ v2 x_721) (cwV 1 C.1.2.2.2.2 (gi_V (zm kw_753) (zm kw_754) (zm kw_755) (zm kw_155) (zm kw_752)) rfl rfl rfl (by decide +kernel) ⟨(Nat.le_of_ble_eq_true rfl), (Nat.le_of_ble_eq_true rfl)⟩) rfl rfl dL_law_722 ⟨(show (nc + 1) + 0 ≤ 645934 by omega), (show (ns + 6) + 0 ≤ 7158302 by omega)⟩ [] rfl (Nat.le_of_ble_eq_true rfl) rfl hW hS hw) hS (fun x_722 G_722 H locs hw hW hS => ?_)
      refine tr_istore (x := x_722) C hl [(6, .inl x_722), (5, .inl x_710), (1, .inr (.inr v1)), (2, .inr (.inr v2)), (3, .inr (.inr v3)), (4, .inl v4), (0, .inr (.inr (some b)))] (by decide) rfl dL_law_725 (fun ls hl => ?_)
      refine tr_aload_n (k := 2) (x := v2) C hl 3 rfl dL_law_727 ?_
      refine tr_backI (tr_runV (r := v2) (As := []) C hl.1 (c_X3_thrown l hll K _ v2) (cwV 0 C.1.2.2.2.2 (gi_V (zm kw_682) (zm kw_683) (zm kw_684) (zm kw_155) (zm kw_681)) rfl rfl rfl (by decide +kernel) ⟨(Nat.le_of_ble_eq_true rfl), (Nat.le_of_ble_eq_true rfl)⟩) rfl rfl dL_law_728 ⟨(show (nc + 1) + 0 ≤ 645934 by omega), (show (ns + 6) + 0 ≤ 7158302 by omega)⟩ [] rfl (Nat.le_of_ble_eq_true rfl) rfl hW hS hw) hS (fun x_728 G_728 H locs hw hW hS => ?_)
      refine tr_iload (x := x_710) C hl 1 rfl dL_law_731 ?_
      refine lv_icmp_eq (tgt := 738) C.1.1 C.1.2.1 dL_law_733 (by decide) (fun hc => ?_) (fun hc => ?_)
      · have hw := hw.1 hc
        refine tr_iload (x := x_710) C hl 1 rfl dL_law_738 ?_
        refine lv_if_ne (tgt := 756) C.1.1 C.1.2.1 dL_law_740 (by decide) (fun hc => ?_) (fun hc => ?_)
        · have hw := hw.1 hc
          exact s_L_law_756 C hr hX hbl hbA hA2 hcN hll k27 hk27 ((nc + 1)) ((ns + 6)) v1 v2 v3 v4 _ _ _ _ (show (nc + 1) ≤ 645934 ∧ (ns + 6) ≤ 7158302 by omega) hW hS (tl_sub hl [2, 3, 4, 5, 6] rfl) hw
        · have hw := hw.2 hc
          refine tr_aload_n (k := 3) (x := v3) C hl 4 rfl dL_law_743 ?_
          refine tr_gfLN (C0 := RX2) (T := TX2) (N := 2) (ci := 4) (ref := "TwinrowLaw$Out") (host := "TwinrowLaw") (k := 0) (r := v3) C (zh hw_X2) rfl (by decide) (tc_kx C).1 rfl dL_law_744 hW hw (fun x_744 hw => ?_)
          refine tr_iload (x := x_722) C hl 0 rfl dL_law_747 ?_
          refine lv_i2l (v := ((x_722).toInt64)) C.1.1 C.1.2.1 dL_law_749 rfl ?_
          refine W.lcmp C.1.1 C.1.2.1 dL_law_750 ?_
          refine lv_if_eq (tgt := 756) C.1.1 C.1.2.1 dL_law_751 (by decide) (fun hc => ?_) (fun hc => ?_)
          · have hw := hw.1 hc
            exact s_L_law_756 C hr hX hbl hbA hA2 hcN hll k27 hk27 ((nc + 1)) ((ns + 6)) v1 v2 v3 v4 _ _ _ _ (show (nc + 1) ≤ 645934 ∧ (ns + 6) ≤ 7158302 by omega) hW hS (tl_sub hl [2, 3, 4, 5, 6] rfl) hw
          · have hw := hw.2 hc
            refine lv_iconst (v := (0 : Int32)) C.1.1 C.1.2.1 dL_law_754 (by decide) ?_
            exact tr_law C hr hA2 dL_law_755 (show (nc + 1) ≤ 645934 by omega) (show (ns + 6) ≤ 7158302 by omega) hS hw
      · have hw := hw.2 hc
        refine lv_iconst (v := (0 : Int32)) C.1.1 C.1.2.1 dL_law_736 (by decide) ?_
        exact tr_law C hr hA2 dL_law_737 (show (nc + 1) ≤ 645934 by omega) (show (ns + 6) ≤ 7158302 by omega) hS hw
    have hw := hw.2
    by_cases hc7 : (x_40 &&& (63 : Int32)) = (7 : Int32)
    · have hw := hw.1 hc7
      refine lv_tableIn (off := 715) (tgt := 759) C.1.1 C.1.2.1 dL_law_44 (by rw [hc7]; decide) (by rw [hc7]; decide) (by rw [hc7]; rfl) (by decide) ?_
      refine tr_aload_n (k := 1) (x := v1) C hl 0 rfl dL_law_759 ?_
      refine tr_aload_n (k := 0) (x := (some b)) C hl 4 rfl dL_law_760 ?_
      refine tr_iload (x := v4) C hl 3 rfl dL_law_761 ?_
      refine lv_iconst (v := (1 : Int32)) C.1.1 C.1.2.1 dL_law_763 (by decide) ?_
      refine lv_iadd C.1.1 C.1.2.1 dL_law_764 ?_
      refine tr_sld C hX hbl hbA hS dL_law_765 hw (fun x_765 hw => ?_)
      refine tr_aload_n (k := 3) (x := v3) C hl 2 rfl dL_law_766 ?_
      have hq12 := hw.1
      have hw := hw.2
      refine tx_backNI (tx_runSX (As := [va_rf v1, .int x_765, va_rf v3]) C hl.1 (c_L_isEmpty l hll K _ v1 x_765 v3) (vx_cwSW 3 C.1.2.2.2.2 (gi_SX (zm kw_757) (zm kw_758) (zm kw_692) (zm kw_756)) rfl rfl rfl (by decide +kernel) ⟨(Nat.le_of_ble_eq_true rfl), (Nat.le_of_ble_eq_true rfl)⟩) rfl dL_law_767 ⟨hq12.1, hq12.2⟩ [] rfl (Nat.le_of_ble_eq_true rfl) rfl hW hS hw) hS (fun x_767 G_767 H locs hw hW hS => ?_)
      refine tr_istore (x := x_767) C hl [(5, .inl x_767), (1, .inr (.inr v1)), (2, .inr (.inr v2)), (3, .inr (.inr v3)), (4, .inl v4), (0, .inr (.inr (some b)))] (by decide) rfl dL_law_770 (fun ls hl => ?_)
      refine tr_aload_n (k := 2) (x := v2) C hl 2 rfl dL_law_772 ?_
      refine tr_aload_n (k := 0) (x := (some b)) C hl 5 rfl dL_law_773 ?_
      refine tr_iload (x := v4) C hl 4 rfl dL_law_774 ?_
      refine lv_iconst (v := (1 : Int32)) C.1.1 C.1.2.1 dL_law_776 (by decide) ?_
      refine lv_iadd C.1.1 C.1.2.1 dL_law_777 ?_
      refine tr_sld C hX hbl hbA hS dL_law_778 hw (fun x_778 hw => ?_)
      refine tr_backI (tr_runV (r := v2) (As := [.int x_778]) C hl.1 (c_X3_isEmpty l hll K _ v2 x_778) (cwV 1 C.1.2.2.2.2 (gi_V (zm kw_760) (zm kw_761) (zm kw_762) (zm kw_155) (zm kw_759)) rfl rfl rfl (by decide +kernel) ⟨(Nat.le_of_ble_eq_true rfl), (Nat.le_of_ble_eq_true rfl)⟩) rfl rfl dL_law_779 ⟨(show (nc + 1) + 0 ≤ 645934 by omega), (show (ns + 6) + 0 ≤ 7158302 by omega)⟩ [] rfl (Nat.le_of_ble_eq_true rfl) rfl hW hS hw) hS (fun x_779 G_779 H locs hw hW hS => ?_)
      refine tr_istore (x := x_779) C hl [(6, .inl x_779), (5, .inl x_767), (1, .inr (.inr v1)), (2, .inr (.inr v2)), (3, .inr (.inr v3)), (4, .inl v4), (0, .inr (.inr (some b)))] (by decide) rfl dL_law_782 (fun ls hl => ?_)
      refine tr_aload_n (k := 2) (x := v2) C hl 3 rfl dL_law_784 ?_
      refine tr_backI (tr_runV (r := v2) (As := []) C hl.1 (c_X3_thrown l hll K _ v2) (cwV 0 C.1.2.2.2.2 (gi_V (zm kw_682) (zm kw_683) (zm kw_684) (zm kw_155) (zm kw_681)) rfl rfl rfl (by decide +kernel) ⟨(Nat.le_of_ble_eq_true rfl), (Nat.le_of_ble_eq_true rfl)⟩) rfl rfl dL_law_785 ⟨(show (nc + 1) + 0 ≤ 645934 by omega), (show (ns + 6) + 0 ≤ 7158302 by omega)⟩ [] rfl (Nat.le_of_ble_eq_true rfl) rfl hW hS hw) hS (fun x_785 G_785 H locs hw hW hS => ?_)
      refine tr_iload (x := x_767) C hl 1 rfl dL_law_788 ?_
      refine lv_icmp_eq (tgt := 795) C.1.1 C.1.2.1 dL_law_790 (by decide) (fun hc => ?_) (fun hc => ?_)
      · have hw := hw.1 hc
        refine tr_iload (x := x_767) C hl 1 rfl dL_law_795 ?_
        refine lv_if_ne (tgt := 820) C.1.1 C.1.2.1 dL_law_797 (by decide) (fun hc => ?_) (fun hc => ?_)
        · have hw := hw.1 hc
          exact s_L_law_820 C hr hX hbl hbA hA2 hcN hll k27 hk27 ((nc + 1)) ((ns + 6)) v1 v2 v3 v4 _ _ _ _ (show (nc + 1) ≤ 645934 ∧ (ns + 6) ≤ 7158302 by omega) hW hS (tl_sub hl [2, 3, 4, 5, 6] rfl) hw
        · have hw := hw.2 hc
          refine tr_aload_n (k := 3) (x := v3) C hl 4 rfl dL_law_800 ?_
          refine tr_gfLN (C0 := RX2) (T := TX2) (N := 2) (ci := 4) (ref := "TwinrowLaw$Out") (host := "TwinrowLaw") (k := 0) (r := v3) C (zh hw_X2) rfl (by decide) (tc_kx C).1 rfl dL_law_801 hW hw (fun x_801 hw => ?_)
          refine tr_iload (x := x_779) C hl 0 rfl dL_law_804 ?_
          refine lv_if_eq (tgt := 813) C.1.1 C.1.2.1 dL_law_806 (by decide) (fun hc => ?_) (fun hc => ?_)
          · have hw := hw.1 hc
            refine lv_lconst (v := (0 : Int64)) C.1.1 C.1.2.1 dL_law_813 (by decide) ?_
            exact s_L_law_814 C hr hX hbl hbA hA2 hcN hll k27 hk27 ((nc + 1)) ((ns + 6)) v1 v2 v3 v4 x_801 ((0 : Int64)) _ _ _ _ (show (nc + 1) ≤ 645934 ∧ (ns + 6) ≤ 7158302 by omega) hW hS (tl_sub hl [2, 3, 4, 5, 6] rfl) hw
          · have hw := hw.2 hc
            refine lv_lconst (v := (1 : Int64)) C.1.1 C.1.2.1 dL_law_809 (by decide) ?_
            refine lv_goto (tgt := 814) C.1.1 C.1.2.1 dL_law_810 (by decide) ?_
            exact s_L_law_814 C hr hX hbl hbA hA2 hcN hll k27 hk27 ((nc + 1)) ((ns + 6)) v1 v2 v3 v4 x_801 ((1 : Int64)) _ _ _ _ (show (nc + 1) ≤ 645934 ∧ (ns + 6) ≤ 7158302 by omega) hW hS (tl_sub hl [2, 3, 4, 5, 6] rfl) hw
      · have hw := hw.2 hc
        refine lv_iconst (v := (0 : Int32)) C.1.1 C.1.2.1 dL_law_793 (by decide) ?_
        exact tr_law C hr hA2 dL_law_794 (show (nc + 1) ≤ 645934 by omega) (show (ns + 6) ≤ 7158302 by omega) hS hw
    have hw := hw.2
    by_cases hc8 : (x_40 &&& (63 : Int32)) = (8 : Int32)
    · have hw := hw.1 hc8
      refine lv_tableIn (off := 779) (tgt := 823) C.1.1 C.1.2.1 dL_law_44 (by rw [hc8]; decide) (by rw [hc8]; decide) (by rw [hc8]; rfl) (by decide) ?_
      refine tr_aload_n (k := 1) (x := v1) C hl 0 rfl dL_law_823 ?_
      refine tr_aload_n (k := 0) (x := (some b)) C hl 4 rfl dL_law_824 ?_
      refine tr_iload (x := v4) C hl 3 rfl dL_law_825 ?_
      refine lv_iconst (v := (1 : Int32)) C.1.1 C.1.2.1 dL_law_827 (by decide) ?_
      refine lv_iadd C.1.1 C.1.2.1 dL_law_828 ?_
      refine tr_sld C hX hbl hbA hS dL_law_829 hw (fun x_829 hw => ?_)
      refine tr_aload_n (k := 3) (x := v3) C hl 2 rfl dL_law_830 ?_
      obtain ⟨mc_831, ms_831, hb831, hd831, hw⟩ := hw
      refine tx_backNI (tx_runSX (As := [va_rf v1, .int x_829, va_rf v3]) C hl.1 (c_L_text l hll K mc_831 ms_831 _ v1 x_829 v3) (vx_cwSW 3 C.1.2.2.2.2 (gi_SX (zm kw_764) (zm kw_765) (zm kw_692) (zm kw_763)) rfl rfl rfl (by decide +kernel) ⟨(Nat.le_of_ble_eq_true rfl), (Nat.le_of_ble_eq_true rfl)⟩) rfl dL_law_831 ⟨hb831, hd831⟩ [] rfl (Nat.le_of_ble_eq_true rfl) rfl hW hS hw) hS (fun x_831 G_831 H locs hw hW hS => ?_)
      refine tr_istore (x := x_831) C hl [(5, .inl x_831), (1, .inr (.inr v1)), (2, .inr (.inr v2)), (3, .inr (.inr v3)), (4, .inl v4), (0, .inr (.inr (some b)))] (by decide) rfl dL_law_834 (fun ls hl => ?_)
      refine tr_aload_n (k := 2) (x := v2) C hl 2 rfl dL_law_836 ?_
      refine tr_aload_n (k := 0) (x := (some b)) C hl 5 rfl dL_law_837 ?_
      refine tr_iload (x := v4) C hl 4 rfl dL_law_838 ?_
      refine lv_iconst (v := (1 : Int32)) C.1.1 C.1.2.1 dL_law_840 (by decide) ?_
      refine lv_iadd C.1.1 C.1.2.1 dL_law_841 ?_
      refine tr_sld C hX hbl hbA hS dL_law_842 hw (fun x_842 hw => ?_)
      obtain ⟨mc_843, ms_843, hb843, hd843, hw⟩ := hw
      refine tr_backR (tr_runV (r := v2) (As := [.int x_842]) C hl.1 (c_X3_text l hll K mc_843 ms_843 _ v2 x_842) (cwV 1 C.1.2.2.2.2 (gi_V (zm kw_767) (zm kw_768) (zm kw_769) (zm kw_155) (zm kw_766)) rfl rfl rfl (by decide +kernel) ⟨(Nat.le_of_ble_eq_true rfl), (Nat.le_of_ble_eq_true rfl)⟩) rfl rfl dL_law_843 ⟨hb843, hd843⟩ [] rfl (Nat.le_of_ble_eq_true rfl) rfl hW hS hw) hS (fun x_843 G_843 H locs hw hW hS => ?_)
      refine tr_astore (x := x_843) C hl [(6, .inr (.inr x_843)), (5, .inl x_831), (1, .inr (.inr v1)), (2, .inr (.inr v2)), (3, .inr (.inr v3)), (4, .inl v4), (0, .inr (.inr (some b)))] (by decide) rfl dL_law_846 (fun ls hl => ?_)
      refine tr_aload_n (k := 2) (x := v2) C hl 3 rfl dL_law_848 ?_
      refine tr_backI (tr_runV (r := v2) (As := []) C hl.1 (c_X3_thrown l hll K _ v2) (cwV 0 C.1.2.2.2.2 (gi_V (zm kw_682) (zm kw_683) (zm kw_684) (zm kw_155) (zm kw_681)) rfl rfl rfl (by decide +kernel) ⟨(Nat.le_of_ble_eq_true rfl), (Nat.le_of_ble_eq_true rfl)⟩) rfl rfl dL_law_849 ⟨(show ((nc + mc_831) + mc_843) + 0 ≤ 645934 by omega), (show ((ns + ms_831) + ms_843) + 0 ≤ 7158302 by omega)⟩ [] rfl (Nat.le_of_ble_eq_true rfl) rfl hW hS hw) hS (fun x_849 G_849 H locs hw hW hS => ?_)
      refine tr_iload (x := x_831) C hl 1 rfl dL_law_852 ?_
      refine lv_icmp_eq (tgt := 859) C.1.1 C.1.2.1 dL_law_854 (by decide) (fun hc => ?_) (fun hc => ?_)
      · have hw := hw.1 hc
        refine tr_iload (x := x_831) C hl 1 rfl dL_law_859 ?_
        refine lv_if_ne (tgt := 878) C.1.1 C.1.2.1 dL_law_861 (by decide) (fun hc => ?_) (fun hc => ?_)
        · have hw := hw.1 hc
          exact s_L_law_878 C hr hX hbl hbA hA2 hcN hll k27 hk27 (((nc + mc_831) + mc_843)) (((ns + ms_831) + ms_843)) v1 v2 v3 v4 _ _ _ _ (show ((nc + mc_831) + mc_843) ≤ 645934 ∧ ((ns + ms_831) + ms_843) ≤ 7158302 by omega) hW hS (tl_sub hl [2, 3, 4, 5, 6] rfl) hw
        · have hw := hw.2 hc
          refine tr_aload_n (k := 3) (x := v3) C hl 4 rfl dL_law_864 ?_
          refine tr_gfRN (C0 := RX2) (T := TX2) (N := 2) (ci := 4) (ref := "TwinrowLaw$Out") (host := "TwinrowLaw") (k := 1) (r := v3) C (zh hw_X2) rfl (by decide) (tc_kx C).2.1 rfl dL_law_865 hW hw (fun x_865 hw => ?_)
          refine tr_aload (x := x_843) C hl 0 rfl dL_law_868 ?_
          refine tr_backI (tr_runVS (r := x_865) (As := [va_rf x_843]) C hl.1 (c_J0_equals_9ea2d l hll K _ x_865 x_843) (cwV 1 C.1.2.2.2.2 (gi_V (zm kw_686) (zm kw_687) (zm kw_688) (zm kw_456) (zm kw_685)) rfl rfl rfl (by decide +kernel) ⟨(Nat.le_of_ble_eq_true rfl), (Nat.le_of_ble_eq_true rfl)⟩) rfl rfl dL_law_870 ⟨(show ((nc + mc_831) + mc_843) + 0 ≤ 645934 by omega), (show ((ns + ms_831) + ms_843) + 0 ≤ 7158302 by omega)⟩ [] rfl (Nat.le_of_ble_eq_true rfl) rfl hW hS hw) hS (fun x_870 G_870 H locs hw hW hS => ?_)
          refine lv_if_ne (tgt := 878) C.1.1 C.1.2.1 dL_law_873 (by decide) (fun hc => ?_) (fun hc => ?_)
          · have hw := hw.1 hc
            exact s_L_law_878 C hr hX hbl hbA hA2 hcN hll k27 hk27 (((nc + mc_831) + mc_843)) (((ns + ms_831) + ms_843)) v1 v2 v3 v4 _ _ _ _ (show ((nc + mc_831) + mc_843) ≤ 645934 ∧ ((ns + ms_831) + ms_843) ≤ 7158302 by omega) hW hS (tl_sub hl [2, 3, 4, 5, 6] rfl) hw
          · have hw := hw.2 hc
            refine lv_iconst (v := (0 : Int32)) C.1.1 C.1.2.1 dL_law_876 (by decide) ?_
            exact tr_law C hr hA2 dL_law_877 (show ((nc + mc_831) + mc_843) ≤ 645934 by omega) (show ((ns + ms_831) + ms_843) ≤ 7158302 by omega) hS hw
      · have hw := hw.2 hc
        refine lv_iconst (v := (0 : Int32)) C.1.1 C.1.2.1 dL_law_857 (by decide) ?_
        exact tr_law C hr hA2 dL_law_858 (show ((nc + mc_831) + mc_843) ≤ 645934 by omega) (show ((ns + ms_831) + ms_843) ≤ 7158302 by omega) hS hw
    have hw := hw.2
    by_cases hc9 : (x_40 &&& (63 : Int32)) = (9 : Int32)
    · have hw := hw.1 hc9
      refine lv_tableIn (off := 837) (tgt := 881) C.1.1 C.1.2.1 dL_law_44 (by rw [hc9]; decide) (by rw [hc9]; decide) (by rw [hc9]; rfl) (by decide) ?_
      refine tr_aload_n (k := 1) (x := v1) C hl 0 rfl dL_law_881 ?_
      refine tr_aload_n (k := 0) (x := (some b)) C hl 4 rfl dL_law_882 ?_
      refine tr_iload (x := v4) C hl 3 rfl dL_law_883 ?_
      refine lv_iconst (v := (1 : Int32)) C.1.1 C.1.2.1 dL_law_885 (by decide) ?_
      refine lv_iadd C.1.1 C.1.2.1 dL_law_886 ?_
      refine tr_sld C hX hbl hbA hS dL_law_887 hw (fun x_887 hw => ?_)
      refine tr_aload_n (k := 3) (x := v3) C hl 2 rfl dL_law_888 ?_
      obtain ⟨mc_889, ms_889, hb889, hd889, hw⟩ := hw
      refine tx_backNI (tx_runSX (As := [va_rf v1, .int x_887, va_rf v3]) C hl.1 (c_L_back l hll K mc_889 ms_889 _ v1 x_887 v3) (vx_cwSW 3 C.1.2.2.2.2 (gi_SX (zm kw_771) (zm kw_772) (zm kw_692) (zm kw_770)) rfl rfl rfl (by decide +kernel) ⟨(Nat.le_of_ble_eq_true rfl), (Nat.le_of_ble_eq_true rfl)⟩) rfl dL_law_889 ⟨hb889, hd889⟩ [] rfl (Nat.le_of_ble_eq_true rfl) rfl hW hS hw) hS (fun x_889 G_889 H locs hw hW hS => ?_)
      refine tr_istore (x := x_889) C hl [(5, .inl x_889), (1, .inr (.inr v1)), (2, .inr (.inr v2)), (3, .inr (.inr v3)), (4, .inl v4), (0, .inr (.inr (some b)))] (by decide) rfl dL_law_892 (fun ls hl => ?_)
      refine tr_aload_n (k := 2) (x := v2) C hl 2 rfl dL_law_894 ?_
      refine tr_aload_n (k := 0) (x := (some b)) C hl 5 rfl dL_law_895 ?_
      refine tr_iload (x := v4) C hl 4 rfl dL_law_896 ?_
      refine lv_iconst (v := (1 : Int32)) C.1.1 C.1.2.1 dL_law_898 (by decide) ?_
      refine lv_iadd C.1.1 C.1.2.1 dL_law_899 ?_
      refine tr_sld C hX hbl hbA hS dL_law_900 hw (fun x_900 hw => ?_)
      obtain ⟨mc_901, ms_901, hb901, hd901, hw⟩ := hw
      refine tr_backR (tr_runV (r := v2) (As := [.int x_900]) C hl.1 (c_X3_back l hll K mc_901 ms_901 _ v2 x_900) (cwV 1 C.1.2.2.2.2 (gi_V (zm kw_774) (zm kw_775) (zm kw_776) (zm kw_155) (zm kw_773)) rfl rfl rfl (by decide +kernel) ⟨(Nat.le_of_ble_eq_true rfl), (Nat.le_of_ble_eq_true rfl)⟩) rfl rfl dL_law_901 ⟨hb901, hd901⟩ [] rfl (Nat.le_of_ble_eq_true rfl) rfl hW hS hw) hS (fun x_901 G_901 H locs hw hW hS => ?_)
      refine tr_astore (x := x_901) C hl [(6, .inr (.inr x_901)), (5, .inl x_889), (1, .inr (.inr v1)), (2, .inr (.inr v2)), (3, .inr (.inr v3)), (4, .inl v4), (0, .inr (.inr (some b)))] (by decide) rfl dL_law_904 (fun ls hl => ?_)
      refine tr_aload_n (k := 2) (x := v2) C hl 3 rfl dL_law_906 ?_
      refine tr_backI (tr_runV (r := v2) (As := []) C hl.1 (c_X3_thrown l hll K _ v2) (cwV 0 C.1.2.2.2.2 (gi_V (zm kw_682) (zm kw_683) (zm kw_684) (zm kw_155) (zm kw_681)) rfl rfl rfl (by decide +kernel) ⟨(Nat.le_of_ble_eq_true rfl), (Nat.le_of_ble_eq_true rfl)⟩) rfl rfl dL_law_907 ⟨(show ((nc + mc_889) + mc_901) + 0 ≤ 645934 by omega), (show ((ns + ms_889) + ms_901) + 0 ≤ 7158302 by omega)⟩ [] rfl (Nat.le_of_ble_eq_true rfl) rfl hW hS hw) hS (fun x_907 G_907 H locs hw hW hS => ?_)
      refine tr_iload (x := x_889) C hl 1 rfl dL_law_910 ?_
      refine lv_icmp_eq (tgt := 917) C.1.1 C.1.2.1 dL_law_912 (by decide) (fun hc => ?_) (fun hc => ?_)
      · have hw := hw.1 hc
        refine tr_iload (x := x_889) C hl 1 rfl dL_law_917 ?_
        refine lv_if_ne (tgt := 936) C.1.1 C.1.2.1 dL_law_919 (by decide) (fun hc => ?_) (fun hc => ?_)
        · have hw := hw.1 hc
          exact s_L_law_936 C hr hX hbl hbA hA2 hcN hll k27 hk27 (((nc + mc_889) + mc_901)) (((ns + ms_889) + ms_901)) v1 v2 v3 v4 _ _ _ _ (show ((nc + mc_889) + mc_901) ≤ 645934 ∧ ((ns + ms_889) + ms_901) ≤ 7158302 by omega) hW hS (tl_sub hl [2, 3, 4, 5, 6] rfl) hw
        · have hw := hw.2 hc
          refine tr_aload_n (k := 3) (x := v3) C hl 4 rfl dL_law_922 ?_
          refine tr_gfRN (C0 := RX2) (T := TX2) (N := 2) (ci := 4) (ref := "TwinrowLaw$Out") (host := "TwinrowLaw") (k := 1) (r := v3) C (zh hw_X2) rfl (by decide) (tc_kx C).2.1 rfl dL_law_923 hW hw (fun x_923 hw => ?_)
          refine tr_aload (x := x_901) C hl 0 rfl dL_law_926 ?_
          refine tr_backI (tr_runVS (r := x_923) (As := [va_rf x_901]) C hl.1 (c_J0_equals_9ea2d l hll K _ x_923 x_901) (cwV 1 C.1.2.2.2.2 (gi_V (zm kw_686) (zm kw_687) (zm kw_688) (zm kw_456) (zm kw_685)) rfl rfl rfl (by decide +kernel) ⟨(Nat.le_of_ble_eq_true rfl), (Nat.le_of_ble_eq_true rfl)⟩) rfl rfl dL_law_928 ⟨(show ((nc + mc_889) + mc_901) + 0 ≤ 645934 by omega), (show ((ns + ms_889) + ms_901) + 0 ≤ 7158302 by omega)⟩ [] rfl (Nat.le_of_ble_eq_true rfl) rfl hW hS hw) hS (fun x_928 G_928 H locs hw hW hS => ?_)
          refine lv_if_ne (tgt := 936) C.1.1 C.1.2.1 dL_law_931 (by decide) (fun hc => ?_) (fun hc => ?_)
          · have hw := hw.1 hc
            exact s_L_law_936 C hr hX hbl hbA hA2 hcN hll k27 hk27 (((nc + mc_889) + mc_901)) (((ns + ms_889) + ms_901)) v1 v2 v3 v4 _ _ _ _ (show ((nc + mc_889) + mc_901) ≤ 645934 ∧ ((ns + ms_889) + ms_901) ≤ 7158302 by omega) hW hS (tl_sub hl [2, 3, 4, 5, 6] rfl) hw
          · have hw := hw.2 hc
            refine lv_iconst (v := (0 : Int32)) C.1.1 C.1.2.1 dL_law_934 (by decide) ?_
            exact tr_law C hr hA2 dL_law_935 (show ((nc + mc_889) + mc_901) ≤ 645934 by omega) (show ((ns + ms_889) + ms_901) ≤ 7158302 by omega) hS hw
      · have hw := hw.2 hc
        refine lv_iconst (v := (0 : Int32)) C.1.1 C.1.2.1 dL_law_915 (by decide) ?_
        exact tr_law C hr hA2 dL_law_916 (show ((nc + mc_889) + mc_901) ≤ 645934 by omega) (show ((ns + ms_889) + ms_901) ≤ 7158302 by omega) hS hw
    have hw := hw.2
    by_cases hc10 : (x_40 &&& (63 : Int32)) = (10 : Int32)
    · have hw := hw.1 hc10
      refine lv_tableIn (off := 895) (tgt := 939) C.1.1 C.1.2.1 dL_law_44 (by rw [hc10]; decide) (by rw [hc10]; decide) (by rw [hc10]; rfl) (by decide) ?_
      refine tr_aload_n (k := 1) (x := v1) C hl 0 rfl dL_law_939 ?_
      refine tr_aload_n (k := 0) (x := (some b)) C hl 4 rfl dL_law_940 ?_
      refine tr_iload (x := v4) C hl 3 rfl dL_law_941 ?_
      refine lv_iconst (v := (1 : Int32)) C.1.1 C.1.2.1 dL_law_943 (by decide) ?_
      refine lv_iadd C.1.1 C.1.2.1 dL_law_944 ?_
      refine tr_sld C hX hbl hbA hS dL_law_945 hw (fun x_945 hw => ?_)
      refine tr_aload_n (k := 0) (x := (some b)) C hl 4 rfl dL_law_946 ?_
      refine tr_iload (x := v4) C hl 3 rfl dL_law_947 ?_
      refine lv_iconst (v := (2 : Int32)) C.1.1 C.1.2.1 dL_law_949 (by decide) ?_
      refine lv_iadd C.1.1 C.1.2.1 dL_law_950 ?_
      refine tr_sld C hX hbl hbA hS dL_law_951 hw (fun x_951 hw => ?_)
      refine tr_aload_n (k := 3) (x := v3) C hl 2 rfl dL_law_952 ?_
      have hq13 := hw.1
      have hw := hw.2
      refine tx_backNI (tx_runSX (As := [va_rf v1, .int x_945, .int x_951, va_rf v3]) C hl.1 (c_L_indexOf l hll K _ v1 x_945 x_951 v3) (vx_cwSW 4 C.1.2.2.2.2 (gi_SX (zm kw_778) (zm kw_779) (zm kw_692) (zm kw_777)) rfl rfl rfl (by decide +kernel) ⟨(Nat.le_of_ble_eq_true rfl), (Nat.le_of_ble_eq_true rfl)⟩) rfl dL_law_953 ⟨hq13.1, hq13.2⟩ [] rfl (Nat.le_of_ble_eq_true rfl) rfl hW hS hw) hS (fun x_953 G_953 H locs hw hW hS => ?_)
      refine tr_istore (x := x_953) C hl [(5, .inl x_953), (1, .inr (.inr v1)), (2, .inr (.inr v2)), (3, .inr (.inr v3)), (4, .inl v4), (0, .inr (.inr (some b)))] (by decide) rfl dL_law_956 (fun ls hl => ?_)
      refine tr_aload_n (k := 2) (x := v2) C hl 2 rfl dL_law_958 ?_
      refine tr_aload_n (k := 0) (x := (some b)) C hl 5 rfl dL_law_959 ?_
      refine tr_iload (x := v4) C hl 4 rfl dL_law_960 ?_
      refine lv_iconst (v := (1 : Int32)) C.1.1 C.1.2.1 dL_law_962 (by decide) ?_
      refine lv_iadd C.1.1 C.1.2.1 dL_law_963 ?_
      refine tr_sld C hX hbl hbA hS dL_law_964 hw (fun x_964 hw => ?_)
      refine tr_aload_n (k := 0) (x := (some b)) C hl 5 rfl dL_law_965 ?_
      refine tr_iload (x := v4) C hl 4 rfl dL_law_966 ?_
      refine lv_iconst (v := (2 : Int32)) C.1.1 C.1.2.1 dL_law_968 (by decide) ?_
      refine lv_iadd C.1.1 C.1.2.1 dL_law_969 ?_
      refine tr_sld C hX hbl hbA hS dL_law_970 hw (fun x_970 hw => ?_)
      have hq14 := hw.1
      have hw := hw.2
      refine tr_backI (tr_runV (r := v2) (As := [.int x_964, .int x_970]) C hl.1 (c_X3_indexOf l hll K _ v2 x_964 x_970) (cwV 2 C.1.2.2.2.2 (gi_V (zm kw_781) (zm kw_782) (zm kw_783) (zm kw_155) (zm kw_780)) rfl rfl rfl (by decide +kernel) ⟨(Nat.le_of_ble_eq_true rfl), (Nat.le_of_ble_eq_true rfl)⟩) rfl rfl dL_law_971 ⟨hq14.1, hq14.2⟩ [] rfl (Nat.le_of_ble_eq_true rfl) rfl hW hS hw) hS (fun x_971 G_971 H locs hw hW hS => ?_)
      refine tr_istore (x := x_971) C hl [(6, .inl x_971), (5, .inl x_953), (1, .inr (.inr v1)), (2, .inr (.inr v2)), (3, .inr (.inr v3)), (4, .inl v4), (0, .inr (.inr (some b)))] (by decide) rfl dL_law_974 (fun ls hl => ?_)
      refine tr_aload_n (k := 2) (x := v2) C hl 3 rfl dL_law_976 ?_
      refine tr_backI (tr_runV (r := v2) (As := []) C hl.1 (c_X3_thrown l hll K _ v2) (cwV 0 C.1.2.2.2.2 (gi_V (zm kw_682) (zm kw_683) (zm kw_684) (zm kw_155) (zm kw_681)) rfl rfl rfl (by decide +kernel) ⟨(Nat.le_of_ble_eq_true rfl), (Nat.le_of_ble_eq_true rfl)⟩) rfl rfl dL_law_977 ⟨(show ((nc + 2) + 1) + 0 ≤ 645934 by omega), (show ((ns + 12) + 12) + 0 ≤ 7158302 by omega)⟩ [] rfl (Nat.le_of_ble_eq_true rfl) rfl hW hS hw) hS (fun x_977 G_977 H locs hw hW hS => ?_)
      refine tr_iload (x := x_953) C hl 1 rfl dL_law_980 ?_
      refine lv_icmp_eq (tgt := 987) C.1.1 C.1.2.1 dL_law_982 (by decide) (fun hc => ?_) (fun hc => ?_)
      · have hw := hw.1 hc
        refine tr_iload (x := x_953) C hl 1 rfl dL_law_987 ?_
        refine lv_if_ne (tgt := 1005) C.1.1 C.1.2.1 dL_law_989 (by decide) (fun hc => ?_) (fun hc => ?_)
        · have hw := hw.1 hc
          exact s_L_law_1005 C hr hX hbl hbA hA2 hcN hll k27 hk27 (((nc + 2) + 1)) (((ns + 12) + 12)) v1 v2 v3 v4 _ _ _ _ (show ((nc + 2) + 1) ≤ 645934 ∧ ((ns + 12) + 12) ≤ 7158302 by omega) hW hS (tl_sub hl [2, 3, 4, 5, 6] rfl) hw
        · have hw := hw.2 hc
          refine tr_aload_n (k := 3) (x := v3) C hl 4 rfl dL_law_992 ?_
          refine tr_gfLN (C0 := RX2) (T := TX2) (N := 2) (ci := 4) (ref := "TwinrowLaw$Out") (host := "TwinrowLaw") (k := 0) (r := v3) C (zh hw_X2) rfl (by decide) (tc_kx C).1 rfl dL_law_993 hW hw (fun x_993 hw => ?_)
          refine tr_iload (x := x_971) C hl 0 rfl dL_law_996 ?_
          refine lv_i2l (v := ((x_971).toInt64)) C.1.1 C.1.2.1 dL_law_998 rfl ?_
          refine W.lcmp C.1.1 C.1.2.1 dL_law_999 ?_
          refine lv_if_eq (tgt := 1005) C.1.1 C.1.2.1 dL_law_1000 (by decide) (fun hc => ?_) (fun hc => ?_)
          · have hw := hw.1 hc
            exact s_L_law_1005 C hr hX hbl hbA hA2 hcN hll k27 hk27 (((nc + 2) + 1)) (((ns + 12) + 12)) v1 v2 v3 v4 _ _ _ _ (show ((nc + 2) + 1) ≤ 645934 ∧ ((ns + 12) + 12) ≤ 7158302 by omega) hW hS (tl_sub hl [2, 3, 4, 5, 6] rfl) hw
          · have hw := hw.2 hc
            refine lv_iconst (v := (0 : Int32)) C.1.1 C.1.2.1 dL_law_1003 (by decide) ?_
            exact tr_law C hr hA2 dL_law_1004 (show ((nc + 2) + 1) ≤ 645934 by omega) (show ((ns + 12) + 12) ≤ 7158302 by omega) hS hw
      · have hw := hw.2 hc
        refine lv_iconst (v := (0 : Int32)) C.1.1 C.1.2.1 dL_law_985 (by decide) ?_
        exact tr_law C hr hA2 dL_law_986 (show ((nc + 2) + 1) ≤ 645934 by omega) (show ((ns + 12) + 12) ≤ 7158302 by omega) hS hw
    have hw := hw.2
    by_cases hc11 : (x_40 &&& (63 : Int32)) = (11 : Int32)
    · have hw := hw.1 hc11
      refine lv_tableIn (off := 964) (tgt := 1008) C.1.1 C.1.2.1 dL_law_44 (by rw [hc11]; decide) (by rw [hc11]; decide) (by rw [hc11]; rfl) (by decide) ?_
      refine tr_aload_n (k := 1) (x := v1) C hl 0 rfl dL_law_1008 ?_
      refine tr_aload_n (k := 0) (x := (some b)) C hl 4 rfl dL_law_1009 ?_
      refine tr_iload (x := v4) C hl 3 rfl dL_law_1010 ?_
      refine lv_iconst (v := (1 : Int32)) C.1.1 C.1.2.1 dL_law_1012 (by decide) ?_
      refine lv_iadd C.1.1 C.1.2.1 dL_law_1013 ?_
      refine tr_sld C hX hbl hbA hS dL_law_1014 hw (fun x_1014 hw => ?_)
      refine tr_aload_n (k := 0) (x := (some b)) C hl 4 rfl dL_law_1015 ?_
      refine tr_iload (x := v4) C hl 3 rfl dL_law_1016 ?_
      refine lv_iconst (v := (2 : Int32)) C.1.1 C.1.2.1 dL_law_1018 (by decide) ?_
      refine lv_iadd C.1.1 C.1.2.1 dL_law_1019 ?_
      refine tr_sld C hX hbl hbA hS dL_law_1020 hw (fun x_1020 hw => ?_)
      refine tr_aload_n (k := 3) (x := v3) C hl 2 rfl dL_law_1021 ?_
      have hq15 := hw.1
      have hw := hw.2
      refine tx_backNI (tx_runSX (As := [va_rf v1, .int x_1014, .int x_1020, va_rf v3]) C hl.1 (c_L_lastIndexOf l hll K _ v1 x_1014 x_1020 v3) (vx_cwSW 4 C.1.2.2.2.2 (gi_SX (zm kw_785) (zm kw_786) (zm kw_692) (zm kw_784)) rfl rfl rfl (by decide +kernel) ⟨(Nat.le_of_ble_eq_true rfl), (Nat.le_of_ble_eq_true rfl)⟩) rfl dL_law_1022 ⟨hq15.1, hq15.2⟩ [] rfl (Nat.le_of_ble_eq_true rfl) rfl hW hS hw) hS (fun x_1022 G_1022 H locs hw hW hS => ?_)
      refine tr_istore (x := x_1022) C hl [(5, .inl x_1022), (1, .inr (.inr v1)), (2, .inr (.inr v2)), (3, .inr (.inr v3)), (4, .inl v4), (0, .inr (.inr (some b)))] (by decide) rfl dL_law_1025 (fun ls hl => ?_)
      refine tr_aload_n (k := 2) (x := v2) C hl 2 rfl dL_law_1027 ?_
      refine tr_aload_n (k := 0) (x := (some b)) C hl 5 rfl dL_law_1028 ?_
      refine tr_iload (x := v4) C hl 4 rfl dL_law_1029 ?_
      refine lv_iconst (v := (1 : Int32)) C.1.1 C.1.2.1 dL_law_1031 (by decide) ?_
      refine lv_iadd C.1.1 C.1.2.1 dL_law_1032 ?_
      refine tr_sld C hX hbl hbA hS dL_law_1033 hw (fun x_1033 hw => ?_)
      refine tr_aload_n (k := 0) (x := (some b)) C hl 5 rfl dL_law_1034 ?_
      refine tr_iload (x := v4) C hl 4 rfl dL_law_1035 ?_
      refine lv_iconst (v := (2 : Int32)) C.1.1 C.1.2.1 dL_law_1037 (by decide) ?_
      refine lv_iadd C.1.1 C.1.2.1 dL_law_1038 ?_
      refine tr_sld C hX hbl hbA hS dL_law_1039 hw (fun x_1039 hw => ?_)
      refine tr_backI (tr_runV (r := v2) (As := [.int x_1033, .int x_1039]) C hl.1 (c_X3_lastIndexOf l hll K _ v2 x_1033 x_1039) (cwV 2 C.1.2.2.2.2 (gi_V (zm kw_788) (zm kw_789) (zm kw_790) (zm kw_155) (zm kw_787)) rfl rfl rfl (by decide +kernel) ⟨(Nat.le_of_ble_eq_true rfl), (Nat.le_of_ble_eq_true rfl)⟩) rfl rfl dL_law_1040 ⟨(show (nc + 2) + 0 ≤ 645934 by omega), (show (ns + 12) + 0 ≤ 7158302 by omega)⟩ [] rfl (Nat.le_of_ble_eq_true rfl) rfl hW hS hw) hS (fun x_1040 G_1040 H locs hw hW hS => ?_)
      refine tr_istore (x := x_1040) C hl [(6, .inl x_1040), (5, .inl x_1022), (1, .inr (.inr v1)), (2, .inr (.inr v2)), (3, .inr (.inr v3)), (4, .inl v4), (0, .inr (.inr (some b)))] (by decide) rfl dL_law_1043 (fun ls hl => ?_)
      refine tr_aload_n (k := 2) (x := v2) C hl 3 rfl dL_law_1045 ?_
      refine tr_backI (tr_runV (r := v2) (As := []) C hl.1 (c_X3_thrown l hll K _ v2) (cwV 0 C.1.2.2.2.2 (gi_V (zm kw_682) (zm kw_683) (zm kw_684) (zm kw_155) (zm kw_681)) rfl rfl rfl (by decide +kernel) ⟨(Nat.le_of_ble_eq_true rfl), (Nat.le_of_ble_eq_true rfl)⟩) rfl rfl dL_law_1046 ⟨(show (nc + 2) + 0 ≤ 645934 by omega), (show (ns + 12) + 0 ≤ 7158302 by omega)⟩ [] rfl (Nat.le_of_ble_eq_true rfl) rfl hW hS hw) hS (fun x_1046 G_1046 H locs hw hW hS => ?_)
      refine tr_iload (x := x_1022) C hl 1 rfl dL_law_1049 ?_
      refine lv_icmp_eq (tgt := 1056) C.1.1 C.1.2.1 dL_law_1051 (by decide) (fun hc => ?_) (fun hc => ?_)
      · have hw := hw.1 hc
        refine tr_iload (x := x_1022) C hl 1 rfl dL_law_1056 ?_
        refine lv_if_ne (tgt := 1074) C.1.1 C.1.2.1 dL_law_1058 (by decide) (fun hc => ?_) (fun hc => ?_)
        · have hw := hw.1 hc
          exact s_L_law_1074 C hr hX hbl hbA hA2 hcN hll k27 hk27 ((nc + 2)) ((ns + 12)) v1 v2 v3 v4 _ _ _ _ (show (nc + 2) ≤ 645934 ∧ (ns + 12) ≤ 7158302 by omega) hW hS (tl_sub hl [2, 3, 4, 5, 6] rfl) hw
        · have hw := hw.2 hc
          refine tr_aload_n (k := 3) (x := v3) C hl 4 rfl dL_law_1061 ?_
          refine tr_gfLN (C0 := RX2) (T := TX2) (N := 2) (ci := 4) (ref := "TwinrowLaw$Out") (host := "TwinrowLaw") (k := 0) (r := v3) C (zh hw_X2) rfl (by decide) (tc_kx C).1 rfl dL_law_1062 hW hw (fun x_1062 hw => ?_)
          refine tr_iload (x := x_1040) C hl 0 rfl dL_law_1065 ?_
          refine lv_i2l (v := ((x_1040).toInt64)) C.1.1 C.1.2.1 dL_law_1067 rfl ?_
          refine W.lcmp C.1.1 C.1.2.1 dL_law_1068 ?_
          refine lv_if_eq (tgt := 1074) C.1.1 C.1.2.1 dL_law_1069 (by decide) (fun hc => ?_) (fun hc => ?_)
          · have hw := hw.1 hc
            exact s_L_law_1074 C hr hX hbl hbA hA2 hcN hll k27 hk27 ((nc + 2)) ((ns + 12)) v1 v2 v3 v4 _ _ _ _ (show (nc + 2) ≤ 645934 ∧ (ns + 12) ≤ 7158302 by omega) hW hS (tl_sub hl [2, 3, 4, 5, 6] rfl) hw
          · have hw := hw.2 hc
            refine lv_iconst (v := (0 : Int32)) C.1.1 C.1.2.1 dL_law_1072 (by decide) ?_
            exact tr_law C hr hA2 dL_law_1073 (show (nc + 2) ≤ 645934 by omega) (show (ns + 12) ≤ 7158302 by omega) hS hw
      · have hw := hw.2 hc
        refine lv_iconst (v := (0 : Int32)) C.1.1 C.1.2.1 dL_law_1054 (by decide) ?_
        exact tr_law C hr hA2 dL_law_1055 (show (nc + 2) ≤ 645934 by omega) (show (ns + 12) ≤ 7158302 by omega) hS hw
    have hw := hw.2
    by_cases hc12 : (x_40 &&& (63 : Int32)) = (12 : Int32)
    · have hw := hw.1 hc12
      refine lv_tableIn (off := 1033) (tgt := 1077) C.1.1 C.1.2.1 dL_law_44 (by rw [hc12]; decide) (by rw [hc12]; decide) (by rw [hc12]; rfl) (by decide) ?_
      refine tr_aload_n (k := 1) (x := v1) C hl 0 rfl dL_law_1077 ?_
      refine tr_aload_n (k := 0) (x := (some b)) C hl 4 rfl dL_law_1078 ?_
      refine tr_iload (x := v4) C hl 3 rfl dL_law_1079 ?_
      refine lv_iconst (v := (1 : Int32)) C.1.1 C.1.2.1 dL_law_1081 (by decide) ?_
      refine lv_iadd C.1.1 C.1.2.1 dL_law_1082 ?_
      refine tr_sld C hX hbl hbA hS dL_law_1083 hw (fun x_1083 hw => ?_)
      refine tr_aload_n (k := 0) (x := (some b)) C hl 4 rfl dL_law_1084 ?_
      refine tr_iload (x := v4) C hl 3 rfl dL_law_1085 ?_
      refine lv_iconst (v := (2 : Int32)) C.1.1 C.1.2.1 dL_law_1087 (by decide) ?_
      refine lv_iadd C.1.1 C.1.2.1 dL_law_1088 ?_
      refine tr_sld C hX hbl hbA hS dL_law_1089 hw (fun x_1089 hw => ?_)
      refine tr_aload_n (k := 3) (x := v3) C hl 2 rfl dL_law_1090 ?_
      have hq16 := hw.1
      have hw := hw.2
      refine tx_backNI (tx_runSX (As := [va_rf v1, .int x_1083, .int x_1089, va_rf v3]) C hl.1 (c_L_has l hll K _ v1 x_1083 x_1089 v3) (vx_cwSW 4 C.1.2.2.2.2 (gi_SX (zm kw_792) (zm kw_793) (zm kw_692) (zm kw_791)) rfl rfl rfl (by decide +kernel) ⟨(Nat.le_of_ble_eq_true rfl), (Nat.le_of_ble_eq_true rfl)⟩) rfl dL_law_1091 ⟨hq16.1, hq16.2⟩ [] rfl (Nat.le_of_ble_eq_true rfl) rfl hW hS hw) hS (fun x_1091 G_1091 H locs hw hW hS => ?_)
      refine tr_istore (x := x_1091) C hl [(5, .inl x_1091), (1, .inr (.inr v1)), (2, .inr (.inr v2)), (3, .inr (.inr v3)), (4, .inl v4), (0, .inr (.inr (some b)))] (by decide) rfl dL_law_1094 (fun ls hl => ?_)
      refine tr_aload_n (k := 2) (x := v2) C hl 2 rfl dL_law_1096 ?_
      refine tr_aload_n (k := 0) (x := (some b)) C hl 5 rfl dL_law_1097 ?_
      refine tr_iload (x := v4) C hl 4 rfl dL_law_1098 ?_
      refine lv_iconst (v := (1 : Int32)) C.1.1 C.1.2.1 dL_law_1100 (by decide) ?_
      refine lv_iadd C.1.1 C.1.2.1 dL_law_1101 ?_
      refine tr_sld C hX hbl hbA hS dL_law_1102 hw (fun x_1102 hw => ?_)
      refine tr_aload_n (k := 0) (x := (some b)) C hl 5 rfl dL_law_1103 ?_
      refine tr_iload (x := v4) C hl 4 rfl dL_law_1104 ?_
      refine lv_iconst (v := (2 : Int32)) C.1.1 C.1.2.1 dL_law_1106 (by decide) ?_
      refine lv_iadd C.1.1 C.1.2.1 dL_law_1107 ?_
      refine tr_sld C hX hbl hbA hS dL_law_1108 hw (fun x_1108 hw => ?_)
      have hq17 := hw.1
      have hw := hw.2
      refine tr_backI (tr_runV (r := v2) (As := [.int x_1102, .int x_1108]) C hl.1 (c_X3_has l hll K _ v2 x_1102 x_1108) (cwV 2 C.1.2.2.2.2 (gi_V (zm kw_795) (zm kw_796) (zm kw_797) (zm kw_155) (zm kw_794)) rfl rfl rfl (by decide +kernel) ⟨(Nat.le_of_ble_eq_true rfl), (Nat.le_of_ble_eq_true rfl)⟩) rfl rfl dL_law_1109 ⟨hq17.1, hq17.2⟩ [] rfl (Nat.le_of_ble_eq_true rfl) rfl hW hS hw) hS (fun x_1109 G_1109 H locs hw hW hS => ?_)
      refine tr_istore (x := x_1109) C hl [(6, .inl x_1109), (5, .inl x_1091), (1, .inr (.inr v1)), (2, .inr (.inr v2)), (3, .inr (.inr v3)), (4, .inl v4), (0, .inr (.inr (some b)))] (by decide) rfl dL_law_1112 (fun ls hl => ?_)
      refine tr_aload_n (k := 2) (x := v2) C hl 3 rfl dL_law_1114 ?_
      refine tr_backI (tr_runV (r := v2) (As := []) C hl.1 (c_X3_thrown l hll K _ v2) (cwV 0 C.1.2.2.2.2 (gi_V (zm kw_682) (zm kw_683) (zm kw_684) (zm kw_155) (zm kw_681)) rfl rfl rfl (by decide +kernel) ⟨(Nat.le_of_ble_eq_true rfl), (Nat.le_of_ble_eq_true rfl)⟩) rfl rfl dL_law_1115 ⟨(show ((nc + 2) + 1) + 0 ≤ 645934 by omega), (show ((ns + 12) + 12) + 0 ≤ 7158302 by omega)⟩ [] rfl (Nat.le_of_ble_eq_true rfl) rfl hW hS hw) hS (fun x_1115 G_1115 H locs hw hW hS => ?_)
      refine tr_iload (x := x_1091) C hl 1 rfl dL_law_1118 ?_
      refine lv_icmp_eq (tgt := 1125) C.1.1 C.1.2.1 dL_law_1120 (by decide) (fun hc => ?_) (fun hc => ?_)
      · have hw := hw.1 hc
        refine tr_iload (x := x_1091) C hl 1 rfl dL_law_1125 ?_
        refine lv_if_ne (tgt := 1150) C.1.1 C.1.2.1 dL_law_1127 (by decide) (fun hc => ?_) (fun hc => ?_)
        · have hw := hw.1 hc
          exact s_L_law_1150 C hr hX hbl hbA hA2 hcN hll k27 hk27 (((nc + 2) + 1)) (((ns + 12) + 12)) v1 v2 v3 v4 _ _ _ _ (show ((nc + 2) + 1) ≤ 645934 ∧ ((ns + 12) + 12) ≤ 7158302 by omega) hW hS (tl_sub hl [2, 3, 4, 5, 6] rfl) hw
        · have hw := hw.2 hc
          refine tr_aload_n (k := 3) (x := v3) C hl 4 rfl dL_law_1130 ?_
          refine tr_gfLN (C0 := RX2) (T := TX2) (N := 2) (ci := 4) (ref := "TwinrowLaw$Out") (host := "TwinrowLaw") (k := 0) (r := v3) C (zh hw_X2) rfl (by decide) (tc_kx C).1 rfl dL_law_1131 hW hw (fun x_1131 hw => ?_)
          refine tr_iload (x := x_1109) C hl 0 rfl dL_law_1134 ?_
          refine lv_if_eq (tgt := 1143) C.1.1 C.1.2.1 dL_law_1136 (by decide) (fun hc => ?_) (fun hc => ?_)
          · have hw := hw.1 hc
            refine lv_lconst (v := (0 : Int64)) C.1.1 C.1.2.1 dL_law_1143 (by decide) ?_
            exact s_L_law_1144 C hr hX hbl hbA hA2 hcN hll k27 hk27 (((nc + 2) + 1)) (((ns + 12) + 12)) v1 v2 v3 v4 x_1131 ((0 : Int64)) _ _ _ _ (show ((nc + 2) + 1) ≤ 645934 ∧ ((ns + 12) + 12) ≤ 7158302 by omega) hW hS (tl_sub hl [2, 3, 4, 5, 6] rfl) hw
          · have hw := hw.2 hc
            refine lv_lconst (v := (1 : Int64)) C.1.1 C.1.2.1 dL_law_1139 (by decide) ?_
            refine lv_goto (tgt := 1144) C.1.1 C.1.2.1 dL_law_1140 (by decide) ?_
            exact s_L_law_1144 C hr hX hbl hbA hA2 hcN hll k27 hk27 (((nc + 2) + 1)) (((ns + 12) + 12)) v1 v2 v3 v4 x_1131 ((1 : Int64)) _ _ _ _ (show ((nc + 2) + 1) ≤ 645934 ∧ ((ns + 12) + 12) ≤ 7158302 by omega) hW hS (tl_sub hl [2, 3, 4, 5, 6] rfl) hw
      · have hw := hw.2 hc
        refine lv_iconst (v := (0 : Int32)) C.1.1 C.1.2.1 dL_law_1123 (by decide) ?_
        exact tr_law C hr hA2 dL_law_1124 (show ((nc + 2) + 1) ≤ 645934 by omega) (show ((ns + 12) + 12) ≤ 7158302 by omega) hS hw
    have hw := hw.2
    by_cases hc13 : (x_40 &&& (63 : Int32)) = (13 : Int32)
    · have hw := hw.1 hc13
      refine lv_tableIn (off := 1109) (tgt := 1153) C.1.1 C.1.2.1 dL_law_44 (by rw [hc13]; decide) (by rw [hc13]; decide) (by rw [hc13]; rfl) (by decide) ?_
      refine tr_aload_n (k := 1) (x := v1) C hl 0 rfl dL_law_1153 ?_
      refine tr_aload_n (k := 0) (x := (some b)) C hl 4 rfl dL_law_1154 ?_
      refine tr_iload (x := v4) C hl 3 rfl dL_law_1155 ?_
      refine lv_iconst (v := (1 : Int32)) C.1.1 C.1.2.1 dL_law_1157 (by decide) ?_
      refine lv_iadd C.1.1 C.1.2.1 dL_law_1158 ?_
      refine tr_sld C hX hbl hbA hS dL_law_1159 hw (fun x_1159 hw => ?_)
      refine tr_aload_n (k := 0) (x := (some b)) C hl 4 rfl dL_law_1160 ?_
      refine tr_iload (x := v4) C hl 3 rfl dL_law_1161 ?_
      refine lv_iconst (v := (2 : Int32)) C.1.1 C.1.2.1 dL_law_1163 (by decide) ?_
      refine lv_iadd C.1.1 C.1.2.1 dL_law_1164 ?_
      refine tr_sld C hX hbl hbA hS dL_law_1165 hw (fun x_1165 hw => ?_)
      refine tr_aload_n (k := 3) (x := v3) C hl 2 rfl dL_law_1166 ?_
      have hq18 := hw.1
      have hw := hw.2
      refine tx_backNI (tx_runSX (As := [va_rf v1, .int x_1159, .int x_1165, va_rf v3]) C hl.1 (c_L_often l hll K _ v1 x_1159 x_1165 v3) (vx_cwSW 4 C.1.2.2.2.2 (gi_SX (zm kw_799) (zm kw_800) (zm kw_692) (zm kw_798)) rfl rfl rfl (by decide +kernel) ⟨(Nat.le_of_ble_eq_true rfl), (Nat.le_of_ble_eq_true rfl)⟩) rfl dL_law_1167 ⟨hq18.1, hq18.2⟩ [] rfl (Nat.le_of_ble_eq_true rfl) rfl hW hS hw) hS (fun x_1167 G_1167 H locs hw hW hS => ?_)
      refine tr_istore (x := x_1167) C hl [(5, .inl x_1167), (1, .inr (.inr v1)), (2, .inr (.inr v2)), (3, .inr (.inr v3)), (4, .inl v4), (0, .inr (.inr (some b)))] (by decide) rfl dL_law_1170 (fun ls hl => ?_)
      refine tr_aload_n (k := 2) (x := v2) C hl 2 rfl dL_law_1172 ?_
      refine tr_aload_n (k := 0) (x := (some b)) C hl 5 rfl dL_law_1173 ?_
      refine tr_iload (x := v4) C hl 4 rfl dL_law_1174 ?_
      refine lv_iconst (v := (1 : Int32)) C.1.1 C.1.2.1 dL_law_1176 (by decide) ?_
      refine lv_iadd C.1.1 C.1.2.1 dL_law_1177 ?_
      refine tr_sld C hX hbl hbA hS dL_law_1178 hw (fun x_1178 hw => ?_)
      refine tr_aload_n (k := 0) (x := (some b)) C hl 5 rfl dL_law_1179 ?_
      refine tr_iload (x := v4) C hl 4 rfl dL_law_1180 ?_
      refine lv_iconst (v := (2 : Int32)) C.1.1 C.1.2.1 dL_law_1182 (by decide) ?_
      refine lv_iadd C.1.1 C.1.2.1 dL_law_1183 ?_
      refine tr_sld C hX hbl hbA hS dL_law_1184 hw (fun x_1184 hw => ?_)
      have hq19 := hw.1
      have hw := hw.2
      refine tr_backI (tr_runV (r := v2) (As := [.int x_1178, .int x_1184]) C hl.1 (c_X3_often l hll K _ v2 x_1178 x_1184) (cwV 2 C.1.2.2.2.2 (gi_V (zm kw_802) (zm kw_803) (zm kw_804) (zm kw_155) (zm kw_801)) rfl rfl rfl (by decide +kernel) ⟨(Nat.le_of_ble_eq_true rfl), (Nat.le_of_ble_eq_true rfl)⟩) rfl rfl dL_law_1185 ⟨hq19.1, hq19.2⟩ [] rfl (Nat.le_of_ble_eq_true rfl) rfl hW hS hw) hS (fun x_1185 G_1185 H locs hw hW hS => ?_)
      refine tr_istore (x := x_1185) C hl [(6, .inl x_1185), (5, .inl x_1167), (1, .inr (.inr v1)), (2, .inr (.inr v2)), (3, .inr (.inr v3)), (4, .inl v4), (0, .inr (.inr (some b)))] (by decide) rfl dL_law_1188 (fun ls hl => ?_)
      refine tr_aload_n (k := 2) (x := v2) C hl 3 rfl dL_law_1190 ?_
      refine tr_backI (tr_runV (r := v2) (As := []) C hl.1 (c_X3_thrown l hll K _ v2) (cwV 0 C.1.2.2.2.2 (gi_V (zm kw_682) (zm kw_683) (zm kw_684) (zm kw_155) (zm kw_681)) rfl rfl rfl (by decide +kernel) ⟨(Nat.le_of_ble_eq_true rfl), (Nat.le_of_ble_eq_true rfl)⟩) rfl rfl dL_law_1191 ⟨(show ((nc + 2) + 1) + 0 ≤ 645934 by omega), (show ((ns + 12) + 12) + 0 ≤ 7158302 by omega)⟩ [] rfl (Nat.le_of_ble_eq_true rfl) rfl hW hS hw) hS (fun x_1191 G_1191 H locs hw hW hS => ?_)
      refine tr_iload (x := x_1167) C hl 1 rfl dL_law_1194 ?_
      refine lv_icmp_eq (tgt := 1201) C.1.1 C.1.2.1 dL_law_1196 (by decide) (fun hc => ?_) (fun hc => ?_)
      · have hw := hw.1 hc
        refine tr_iload (x := x_1167) C hl 1 rfl dL_law_1201 ?_
        refine lv_if_ne (tgt := 1219) C.1.1 C.1.2.1 dL_law_1203 (by decide) (fun hc => ?_) (fun hc => ?_)
        · have hw := hw.1 hc
          exact s_L_law_1219 C hr hX hbl hbA hA2 hcN hll k27 hk27 (((nc + 2) + 1)) (((ns + 12) + 12)) v1 v2 v3 v4 _ _ _ _ (show ((nc + 2) + 1) ≤ 645934 ∧ ((ns + 12) + 12) ≤ 7158302 by omega) hW hS (tl_sub hl [2, 3, 4, 5, 6] rfl) hw
        · have hw := hw.2 hc
          refine tr_aload_n (k := 3) (x := v3) C hl 4 rfl dL_law_1206 ?_
          refine tr_gfLN (C0 := RX2) (T := TX2) (N := 2) (ci := 4) (ref := "TwinrowLaw$Out") (host := "TwinrowLaw") (k := 0) (r := v3) C (zh hw_X2) rfl (by decide) (tc_kx C).1 rfl dL_law_1207 hW hw (fun x_1207 hw => ?_)
          refine tr_iload (x := x_1185) C hl 0 rfl dL_law_1210 ?_
          refine lv_i2l (v := ((x_1185).toInt64)) C.1.1 C.1.2.1 dL_law_1212 rfl ?_
          refine W.lcmp C.1.1 C.1.2.1 dL_law_1213 ?_
          refine lv_if_eq (tgt := 1219) C.1.1 C.1.2.1 dL_law_1214 (by decide) (fun hc => ?_) (fun hc => ?_)
          · have hw := hw.1 hc
            exact s_L_law_1219 C hr hX hbl hbA hA2 hcN hll k27 hk27 (((nc + 2) + 1)) (((ns + 12) + 12)) v1 v2 v3 v4 _ _ _ _ (show ((nc + 2) + 1) ≤ 645934 ∧ ((ns + 12) + 12) ≤ 7158302 by omega) hW hS (tl_sub hl [2, 3, 4, 5, 6] rfl) hw
          · have hw := hw.2 hc
            refine lv_iconst (v := (0 : Int32)) C.1.1 C.1.2.1 dL_law_1217 (by decide) ?_
            exact tr_law C hr hA2 dL_law_1218 (show ((nc + 2) + 1) ≤ 645934 by omega) (show ((ns + 12) + 12) ≤ 7158302 by omega) hS hw
      · have hw := hw.2 hc
        refine lv_iconst (v := (0 : Int32)) C.1.1 C.1.2.1 dL_law_1199 (by decide) ?_
        exact tr_law C hr hA2 dL_law_1200 (show ((nc + 2) + 1) ≤ 645934 by omega) (show ((ns + 12) + 12) ≤ 7158302 by omega) hS hw
    have hw := hw.2
    by_cases hc14 : (x_40 &&& (63 : Int32)) = (14 : Int32)
    · have hw := hw.1 hc14
      refine lv_tableIn (off := 1178) (tgt := 1222) C.1.1 C.1.2.1 dL_law_44 (by rw [hc14]; decide) (by rw [hc14]; decide) (by rw [hc14]; rfl) (by decide) ?_
      refine tr_aload_n (k := 1) (x := v1) C hl 0 rfl dL_law_1222 ?_
      refine tr_aload_n (k := 0) (x := (some b)) C hl 4 rfl dL_law_1223 ?_
      refine tr_iload (x := v4) C hl 3 rfl dL_law_1224 ?_
      refine lv_iconst (v := (1 : Int32)) C.1.1 C.1.2.1 dL_law_1226 (by decide) ?_
      refine lv_iadd C.1.1 C.1.2.1 dL_law_1227 ?_
      refine tr_sld C hX hbl hbA hS dL_law_1228 hw (fun x_1228 hw => ?_)
      refine tr_aload_n (k := 0) (x := (some b)) C hl 4 rfl dL_law_1229 ?_
      refine tr_iload (x := v4) C hl 3 rfl dL_law_1230 ?_
      refine lv_iconst (v := (2 : Int32)) C.1.1 C.1.2.1 dL_law_1232 (by decide) ?_
      refine lv_iadd C.1.1 C.1.2.1 dL_law_1233 ?_
      refine tr_sld C hX hbl hbA hS dL_law_1234 hw (fun x_1234 hw => ?_)
      refine tr_aload_n (k := 3) (x := v3) C hl 2 rfl dL_law_1235 ?_
      have hq20 := hw.1
      have hw := hw.2
      refine tx_backNI (tx_runSX (As := [va_rf v1, .int x_1228, .int x_1234, va_rf v3]) C hl.1 (c_L_hasAll l hll K _ v1 x_1228 x_1234 v3) (vx_cwSW 4 C.1.2.2.2.2 (gi_SX (zm kw_806) (zm kw_807) (zm kw_692) (zm kw_805)) rfl rfl rfl (by decide +kernel) ⟨(Nat.le_of_ble_eq_true rfl), (Nat.le_of_ble_eq_true rfl)⟩) rfl dL_law_1236 ⟨hq20.1, hq20.2⟩ [] rfl (Nat.le_of_ble_eq_true rfl) rfl hW hS hw) hS (fun x_1236 G_1236 H locs hw hW hS => ?_)
      refine tr_istore (x := x_1236) C hl [(5, .inl x_1236), (1, .inr (.inr v1)), (2, .inr (.inr v2)), (3, .inr (.inr v3)), (4, .inl v4), (0, .inr (.inr (some b)))] (by decide) rfl dL_law_1239 (fun ls hl => ?_)
      refine tr_aload_n (k := 2) (x := v2) C hl 2 rfl dL_law_1241 ?_
      refine tr_aload_n (k := 0) (x := (some b)) C hl 5 rfl dL_law_1242 ?_
      refine tr_iload (x := v4) C hl 4 rfl dL_law_1243 ?_
      refine lv_iconst (v := (1 : Int32)) C.1.1 C.1.2.1 dL_law_1245 (by decide) ?_
      refine lv_iadd C.1.1 C.1.2.1 dL_law_1246 ?_
      refine tr_sld C hX hbl hbA hS dL_law_1247 hw (fun x_1247 hw => ?_)
      refine tr_aload_n (k := 0) (x := (some b)) C hl 5 rfl dL_law_1248 ?_
      refine tr_iload (x := v4) C hl 4 rfl dL_law_1249 ?_
      refine lv_iconst (v := (2 : Int32)) C.1.1 C.1.2.1 dL_law_1251 (by decide) ?_
      refine lv_iadd C.1.1 C.1.2.1 dL_law_1252 ?_
      refine tr_sld C hX hbl hbA hS dL_law_1253 hw (fun x_1253 hw => ?_)
      have hq21 := hw.1
      have hw := hw.2
      refine tr_backI (tr_runV (r := v2) (As := [.int x_1247, .int x_1253]) C hl.1 (c_X3_hasAll l hll K _ v2 x_1247 x_1253) (cwV 2 C.1.2.2.2.2 (gi_V (zm kw_809) (zm kw_810) (zm kw_811) (zm kw_155) (zm kw_808)) rfl rfl rfl (by decide +kernel) ⟨(Nat.le_of_ble_eq_true rfl), (Nat.le_of_ble_eq_true rfl)⟩) rfl rfl dL_law_1254 ⟨hq21.1, hq21.2⟩ [] rfl (Nat.le_of_ble_eq_true rfl) rfl hW hS hw) hS (fun x_1254 G_1254 H locs hw hW hS => ?_)
      refine tr_istore (x := x_1254) C hl [(6, .inl x_1254), (5, .inl x_1236), (1, .inr (.inr v1)), (2, .inr (.inr v2)), (3, .inr (.inr v3)), (4, .inl v4), (0, .inr (.inr (some b)))] (by decide) rfl dL_law_1257 (fun ls hl => ?_)
      refine tr_aload_n (k := 2) (x := v2) C hl 3 rfl dL_law_1259 ?_
      refine tr_backI (tr_runV (r := v2) (As := []) C hl.1 (c_X3_thrown l hll K _ v2) (cwV 0 C.1.2.2.2.2 (gi_V (zm kw_682) (zm kw_683) (zm kw_684) (zm kw_155) (zm kw_681)) rfl rfl rfl (by decide +kernel) ⟨(Nat.le_of_ble_eq_true rfl), (Nat.le_of_ble_eq_true rfl)⟩) rfl rfl dL_law_1260 ⟨(show ((nc + 2) + 13) + 0 ≤ 645934 by omega), (show ((ns + 12) + 156) + 0 ≤ 7158302 by omega)⟩ [] rfl (Nat.le_of_ble_eq_true rfl) rfl hW hS hw) hS (fun x_1260 G_1260 H locs hw hW hS => ?_)
      refine tr_iload (x := x_1236) C hl 1 rfl dL_law_1263 ?_
      refine lv_icmp_eq (tgt := 1270) C.1.1 C.1.2.1 dL_law_1265 (by decide) (fun hc => ?_) (fun hc => ?_)
      · have hw := hw.1 hc
        refine tr_iload (x := x_1236) C hl 1 rfl dL_law_1270 ?_
        refine lv_if_ne (tgt := 1295) C.1.1 C.1.2.1 dL_law_1272 (by decide) (fun hc => ?_) (fun hc => ?_)
        · have hw := hw.1 hc
          exact s_L_law_1295 C hr hX hbl hbA hA2 hcN hll k27 hk27 (((nc + 2) + 13)) (((ns + 12) + 156)) v1 v2 v3 v4 _ _ _ _ (show ((nc + 2) + 13) ≤ 645934 ∧ ((ns + 12) + 156) ≤ 7158302 by omega) hW hS (tl_sub hl [2, 3, 4, 5, 6] rfl) hw
        · have hw := hw.2 hc
          refine tr_aload_n (k := 3) (x := v3) C hl 4 rfl dL_law_1275 ?_
          refine tr_gfLN (C0 := RX2) (T := TX2) (N := 2) (ci := 4) (ref := "TwinrowLaw$Out") (host := "TwinrowLaw") (k := 0) (r := v3) C (zh hw_X2) rfl (by decide) (tc_kx C).1 rfl dL_law_1276 hW hw (fun x_1276 hw => ?_)
          refine tr_iload (x := x_1254) C hl 0 rfl dL_law_1279 ?_
          refine lv_if_eq (tgt := 1288) C.1.1 C.1.2.1 dL_law_1281 (by decide) (fun hc => ?_) (fun hc => ?_)
          · have hw := hw.1 hc
            refine lv_lconst (v := (0 : Int64)) C.1.1 C.1.2.1 dL_law_1288 (by decide) ?_
            exact s_L_law_1289 C hr hX hbl hbA hA2 hcN hll k27 hk27 (((nc + 2) + 13)) (((ns + 12) + 156)) v1 v2 v3 v4 x_1276 ((0 : Int64)) _ _ _ _ (show ((nc + 2) + 13) ≤ 645934 ∧ ((ns + 12) + 156) ≤ 7158302 by omega) hW hS (tl_sub hl [2, 3, 4, 5, 6] rfl) hw
          · have hw := hw.2 hc
            refine lv_lconst (v := (1 : Int64)) C.1.1 C.1.2.1 dL_law_1284 (by decide) ?_
            refine lv_goto (tgt := 1289) C.1.1 C.1.2.1 dL_law_1285 (by decide) ?_
            exact s_L_law_1289 C hr hX hbl hbA hA2 hcN hll k27 hk27 (((nc + 2) + 13)) (((ns + 12) + 156)) v1 v2 v3 v4 x_1276 ((1 : Int64)) _ _ _ _ (show ((nc + 2) + 13) ≤ 645934 ∧ ((ns + 12) + 156) ≤ 7158302 by omega) hW hS (tl_sub hl [2, 3, 4, 5, 6] rfl) hw
      · have hw := hw.2 hc
        refine lv_iconst (v := (0 : Int32)) C.1.1 C.1.2.1 dL_law_1268 (by decide) ?_
        exact tr_law C hr hA2 dL_law_1269 (show ((nc + 2) + 13) ≤ 645934 by omega) (show ((ns + 12) + 156) ≤ 7158302 by omega) hS hw
    have hw := hw.2
    by_cases hc15 : (x_40 &&& (63 : Int32)) = (15 : Int32)
    · have hw := hw.1 hc15
      refine lv_tableIn (off := 1254) (tgt := 1298) C.1.1 C.1.2.1 dL_law_44 (by rw [hc15]; decide) (by rw [hc15]; decide) (by rw [hc15]; rfl) (by decide) ?_
      refine tr_aload_n (k := 1) (x := v1) C hl 0 rfl dL_law_1298 ?_
      refine tr_aload_n (k := 0) (x := (some b)) C hl 4 rfl dL_law_1299 ?_
      refine tr_iload (x := v4) C hl 3 rfl dL_law_1300 ?_
      refine lv_iconst (v := (1 : Int32)) C.1.1 C.1.2.1 dL_law_1302 (by decide) ?_
      refine lv_iadd C.1.1 C.1.2.1 dL_law_1303 ?_
      refine tr_sld C hX hbl hbA hS dL_law_1304 hw (fun x_1304 hw => ?_)
      refine tr_aload_n (k := 0) (x := (some b)) C hl 4 rfl dL_law_1305 ?_
      refine tr_iload (x := v4) C hl 3 rfl dL_law_1306 ?_
      refine lv_iconst (v := (2 : Int32)) C.1.1 C.1.2.1 dL_law_1308 (by decide) ?_
      refine lv_iadd C.1.1 C.1.2.1 dL_law_1309 ?_
      refine tr_sld C hX hbl hbA hS dL_law_1310 hw (fun x_1310 hw => ?_)
      refine tr_aload_n (k := 3) (x := v3) C hl 2 rfl dL_law_1311 ?_
      have hq22 := hw.1
      have hw := hw.2
      refine tx_backNI (tx_runSX (As := [va_rf v1, .int x_1304, .int x_1310, va_rf v3]) C hl.1 (c_L_areApart l hll K _ v1 x_1304 x_1310 v3) (vx_cwSW 4 C.1.2.2.2.2 (gi_SX (zm kw_813) (zm kw_814) (zm kw_692) (zm kw_812)) rfl rfl rfl (by decide +kernel) ⟨(Nat.le_of_ble_eq_true rfl), (Nat.le_of_ble_eq_true rfl)⟩) rfl dL_law_1312 ⟨hq22.1, hq22.2⟩ [] rfl (Nat.le_of_ble_eq_true rfl) rfl hW hS hw) hS (fun x_1312 G_1312 H locs hw hW hS => ?_)
      refine tr_istore (x := x_1312) C hl [(5, .inl x_1312), (1, .inr (.inr v1)), (2, .inr (.inr v2)), (3, .inr (.inr v3)), (4, .inl v4), (0, .inr (.inr (some b)))] (by decide) rfl dL_law_1315 (fun ls hl => ?_)
      refine tr_aload_n (k := 2) (x := v2) C hl 2 rfl dL_law_1317 ?_
      refine tr_aload_n (k := 0) (x := (some b)) C hl 5 rfl dL_law_1318 ?_
      refine tr_iload (x := v4) C hl 4 rfl dL_law_1319 ?_
      refine lv_iconst (v := (1 : Int32)) C.1.1 C.1.2.1 dL_law_1321 (by decide) ?_
      refine lv_iadd C.1.1 C.1.2.1 dL_law_1322 ?_
      refine tr_sld C hX hbl hbA hS dL_law_1323 hw (fun x_1323 hw => ?_)
      refine tr_aload_n (k := 0) (x := (some b)) C hl 5 rfl dL_law_1324 ?_
      refine tr_iload (x := v4) C hl 4 rfl dL_law_1325 ?_
      refine lv_iconst (v := (2 : Int32)) C.1.1 C.1.2.1 dL_law_1327 (by decide) ?_
      refine lv_iadd C.1.1 C.1.2.1 dL_law_1328 ?_
      refine tr_sld C hX hbl hbA hS dL_law_1329 hw (fun x_1329 hw => ?_)
      have hq23 := hw.1
      have hw := hw.2
      refine tr_backI (tr_runV (r := v2) (As := [.int x_1323, .int x_1329]) C hl.1 (c_X3_areApart l hll K _ v2 x_1323 x_1329) (cwV 2 C.1.2.2.2.2 (gi_V (zm kw_816) (zm kw_817) (zm kw_818) (zm kw_155) (zm kw_815)) rfl rfl rfl (by decide +kernel) ⟨(Nat.le_of_ble_eq_true rfl), (Nat.le_of_ble_eq_true rfl)⟩) rfl rfl dL_law_1330 ⟨hq23.1, hq23.2⟩ [] rfl (Nat.le_of_ble_eq_true rfl) rfl hW hS hw) hS (fun x_1330 G_1330 H locs hw hW hS => ?_)
      refine tr_istore (x := x_1330) C hl [(6, .inl x_1330), (5, .inl x_1312), (1, .inr (.inr v1)), (2, .inr (.inr v2)), (3, .inr (.inr v3)), (4, .inl v4), (0, .inr (.inr (some b)))] (by decide) rfl dL_law_1333 (fun ls hl => ?_)
      refine tr_aload_n (k := 2) (x := v2) C hl 3 rfl dL_law_1335 ?_
      refine tr_backI (tr_runV (r := v2) (As := []) C hl.1 (c_X3_thrown l hll K _ v2) (cwV 0 C.1.2.2.2.2 (gi_V (zm kw_682) (zm kw_683) (zm kw_684) (zm kw_155) (zm kw_681)) rfl rfl rfl (by decide +kernel) ⟨(Nat.le_of_ble_eq_true rfl), (Nat.le_of_ble_eq_true rfl)⟩) rfl rfl dL_law_1336 ⟨(show ((nc + 2) + 13) + 0 ≤ 645934 by omega), (show ((ns + 12) + 156) + 0 ≤ 7158302 by omega)⟩ [] rfl (Nat.le_of_ble_eq_true rfl) rfl hW hS hw) hS (fun x_1336 G_1336 H locs hw hW hS => ?_)
      refine tr_iload (x := x_1312) C hl 1 rfl dL_law_1339 ?_
      refine lv_icmp_eq (tgt := 1346) C.1.1 C.1.2.1 dL_law_1341 (by decide) (fun hc => ?_) (fun hc => ?_)
      · have hw := hw.1 hc
        refine tr_iload (x := x_1312) C hl 1 rfl dL_law_1346 ?_
        refine lv_if_ne (tgt := 1371) C.1.1 C.1.2.1 dL_law_1348 (by decide) (fun hc => ?_) (fun hc => ?_)
        · have hw := hw.1 hc
          exact s_L_law_1371 C hr hX hbl hbA hA2 hcN hll k27 hk27 (((nc + 2) + 13)) (((ns + 12) + 156)) v1 v2 v3 v4 _ _ _ _ (show ((nc + 2) + 13) ≤ 645934 ∧ ((ns + 12) + 156) ≤ 7158302 by omega) hW hS (tl_sub hl [2, 3, 4, 5, 6] rfl) hw
        · have hw := hw.2 hc
          refine tr_aload_n (k := 3) (x := v3) C hl 4 rfl dL_law_1351 ?_
          refine tr_gfLN (C0 := RX2) (T := TX2) (N := 2) (ci := 4) (ref := "TwinrowLaw$Out") (host := "TwinrowLaw") (k := 0) (r := v3) C (zh hw_X2) rfl (by decide) (tc_kx C).1 rfl dL_law_1352 hW hw (fun x_1352 hw => ?_)
          refine tr_iload (x := x_1330) C hl 0 rfl dL_law_1355 ?_
          refine lv_if_eq (tgt := 1364) C.1.1 C.1.2.1 dL_law_1357 (by decide) (fun hc => ?_) (fun hc => ?_)
          · have hw := hw.1 hc
            refine lv_lconst (v := (0 : Int64)) C.1.1 C.1.2.1 dL_law_1364 (by decide) ?_
            exact s_L_law_1365 C hr hX hbl hbA hA2 hcN hll k27 hk27 (((nc + 2) + 13)) (((ns + 12) + 156)) v1 v2 v3 v4 x_1352 ((0 : Int64)) _ _ _ _ (show ((nc + 2) + 13) ≤ 645934 ∧ ((ns + 12) + 156) ≤ 7158302 by omega) hW hS (tl_sub hl [2, 3, 4, 5, 6] rfl) hw
          · have hw := hw.2 hc
            refine lv_lconst (v := (1 : Int64)) C.1.1 C.1.2.1 dL_law_1360 (by decide) ?_
            refine lv_goto (tgt := 1365) C.1.1 C.1.2.1 dL_law_1361 (by decide) ?_
            exact s_L_law_1365 C hr hX hbl hbA hA2 hcN hll k27 hk27 (((nc + 2) + 13)) (((ns + 12) + 156)) v1 v2 v3 v4 x_1352 ((1 : Int64)) _ _ _ _ (show ((nc + 2) + 13) ≤ 645934 ∧ ((ns + 12) + 156) ≤ 7158302 by omega) hW hS (tl_sub hl [2, 3, 4, 5, 6] rfl) hw
      · have hw := hw.2 hc
        refine lv_iconst (v := (0 : Int32)) C.1.1 C.1.2.1 dL_law_1344 (by decide) ?_
        exact tr_law C hr hA2 dL_law_1345 (show ((nc + 2) + 13) ≤ 645934 by omega) (show ((ns + 12) + 156) ≤ 7158302 by omega) hS hw
    have hw := hw.2
    by_cases hc16 : (x_40 &&& (63 : Int32)) = (16 : Int32)
    · have hw := hw.1 hc16
      refine lv_tableIn (off := 1330) (tgt := 1374) C.1.1 C.1.2.1 dL_law_44 (by rw [hc16]; decide) (by rw [hc16]; decide) (by rw [hc16]; rfl) (by decide) ?_
      refine tr_aload_n (k := 1) (x := v1) C hl 0 rfl dL_law_1374 ?_
      refine tr_aload_n (k := 0) (x := (some b)) C hl 4 rfl dL_law_1375 ?_
      refine tr_iload (x := v4) C hl 3 rfl dL_law_1376 ?_
      refine lv_iconst (v := (1 : Int32)) C.1.1 C.1.2.1 dL_law_1378 (by decide) ?_
      refine lv_iadd C.1.1 C.1.2.1 dL_law_1379 ?_
      refine tr_sld C hX hbl hbA hS dL_law_1380 hw (fun x_1380 hw => ?_)
      refine tr_aload_n (k := 0) (x := (some b)) C hl 4 rfl dL_law_1381 ?_
      refine tr_iload (x := v4) C hl 3 rfl dL_law_1382 ?_
      refine lv_iconst (v := (2 : Int32)) C.1.1 C.1.2.1 dL_law_1384 (by decide) ?_
      refine lv_iadd C.1.1 C.1.2.1 dL_law_1385 ?_
      refine tr_sld C hX hbl hbA hS dL_law_1386 hw (fun x_1386 hw => ?_)
      refine tr_aload_n (k := 3) (x := v3) C hl 2 rfl dL_law_1387 ?_
      have hq24 := hw.1
      have hw := hw.2
      refine tx_backNI (tx_runSX (As := [va_rf v1, .int x_1380, .int x_1386, va_rf v3]) C hl.1 (c_L_indexOfAll l hll K _ v1 x_1380 x_1386 v3) (vx_cwSW 4 C.1.2.2.2.2 (gi_SX (zm kw_820) (zm kw_821) (zm kw_692) (zm kw_819)) rfl rfl rfl (by decide +kernel) ⟨(Nat.le_of_ble_eq_true rfl), (Nat.le_of_ble_eq_true rfl)⟩) rfl dL_law_1388 ⟨hq24.1, hq24.2⟩ [] rfl (Nat.le_of_ble_eq_true rfl) rfl hW hS hw) hS (fun x_1388 G_1388 H locs hw hW hS => ?_)
      refine tr_istore (x := x_1388) C hl [(5, .inl x_1388), (1, .inr (.inr v1)), (2, .inr (.inr v2)), (3, .inr (.inr v3)), (4, .inl v4), (0, .inr (.inr (some b)))] (by decide) rfl dL_law_1391 (fun ls hl => ?_)
      refine tr_aload_n (k := 2) (x := v2) C hl 2 rfl dL_law_1393 ?_
      refine tr_aload_n (k := 0) (x := (some b)) C hl 5 rfl dL_law_1394 ?_
      refine tr_iload (x := v4) C hl 4 rfl dL_law_1395 ?_
      refine lv_iconst (v := (1 : Int32)) C.1.1 C.1.2.1 dL_law_1397 (by decide) ?_
      refine lv_iadd C.1.1 C.1.2.1 dL_law_1398 ?_
      refine tr_sld C hX hbl hbA hS dL_law_1399 hw (fun x_1399 hw => ?_)
      refine tr_aload_n (k := 0) (x := (some b)) C hl 5 rfl dL_law_1400 ?_
      refine tr_iload (x := v4) C hl 4 rfl dL_law_1401 ?_
      refine lv_iconst (v := (2 : Int32)) C.1.1 C.1.2.1 dL_law_1403 (by decide) ?_
      refine lv_iadd C.1.1 C.1.2.1 dL_law_1404 ?_
      refine tr_sld C hX hbl hbA hS dL_law_1405 hw (fun x_1405 hw => ?_)
      have hq25 := hw.1
      have hw := hw.2
      refine tr_backI (tr_runV (r := v2) (As := [.int x_1399, .int x_1405]) C hl.1 (c_X3_indexOfAll l hll K _ v2 x_1399 x_1405) (cwV 2 C.1.2.2.2.2 (gi_V (zm kw_823) (zm kw_824) (zm kw_825) (zm kw_155) (zm kw_822)) rfl rfl rfl (by decide +kernel) ⟨(Nat.le_of_ble_eq_true rfl), (Nat.le_of_ble_eq_true rfl)⟩) rfl rfl dL_law_1406 ⟨hq25.1, hq25.2⟩ [] rfl (Nat.le_of_ble_eq_true rfl) rfl hW hS hw) hS (fun x_1406 G_1406 H locs hw hW hS => ?_)
      refine tr_istore (x := x_1406) C hl [(6, .inl x_1406), (5, .inl x_1388), (1, .inr (.inr v1)), (2, .inr (.inr v2)), (3, .inr (.inr v3)), (4, .inl v4), (0, .inr (.inr (some b)))] (by decide) rfl dL_law_1409 (fun ls hl => ?_)
      refine tr_aload_n (k := 2) (x := v2) C hl 3 rfl dL_law_1411 ?_
      refine tr_backI (tr_runV (r := v2) (As := []) C hl.1 (c_X3_thrown l hll K _ v2) (cwV 0 C.1.2.2.2.2 (gi_V (zm kw_682) (zm kw_683) (zm kw_684) (zm kw_155) (zm kw_681)) rfl rfl rfl (by decide +kernel) ⟨(Nat.le_of_ble_eq_true rfl), (Nat.le_of_ble_eq_true rfl)⟩) rfl rfl dL_law_1412 ⟨(show ((nc + 2) + 26) + 0 ≤ 645934 by omega), (show ((ns + 12) + 312) + 0 ≤ 7158302 by omega)⟩ [] rfl (Nat.le_of_ble_eq_true rfl) rfl hW hS hw) hS (fun x_1412 G_1412 H locs hw hW hS => ?_)
      refine tr_iload (x := x_1388) C hl 1 rfl dL_law_1415 ?_
      refine lv_icmp_eq (tgt := 1422) C.1.1 C.1.2.1 dL_law_1417 (by decide) (fun hc => ?_) (fun hc => ?_)
      · have hw := hw.1 hc
        refine tr_iload (x := x_1388) C hl 1 rfl dL_law_1422 ?_
        refine lv_if_ne (tgt := 1440) C.1.1 C.1.2.1 dL_law_1424 (by decide) (fun hc => ?_) (fun hc => ?_)
        · have hw := hw.1 hc
          exact s_L_law_1440 C hr hX hbl hbA hA2 hcN hll k27 hk27 (((nc + 2) + 26)) (((ns + 12) + 312)) v1 v2 v3 v4 _ _ _ _ (show ((nc + 2) + 26) ≤ 645934 ∧ ((ns + 12) + 312) ≤ 7158302 by omega) hW hS (tl_sub hl [2, 3, 4, 5, 6] rfl) hw
        · have hw := hw.2 hc
          refine tr_aload_n (k := 3) (x := v3) C hl 4 rfl dL_law_1427 ?_
          refine tr_gfLN (C0 := RX2) (T := TX2) (N := 2) (ci := 4) (ref := "TwinrowLaw$Out") (host := "TwinrowLaw") (k := 0) (r := v3) C (zh hw_X2) rfl (by decide) (tc_kx C).1 rfl dL_law_1428 hW hw (fun x_1428 hw => ?_)
          refine tr_iload (x := x_1406) C hl 0 rfl dL_law_1431 ?_
          refine lv_i2l (v := ((x_1406).toInt64)) C.1.1 C.1.2.1 dL_law_1433 rfl ?_
          refine W.lcmp C.1.1 C.1.2.1 dL_law_1434 ?_
          refine lv_if_eq (tgt := 1440) C.1.1 C.1.2.1 dL_law_1435 (by decide) (fun hc => ?_) (fun hc => ?_)
          · have hw := hw.1 hc
            exact s_L_law_1440 C hr hX hbl hbA hA2 hcN hll k27 hk27 (((nc + 2) + 26)) (((ns + 12) + 312)) v1 v2 v3 v4 _ _ _ _ (show ((nc + 2) + 26) ≤ 645934 ∧ ((ns + 12) + 312) ≤ 7158302 by omega) hW hS (tl_sub hl [2, 3, 4, 5, 6] rfl) hw
          · have hw := hw.2 hc
            refine lv_iconst (v := (0 : Int32)) C.1.1 C.1.2.1 dL_law_1438 (by decide) ?_
            exact tr_law C hr hA2 dL_law_1439 (show ((nc + 2) + 26) ≤ 645934 by omega) (show ((ns + 12) + 312) ≤ 7158302 by omega) hS hw
      · have hw := hw.2 hc
        refine lv_iconst (v := (0 : Int32)) C.1.1 C.1.2.1 dL_law_1420 (by decide) ?_
        exact tr_law C hr hA2 dL_law_1421 (show ((nc + 2) + 26) ≤ 645934 by omega) (show ((ns + 12) + 312) ≤ 7158302 by omega) hS hw
    have hw := hw.2
    by_cases hc17 : (x_40 &&& (63 : Int32)) = (17 : Int32)
    · have hw := hw.1 hc17
      refine lv_tableIn (off := 1399) (tgt := 1443) C.1.1 C.1.2.1 dL_law_44 (by rw [hc17]; decide) (by rw [hc17]; decide) (by rw [hc17]; rfl) (by decide) ?_
      refine tr_aload_n (k := 1) (x := v1) C hl 0 rfl dL_law_1443 ?_
      refine tr_aload_n (k := 0) (x := (some b)) C hl 4 rfl dL_law_1444 ?_
      refine tr_iload (x := v4) C hl 3 rfl dL_law_1445 ?_
      refine lv_iconst (v := (1 : Int32)) C.1.1 C.1.2.1 dL_law_1447 (by decide) ?_
      refine lv_iadd C.1.1 C.1.2.1 dL_law_1448 ?_
      refine tr_sld C hX hbl hbA hS dL_law_1449 hw (fun x_1449 hw => ?_)
      refine tr_aload_n (k := 0) (x := (some b)) C hl 4 rfl dL_law_1450 ?_
      refine tr_iload (x := v4) C hl 3 rfl dL_law_1451 ?_
      refine lv_iconst (v := (2 : Int32)) C.1.1 C.1.2.1 dL_law_1453 (by decide) ?_
      refine lv_iadd C.1.1 C.1.2.1 dL_law_1454 ?_
      refine tr_sld C hX hbl hbA hS dL_law_1455 hw (fun x_1455 hw => ?_)
      refine tr_aload_n (k := 3) (x := v3) C hl 2 rfl dL_law_1456 ?_
      have hq26 := hw.1
      have hw := hw.2
      refine tx_backNI (tx_runSX (As := [va_rf v1, .int x_1449, .int x_1455, va_rf v3]) C hl.1 (c_L_areEqual l hll K _ v1 x_1449 x_1455 v3) (vx_cwSW 4 C.1.2.2.2.2 (gi_SX (zm kw_827) (zm kw_828) (zm kw_692) (zm kw_826)) rfl rfl rfl (by decide +kernel) ⟨(Nat.le_of_ble_eq_true rfl), (Nat.le_of_ble_eq_true rfl)⟩) rfl dL_law_1457 ⟨hq26.1, hq26.2⟩ [] rfl (Nat.le_of_ble_eq_true rfl) rfl hW hS hw) hS (fun x_1457 G_1457 H locs hw hW hS => ?_)
      refine tr_istore (x := x_1457) C hl [(5, .inl x_1457), (1, .inr (.inr v1)), (2, .inr (.inr v2)), (3, .inr (.inr v3)), (4, .inl v4), (0, .inr (.inr (some b)))] (by decide) rfl dL_law_1460 (fun ls hl => ?_)
      refine tr_aload_n (k := 2) (x := v2) C hl 2 rfl dL_law_1462 ?_
      refine tr_aload_n (k := 0) (x := (some b)) C hl 5 rfl dL_law_1463 ?_
      refine tr_iload (x := v4) C hl 4 rfl dL_law_1464 ?_
      refine lv_iconst (v := (1 : Int32)) C.1.1 C.1.2.1 dL_law_1466 (by decide) ?_
      refine lv_iadd C.1.1 C.1.2.1 dL_law_1467 ?_
      refine tr_sld C hX hbl hbA hS dL_law_1468 hw (fun x_1468 hw => ?_)
      refine tr_aload_n (k := 0) (x := (some b)) C hl 5 rfl dL_law_1469 ?_
      refine tr_iload (x := v4) C hl 4 rfl dL_law_1470 ?_
      refine lv_iconst (v := (2 : Int32)) C.1.1 C.1.2.1 dL_law_1472 (by decide) ?_
      refine lv_iadd C.1.1 C.1.2.1 dL_law_1473 ?_
      refine tr_sld C hX hbl hbA hS dL_law_1474 hw (fun x_1474 hw => ?_)
      have hq27 := hw.1
      have hw := hw.2
      refine tr_backI (tr_runV (r := v2) (As := [.int x_1468, .int x_1474]) C hl.1 (c_X3_areEqual l hll K _ v2 x_1468 x_1474) (cwV 2 C.1.2.2.2.2 (gi_V (zm kw_830) (zm kw_831) (zm kw_832) (zm kw_155) (zm kw_829)) rfl rfl rfl (by decide +kernel) ⟨(Nat.le_of_ble_eq_true rfl), (Nat.le_of_ble_eq_true rfl)⟩) rfl rfl dL_law_1475 ⟨hq27.1, hq27.2⟩ [] rfl (Nat.le_of_ble_eq_true rfl) rfl hW hS hw) hS (fun x_1475 G_1475 H locs hw hW hS => ?_)
      refine tr_istore (x := x_1475) C hl [(6, .inl x_1475), (5, .inl x_1457), (1, .inr (.inr v1)), (2, .inr (.inr v2)), (3, .inr (.inr v3)), (4, .inl v4), (0, .inr (.inr (some b)))] (by decide) rfl dL_law_1478 (fun ls hl => ?_)
      refine tr_aload_n (k := 2) (x := v2) C hl 3 rfl dL_law_1480 ?_
      refine tr_backI (tr_runV (r := v2) (As := []) C hl.1 (c_X3_thrown l hll K _ v2) (cwV 0 C.1.2.2.2.2 (gi_V (zm kw_682) (zm kw_683) (zm kw_684) (zm kw_155) (zm kw_681)) rfl rfl rfl (by decide +kernel) ⟨(Nat.le_of_ble_eq_true rfl), (Nat.le_of_ble_eq_true rfl)⟩) rfl rfl dL_law_1481 ⟨(show ((nc + 2) + 2) + 0 ≤ 645934 by omega), (show ((ns + 12) + 24) + 0 ≤ 7158302 by omega)⟩ [] rfl (Nat.le_of_ble_eq_true rfl) rfl hW hS hw) hS (fun x_1481 G_1481 H locs hw hW hS => ?_)
      refine tr_iload (x := x_1457) C hl 1 rfl dL_law_1484 ?_
      refine lv_icmp_eq (tgt := 1491) C.1.1 C.1.2.1 dL_law_1486 (by decide) (fun hc => ?_) (fun hc => ?_)
      · have hw := hw.1 hc
        refine tr_iload (x := x_1457) C hl 1 rfl dL_law_1491 ?_
        refine lv_if_ne (tgt := 1516) C.1.1 C.1.2.1 dL_law_1493 (by decide) (fun hc => ?_) (fun hc => ?_)
        · have hw := hw.1 hc
          exact s_L_law_1516 C hr hX hbl hbA hA2 hcN hll k27 hk27 (((nc + 2) + 2)) (((ns + 12) + 24)) v1 v2 v3 v4 _ _ _ _ (show ((nc + 2) + 2) ≤ 645934 ∧ ((ns + 12) + 24) ≤ 7158302 by omega) hW hS (tl_sub hl [2, 3, 4, 5, 6] rfl) hw
        · have hw := hw.2 hc
          refine tr_aload_n (k := 3) (x := v3) C hl 4 rfl dL_law_1496 ?_
          refine tr_gfLN (C0 := RX2) (T := TX2) (N := 2) (ci := 4) (ref := "TwinrowLaw$Out") (host := "TwinrowLaw") (k := 0) (r := v3) C (zh hw_X2) rfl (by decide) (tc_kx C).1 rfl dL_law_1497 hW hw (fun x_1497 hw => ?_)
          refine tr_iload (x := x_1475) C hl 0 rfl dL_law_1500 ?_
          refine lv_if_eq (tgt := 1509) C.1.1 C.1.2.1 dL_law_1502 (by decide) (fun hc => ?_) (fun hc => ?_)
          · have hw := hw.1 hc
            refine lv_lconst (v := (0 : Int64)) C.1.1 C.1.2.1 dL_law_1509 (by decide) ?_
            exact s_L_law_1510 C hr hX hbl hbA hA2 hcN hll k27 hk27 (((nc + 2) + 2)) (((ns + 12) + 24)) v1 v2 v3 v4 x_1497 ((0 : Int64)) _ _ _ _ (show ((nc + 2) + 2) ≤ 645934 ∧ ((ns + 12) + 24) ≤ 7158302 by omega) hW hS (tl_sub hl [2, 3, 4, 5, 6] rfl) hw
          · have hw := hw.2 hc
            refine lv_lconst (v := (1 : Int64)) C.1.1 C.1.2.1 dL_law_1505 (by decide) ?_
            refine lv_goto (tgt := 1510) C.1.1 C.1.2.1 dL_law_1506 (by decide) ?_
            exact s_L_law_1510 C hr hX hbl hbA hA2 hcN hll k27 hk27 (((nc + 2) + 2)) (((ns + 12) + 24)) v1 v2 v3 v4 x_1497 ((1 : Int64)) _ _ _ _ (show ((nc + 2) + 2) ≤ 645934 ∧ ((ns + 12) + 24) ≤ 7158302 by omega) hW hS (tl_sub hl [2, 3, 4, 5, 6] rfl) hw
      · have hw := hw.2 hc
        refine lv_iconst (v := (0 : Int32)) C.1.1 C.1.2.1 dL_law_1489 (by decide) ?_
        exact tr_law C hr hA2 dL_law_1490 (show ((nc + 2) + 2) ≤ 645934 by omega) (show ((ns + 12) + 24) ≤ 7158302 by omega) hS hw
    have hw := hw.2
    by_cases hc18 : (x_40 &&& (63 : Int32)) = (18 : Int32)
    · have hw := hw.1 hc18
      refine lv_tableIn (off := 1475) (tgt := 1519) C.1.1 C.1.2.1 dL_law_44 (by rw [hc18]; decide) (by rw [hc18]; decide) (by rw [hc18]; rfl) (by decide) ?_
      refine tr_aload_n (k := 1) (x := v1) C hl 0 rfl dL_law_1519 ?_
      refine tr_aload_n (k := 0) (x := (some b)) C hl 4 rfl dL_law_1520 ?_
      refine tr_iload (x := v4) C hl 3 rfl dL_law_1521 ?_
      refine lv_iconst (v := (1 : Int32)) C.1.1 C.1.2.1 dL_law_1523 (by decide) ?_
      refine lv_iadd C.1.1 C.1.2.1 dL_law_1524 ?_
      refine tr_sld C hX hbl hbA hS dL_law_1525 hw (fun x_1525 hw => ?_)
      refine tr_aload_n (k := 3) (x := v3) C hl 2 rfl dL_law_1526 ?_
      have hq28 := hw.1
      have hw := hw.2
      refine tx_backNI (tx_runSX (As := [va_rf v1, .int x_1525, va_rf v3]) C hl.1 (c_L_code l hll K _ v1 x_1525 v3) (vx_cwSW 3 C.1.2.2.2.2 (gi_SX (zm kw_834) (zm kw_835) (zm kw_692) (zm kw_833)) rfl rfl rfl (by decide +kernel) ⟨(Nat.le_of_ble_eq_true rfl), (Nat.le_of_ble_eq_true rfl)⟩) rfl dL_law_1527 ⟨hq28.1, hq28.2⟩ [] rfl (Nat.le_of_ble_eq_true rfl) rfl hW hS hw) hS (fun x_1527 G_1527 H locs hw hW hS => ?_)
      refine tr_istore (x := x_1527) C hl [(5, .inl x_1527), (1, .inr (.inr v1)), (2, .inr (.inr v2)), (3, .inr (.inr v3)), (4, .inl v4), (0, .inr (.inr (some b)))] (by decide) rfl dL_law_1530 (fun ls hl => ?_)
      refine tr_aload_n (k := 2) (x := v2) C hl 2 rfl dL_law_1532 ?_
      refine tr_aload_n (k := 0) (x := (some b)) C hl 5 rfl dL_law_1533 ?_
      refine tr_iload (x := v4) C hl 4 rfl dL_law_1534 ?_
      refine lv_iconst (v := (1 : Int32)) C.1.1 C.1.2.1 dL_law_1536 (by decide) ?_
      refine lv_iadd C.1.1 C.1.2.1 dL_law_1537 ?_
      refine tr_sld C hX hbl hbA hS dL_law_1538 hw (fun x_1538 hw => ?_)
      have hq29 := hw.1
      have hw := hw.2
      refine tr_backI (tr_runV (r := v2) (As := [.int x_1538]) C hl.1 (c_X3_code l hll K _ v2 x_1538) (cwV 1 C.1.2.2.2.2 (gi_V (zm kw_837) (zm kw_838) (zm kw_839) (zm kw_155) (zm kw_836)) rfl rfl rfl (by decide +kernel) ⟨(Nat.le_of_ble_eq_true rfl), (Nat.le_of_ble_eq_true rfl)⟩) rfl rfl dL_law_1539 ⟨hq29.1, hq29.2⟩ [] rfl (Nat.le_of_ble_eq_true rfl) rfl hW hS hw) hS (fun x_1539 G_1539 H locs hw hW hS => ?_)
      refine tr_istore (x := x_1539) C hl [(6, .inl x_1539), (5, .inl x_1527), (1, .inr (.inr v1)), (2, .inr (.inr v2)), (3, .inr (.inr v3)), (4, .inl v4), (0, .inr (.inr (some b)))] (by decide) rfl dL_law_1542 (fun ls hl => ?_)
      refine tr_aload_n (k := 2) (x := v2) C hl 3 rfl dL_law_1544 ?_
      refine tr_backI (tr_runV (r := v2) (As := []) C hl.1 (c_X3_thrown l hll K _ v2) (cwV 0 C.1.2.2.2.2 (gi_V (zm kw_682) (zm kw_683) (zm kw_684) (zm kw_155) (zm kw_681)) rfl rfl rfl (by decide +kernel) ⟨(Nat.le_of_ble_eq_true rfl), (Nat.le_of_ble_eq_true rfl)⟩) rfl rfl dL_law_1545 ⟨(show ((nc + 1) + 1) + 0 ≤ 645934 by omega), (show ((ns + 6) + 12) + 0 ≤ 7158302 by omega)⟩ [] rfl (Nat.le_of_ble_eq_true rfl) rfl hW hS hw) hS (fun x_1545 G_1545 H locs hw hW hS => ?_)
      refine tr_iload (x := x_1527) C hl 1 rfl dL_law_1548 ?_
      refine lv_icmp_eq (tgt := 1555) C.1.1 C.1.2.1 dL_law_1550 (by decide) (fun hc => ?_) (fun hc => ?_)
      · have hw := hw.1 hc
        refine tr_iload (x := x_1527) C hl 1 rfl dL_law_1555 ?_
        refine lv_if_ne (tgt := 1573) C.1.1 C.1.2.1 dL_law_1557 (by decide) (fun hc => ?_) (fun hc => ?_)
        · have hw := hw.1 hc
          exact s_L_law_1573 C hr hX hbl hbA hA2 hcN hll k27 hk27 (((nc + 1) + 1)) (((ns + 6) + 12)) v1 v2 v3 v4 _ _ _ _ (show ((nc + 1) + 1) ≤ 645934 ∧ ((ns + 6) + 12) ≤ 7158302 by omega) hW hS (tl_sub hl [2, 3, 4, 5, 6] rfl) hw
        · have hw := hw.2 hc
          refine tr_aload_n (k := 3) (x := v3) C hl 4 rfl dL_law_1560 ?_
          refine tr_gfLN (C0 := RX2) (T := TX2) (N := 2) (ci := 4) (ref := "TwinrowLaw$Out") (host := "TwinrowLaw") (k := 0) (r := v3) C (zh hw_X2) rfl (by decide) (tc_kx C).1 rfl dL_law_1561 hW hw (fun x_1561 hw => ?_)
          refine tr_iload (x := x_1539) C hl 0 rfl dL_law_1564 ?_
          refine lv_i2l (v := ((x_1539).toInt64)) C.1.1 C.1.2.1 dL_law_1566 rfl ?_
          refine W.lcmp C.1.1 C.1.2.1 dL_law_1567 ?_
          refine lv_if_eq (tgt := 1573) C.1.1 C.1.2.1 dL_law_1568 (by decide) (fun hc => ?_) (fun hc => ?_)
          · have hw := hw.1 hc
            exact s_L_law_1573 C hr hX hbl hbA hA2 hcN hll k27 hk27 (((nc + 1) + 1)) (((ns + 6) + 12)) v1 v2 v3 v4 _ _ _ _ (show ((nc + 1) + 1) ≤ 645934 ∧ ((ns + 6) + 12) ≤ 7158302 by omega) hW hS (tl_sub hl [2, 3, 4, 5, 6] rfl) hw
          · have hw := hw.2 hc
            refine lv_iconst (v := (0 : Int32)) C.1.1 C.1.2.1 dL_law_1571 (by decide) ?_
            exact tr_law C hr hA2 dL_law_1572 (show ((nc + 1) + 1) ≤ 645934 by omega) (show ((ns + 6) + 12) ≤ 7158302 by omega) hS hw
      · have hw := hw.2 hc
        refine lv_iconst (v := (0 : Int32)) C.1.1 C.1.2.1 dL_law_1553 (by decide) ?_
        exact tr_law C hr hA2 dL_law_1554 (show ((nc + 1) + 1) ≤ 645934 by omega) (show ((ns + 6) + 12) ≤ 7158302 by omega) hS hw
    have hw := hw.2
    by_cases hc19 : (x_40 &&& (63 : Int32)) = (19 : Int32)
    · have hw := hw.1 hc19
      refine lv_tableIn (off := 1532) (tgt := 1576) C.1.1 C.1.2.1 dL_law_44 (by rw [hc19]; decide) (by rw [hc19]; decide) (by rw [hc19]; rfl) (by decide) ?_
      refine tr_aload_n (k := 1) (x := v1) C hl 0 rfl dL_law_1576 ?_
      refine tr_aload_n (k := 0) (x := (some b)) C hl 4 rfl dL_law_1577 ?_
      refine tr_iload (x := v4) C hl 3 rfl dL_law_1578 ?_
      refine lv_iconst (v := (1 : Int32)) C.1.1 C.1.2.1 dL_law_1580 (by decide) ?_
      refine lv_iadd C.1.1 C.1.2.1 dL_law_1581 ?_
      refine tr_sld C hX hbl hbA hS dL_law_1582 hw (fun x_1582 hw => ?_)
      refine tr_aload_n (k := 0) (x := (some b)) C hl 4 rfl dL_law_1583 ?_
      refine tr_iload (x := v4) C hl 3 rfl dL_law_1584 ?_
      refine lv_iconst (v := (2 : Int32)) C.1.1 C.1.2.1 dL_law_1586 (by decide) ?_
      refine lv_iadd C.1.1 C.1.2.1 dL_law_1587 ?_
      refine tr_sld C hX hbl hbA hS dL_law_1588 hw (fun x_1588 hw => ?_)
      refine tr_aload_n (k := 0) (x := (some b)) C hl 4 rfl dL_law_1589 ?_
      refine tr_iload (x := v4) C hl 3 rfl dL_law_1590 ?_
      refine lv_iconst (v := (3 : Int32)) C.1.1 C.1.2.1 dL_law_1592 (by decide) ?_
      refine lv_iadd C.1.1 C.1.2.1 dL_law_1593 ?_
      refine tr_sld C hX hbl hbA hS dL_law_1594 hw (fun x_1594 hw => ?_)
      refine tr_aload_n (k := 0) (x := (some b)) C hl 4 rfl dL_law_1595 ?_
      refine tr_iload (x := v4) C hl 3 rfl dL_law_1596 ?_
      refine lv_iconst (v := (4 : Int32)) C.1.1 C.1.2.1 dL_law_1598 (by decide) ?_
      refine lv_iadd C.1.1 C.1.2.1 dL_law_1599 ?_
      refine tr_sld C hX hbl hbA hS dL_law_1600 hw (fun x_1600 hw => ?_)
      refine lv_if_eq (tgt := 1608) C.1.1 C.1.2.1 dL_law_1601 (by decide) (fun hc => ?_) (fun hc => ?_)
      · have hw := hw.1 hc
        refine lv_iconst (v := (0 : Int32)) C.1.1 C.1.2.1 dL_law_1608 (by decide) ?_
        exact s_L_law_1609 C hr hX hbl hbA hA2 hcN hll k27 hk27 nc ns v1 v2 v3 v4 v1 x_1582 x_1588 x_1594 ((0 : Int32)) _ _ _ _ (show nc ≤ 645934 ∧ ns ≤ 7158302 by omega) hW hS (tl_sub hl [0, 1, 2, 3, 4] rfl) hw
      · have hw := hw.2 hc
        refine lv_iconst (v := (1 : Int32)) C.1.1 C.1.2.1 dL_law_1604 (by decide) ?_
        refine lv_goto (tgt := 1609) C.1.1 C.1.2.1 dL_law_1605 (by decide) ?_
        exact s_L_law_1609 C hr hX hbl hbA hA2 hcN hll k27 hk27 nc ns v1 v2 v3 v4 v1 x_1582 x_1588 x_1594 ((1 : Int32)) _ _ _ _ (show nc ≤ 645934 ∧ ns ≤ 7158302 by omega) hW hS (tl_sub hl [0, 1, 2, 3, 4] rfl) hw
    have hw := hw.2
    by_cases hc20 : (x_40 &&& (63 : Int32)) = (20 : Int32)
    · have hw := hw.1 hc20
      refine lv_tableIn (off := 1642) (tgt := 1686) C.1.1 C.1.2.1 dL_law_44 (by rw [hc20]; decide) (by rw [hc20]; decide) (by rw [hc20]; rfl) (by decide) ?_
      refine tr_aload_n (k := 1) (x := v1) C hl 0 rfl dL_law_1686 ?_
      refine tr_aload_n (k := 0) (x := (some b)) C hl 4 rfl dL_law_1687 ?_
      refine tr_iload (x := v4) C hl 3 rfl dL_law_1688 ?_
      refine lv_iconst (v := (1 : Int32)) C.1.1 C.1.2.1 dL_law_1690 (by decide) ?_
      refine lv_iadd C.1.1 C.1.2.1 dL_law_1691 ?_
      refine tr_sld C hX hbl hbA hS dL_law_1692 hw (fun x_1692 hw => ?_)
      refine tr_aload_n (k := 3) (x := v3) C hl 2 rfl dL_law_1693 ?_
      have hq30 := hw.1
      have hw := hw.2
      refine tx_backNI (tx_runSX (As := [va_rf v1, .int x_1692, va_rf v3]) C hl.1 (c_L_sum l hll K _ v1 x_1692 v3) (vx_cwSW 3 C.1.2.2.2.2 (gi_SX (zm kw_841) (zm kw_842) (zm kw_692) (zm kw_840)) rfl rfl rfl (by decide +kernel) ⟨(Nat.le_of_ble_eq_true rfl), (Nat.le_of_ble_eq_true rfl)⟩) rfl dL_law_1694 ⟨hq30.1, hq30.2⟩ [] rfl (Nat.le_of_ble_eq_true rfl) rfl hW hS hw) hS (fun x_1694 G_1694 H locs hw hW hS => ?_)
      refine tr_istore (x := x_1694) C hl [(5, .inl x_1694), (1, .inr (.inr v1)), (2, .inr (.inr v2)), (3, .inr (.inr v3)), (4, .inl v4), (0, .inr (.inr (some b)))] (by decide) rfl dL_law_1697 (fun ls hl => ?_)
      refine tr_aload_n (k := 2) (x := v2) C hl 2 rfl dL_law_1699 ?_
      refine tr_aload_n (k := 0) (x := (some b)) C hl 5 rfl dL_law_1700 ?_
      refine tr_iload (x := v4) C hl 4 rfl dL_law_1701 ?_
      refine lv_iconst (v := (1 : Int32)) C.1.1 C.1.2.1 dL_law_1703 (by decide) ?_
      refine lv_iadd C.1.1 C.1.2.1 dL_law_1704 ?_
      refine tr_sld C hX hbl hbA hS dL_law_1705 hw (fun x_1705 hw => ?_)
      have hq31 := hw.1
      have hw := hw.2
      refine tr_backI (tr_runV (r := v2) (As := [.int x_1705]) C hl.1 (c_X3_sum l hll K _ v2 x_1705) (cwV 1 C.1.2.2.2.2 (gi_V (zm kw_844) (zm kw_845) (zm kw_846) (zm kw_155) (zm kw_843)) rfl rfl rfl (by decide +kernel) ⟨(Nat.le_of_ble_eq_true rfl), (Nat.le_of_ble_eq_true rfl)⟩) rfl rfl dL_law_1706 ⟨hq31.1, hq31.2⟩ [] rfl (Nat.le_of_ble_eq_true rfl) rfl hW hS hw) hS (fun x_1706 G_1706 H locs hw hW hS => ?_)
      refine tr_istore (x := x_1706) C hl [(6, .inl x_1706), (5, .inl x_1694), (1, .inr (.inr v1)), (2, .inr (.inr v2)), (3, .inr (.inr v3)), (4, .inl v4), (0, .inr (.inr (some b)))] (by decide) rfl dL_law_1709 (fun ls hl => ?_)
      refine tr_aload_n (k := 2) (x := v2) C hl 3 rfl dL_law_1711 ?_
      refine tr_backI (tr_runV (r := v2) (As := []) C hl.1 (c_X3_thrown l hll K _ v2) (cwV 0 C.1.2.2.2.2 (gi_V (zm kw_682) (zm kw_683) (zm kw_684) (zm kw_155) (zm kw_681)) rfl rfl rfl (by decide +kernel) ⟨(Nat.le_of_ble_eq_true rfl), (Nat.le_of_ble_eq_true rfl)⟩) rfl rfl dL_law_1712 ⟨(show ((nc + 1) + 1) + 0 ≤ 645934 by omega), (show ((ns + 6) + 12) + 0 ≤ 7158302 by omega)⟩ [] rfl (Nat.le_of_ble_eq_true rfl) rfl hW hS hw) hS (fun x_1712 G_1712 H locs hw hW hS => ?_)
      refine tr_iload (x := x_1694) C hl 1 rfl dL_law_1715 ?_
      refine lv_icmp_eq (tgt := 1722) C.1.1 C.1.2.1 dL_law_1717 (by decide) (fun hc => ?_) (fun hc => ?_)
      · have hw := hw.1 hc
        refine tr_iload (x := x_1694) C hl 1 rfl dL_law_1722 ?_
        refine lv_if_ne (tgt := 1740) C.1.1 C.1.2.1 dL_law_1724 (by decide) (fun hc => ?_) (fun hc => ?_)
        · have hw := hw.1 hc
          exact s_L_law_1740 C hr hX hbl hbA hA2 hcN hll k27 hk27 (((nc + 1) + 1)) (((ns + 6) + 12)) v1 v2 v3 v4 _ _ _ _ (show ((nc + 1) + 1) ≤ 645934 ∧ ((ns + 6) + 12) ≤ 7158302 by omega) hW hS (tl_sub hl [2, 3, 4, 5, 6] rfl) hw
        · have hw := hw.2 hc
          refine tr_aload_n (k := 3) (x := v3) C hl 4 rfl dL_law_1727 ?_
          refine tr_gfLN (C0 := RX2) (T := TX2) (N := 2) (ci := 4) (ref := "TwinrowLaw$Out") (host := "TwinrowLaw") (k := 0) (r := v3) C (zh hw_X2) rfl (by decide) (tc_kx C).1 rfl dL_law_1728 hW hw (fun x_1728 hw => ?_)
          refine tr_iload (x := x_1706) C hl 0 rfl dL_law_1731 ?_
          refine lv_i2l (v := ((x_1706).toInt64)) C.1.1 C.1.2.1 dL_law_1733 rfl ?_
          refine W.lcmp C.1.1 C.1.2.1 dL_law_1734 ?_
          refine lv_if_eq (tgt := 1740) C.1.1 C.1.2.1 dL_law_1735 (by decide) (fun hc => ?_) (fun hc => ?_)
          · have hw := hw.1 hc
            exact s_L_law_1740 C hr hX hbl hbA hA2 hcN hll k27 hk27 (((nc + 1) + 1)) (((ns + 6) + 12)) v1 v2 v3 v4 _ _ _ _ (show ((nc + 1) + 1) ≤ 645934 ∧ ((ns + 6) + 12) ≤ 7158302 by omega) hW hS (tl_sub hl [2, 3, 4, 5, 6] rfl) hw
          · have hw := hw.2 hc
            refine lv_iconst (v := (0 : Int32)) C.1.1 C.1.2.1 dL_law_1738 (by decide) ?_
            exact tr_law C hr hA2 dL_law_1739 (show ((nc + 1) + 1) ≤ 645934 by omega) (show ((ns + 6) + 12) ≤ 7158302 by omega) hS hw
      · have hw := hw.2 hc
        refine lv_iconst (v := (0 : Int32)) C.1.1 C.1.2.1 dL_law_1720 (by decide) ?_
        exact tr_law C hr hA2 dL_law_1721 (show ((nc + 1) + 1) ≤ 645934 by omega) (show ((ns + 6) + 12) ≤ 7158302 by omega) hS hw
    have hw := hw.2
    by_cases hc21 : (x_40 &&& (63 : Int32)) = (21 : Int32)
    · have hw := hw.1 hc21
      refine lv_tableIn (off := 1699) (tgt := 1743) C.1.1 C.1.2.1 dL_law_44 (by rw [hc21]; decide) (by rw [hc21]; decide) (by rw [hc21]; rfl) (by decide) ?_
      refine tr_aload_n (k := 1) (x := v1) C hl 0 rfl dL_law_1743 ?_
      refine tr_aload_n (k := 0) (x := (some b)) C hl 4 rfl dL_law_1744 ?_
      refine tr_iload (x := v4) C hl 3 rfl dL_law_1745 ?_
      refine lv_iconst (v := (1 : Int32)) C.1.1 C.1.2.1 dL_law_1747 (by decide) ?_
      refine lv_iadd C.1.1 C.1.2.1 dL_law_1748 ?_
      refine tr_sld C hX hbl hbA hS dL_law_1749 hw (fun x_1749 hw => ?_)
      refine tr_aload_n (k := 0) (x := (some b)) C hl 4 rfl dL_law_1750 ?_
      refine tr_iload (x := v4) C hl 3 rfl dL_law_1751 ?_
      refine lv_iconst (v := (2 : Int32)) C.1.1 C.1.2.1 dL_law_1753 (by decide) ?_
      refine lv_iadd C.1.1 C.1.2.1 dL_law_1754 ?_
      refine tr_sld C hX hbl hbA hS dL_law_1755 hw (fun x_1755 hw => ?_)
      refine tr_aload_n (k := 0) (x := (some b)) C hl 4 rfl dL_law_1756 ?_
      refine tr_iload (x := v4) C hl 3 rfl dL_law_1757 ?_
      refine lv_iconst (v := (3 : Int32)) C.1.1 C.1.2.1 dL_law_1759 (by decide) ?_
      refine lv_iadd C.1.1 C.1.2.1 dL_law_1760 ?_
      refine tr_sld C hX hbl hbA hS dL_law_1761 hw (fun x_1761 hw => ?_)
      refine tr_aload_n (k := 0) (x := (some b)) C hl 4 rfl dL_law_1762 ?_
      refine tr_iload (x := v4) C hl 3 rfl dL_law_1763 ?_
      refine lv_iconst (v := (4 : Int32)) C.1.1 C.1.2.1 dL_law_1765 (by decide) ?_
      refine lv_iadd C.1.1 C.1.2.1 dL_law_1766 ?_
      refine tr_sld C hX hbl hbA hS dL_law_1767 hw (fun x_1767 hw => ?_)
      refine tr_aload_n (k := 0) (x := (some b)) C hl 4 rfl dL_law_1768 ?_
      refine tr_iload (x := v4) C hl 3 rfl dL_law_1769 ?_
      refine lv_iconst (v := (5 : Int32)) C.1.1 C.1.2.1 dL_law_1771 (by decide) ?_
      refine lv_iadd C.1.1 C.1.2.1 dL_law_1772 ?_
      refine tr_sld C hX hbl hbA hS dL_law_1773 hw (fun x_1773 hw => ?_)
      refine lv_if_eq (tgt := 1781) C.1.1 C.1.2.1 dL_law_1774 (by decide) (fun hc => ?_) (fun hc => ?_)
      · have hw := hw.1 hc
        refine lv_iconst (v := (0 : Int32)) C.1.1 C.1.2.1 dL_law_1781 (by decide) ?_
        exact s_L_law_1782 C hr hX hbl hbA hA2 hcN hll k27 hk27 nc ns v1 v2 v3 v4 v1 x_1749 x_1755 x_1761 x_1767 ((0 : Int32)) _ _ _ _ (show nc ≤ 645934 ∧ ns ≤ 7158302 by omega) hW hS (tl_sub hl [0, 1, 2, 3, 4] rfl) hw
      · have hw := hw.2 hc
        refine lv_iconst (v := (1 : Int32)) C.1.1 C.1.2.1 dL_law_1777 (by decide) ?_
        refine lv_goto (tgt := 1782) C.1.1 C.1.2.1 dL_law_1778 (by decide) ?_
        exact s_L_law_1782 C hr hX hbl hbA hA2 hcN hll k27 hk27 nc ns v1 v2 v3 v4 v1 x_1749 x_1755 x_1761 x_1767 ((1 : Int32)) _ _ _ _ (show nc ≤ 645934 ∧ ns ≤ 7158302 by omega) hW hS (tl_sub hl [0, 1, 2, 3, 4] rfl) hw
    have hw := hw.2
    by_cases hc22 : (x_40 &&& (63 : Int32)) = (22 : Int32)
    · have hw := hw.1 hc22
      refine lv_tableIn (off := 1820) (tgt := 1864) C.1.1 C.1.2.1 dL_law_44 (by rw [hc22]; decide) (by rw [hc22]; decide) (by rw [hc22]; rfl) (by decide) ?_
      refine tr_aload_n (k := 1) (x := v1) C hl 0 rfl dL_law_1864 ?_
      refine tr_aload_n (k := 0) (x := (some b)) C hl 4 rfl dL_law_1865 ?_
      refine tr_iload (x := v4) C hl 3 rfl dL_law_1866 ?_
      refine lv_iconst (v := (1 : Int32)) C.1.1 C.1.2.1 dL_law_1868 (by decide) ?_
      refine lv_iadd C.1.1 C.1.2.1 dL_law_1869 ?_
      refine tr_sld C hX hbl hbA hS dL_law_1870 hw (fun x_1870 hw => ?_)
      refine tr_aload_n (k := 0) (x := (some b)) C hl 4 rfl dL_law_1871 ?_
      refine tr_iload (x := v4) C hl 3 rfl dL_law_1872 ?_
      refine lv_iconst (v := (2 : Int32)) C.1.1 C.1.2.1 dL_law_1874 (by decide) ?_
      refine lv_iadd C.1.1 C.1.2.1 dL_law_1875 ?_
      refine tr_sld C hX hbl hbA hS dL_law_1876 hw (fun x_1876 hw => ?_)
      refine tr_aload_n (k := 0) (x := (some b)) C hl 4 rfl dL_law_1877 ?_
      refine tr_iload (x := v4) C hl 3 rfl dL_law_1878 ?_
      refine lv_iconst (v := (3 : Int32)) C.1.1 C.1.2.1 dL_law_1880 (by decide) ?_
      refine lv_iadd C.1.1 C.1.2.1 dL_law_1881 ?_
      refine tr_sld C hX hbl hbA hS dL_law_1882 hw (fun x_1882 hw => ?_)
      refine tr_aload_n (k := 3) (x := v3) C hl 2 rfl dL_law_1883 ?_
      have hq32 := hw.1
      have hw := hw.2
      refine tx_backNI (tx_runSX (As := [va_rf v1, .int x_1870, .int x_1876, .int x_1882, va_rf v3]) C hl.1 (c_L_replaceAll l hll K _ v1 x_1870 x_1876 x_1882 v3) (vx_cwSW 5 C.1.2.2.2.2 (gi_SX (zm kw_848) (zm kw_849) (zm kw_692) (zm kw_847)) rfl rfl rfl (by decide +kernel) ⟨(Nat.le_of_ble_eq_true rfl), (Nat.le_of_ble_eq_true rfl)⟩) rfl dL_law_1884 ⟨hq32.1, hq32.2⟩ [] rfl (Nat.le_of_ble_eq_true rfl) rfl hW hS hw) hS (fun x_1884 G_1884 H locs hw hW hS => ?_)
      refine tr_istore (x := x_1884) C hl [(5, .inl x_1884), (1, .inr (.inr v1)), (2, .inr (.inr v2)), (3, .inr (.inr v3)), (4, .inl v4), (0, .inr (.inr (some b)))] (by decide) rfl dL_law_1887 (fun ls hl => ?_)
      refine tr_aload_n (k := 2) (x := v2) C hl 2 rfl dL_law_1889 ?_
      refine tr_aload_n (k := 0) (x := (some b)) C hl 5 rfl dL_law_1890 ?_
      refine tr_iload (x := v4) C hl 4 rfl dL_law_1891 ?_
      refine lv_iconst (v := (1 : Int32)) C.1.1 C.1.2.1 dL_law_1893 (by decide) ?_
      refine lv_iadd C.1.1 C.1.2.1 dL_law_1894 ?_
      refine tr_sld C hX hbl hbA hS dL_law_1895 hw (fun x_1895 hw => ?_)
      refine tr_aload_n (k := 0) (x := (some b)) C hl 5 rfl dL_law_1896 ?_
      refine tr_iload (x := v4) C hl 4 rfl dL_law_1897 ?_
      refine lv_iconst (v := (2 : Int32)) C.1.1 C.1.2.1 dL_law_1899 (by decide) ?_
      refine lv_iadd C.1.1 C.1.2.1 dL_law_1900 ?_
      refine tr_sld C hX hbl hbA hS dL_law_1901 hw (fun x_1901 hw => ?_)
      refine tr_aload_n (k := 0) (x := (some b)) C hl 5 rfl dL_law_1902 ?_
      refine tr_iload (x := v4) C hl 4 rfl dL_law_1903 ?_
      refine lv_iconst (v := (3 : Int32)) C.1.1 C.1.2.1 dL_law_1905 (by decide) ?_
      refine lv_iadd C.1.1 C.1.2.1 dL_law_1906 ?_
      refine tr_sld C hX hbl hbA hS dL_law_1907 hw (fun x_1907 hw => ?_)
      refine tr_backI (tr_runV (r := v2) (As := [.int x_1895, .int x_1901, .int x_1907]) C hl.1 (c_X3_replaceAll l hll K _ v2 x_1895 x_1901 x_1907) (cwV 3 C.1.2.2.2.2 (gi_V (zm kw_851) (zm kw_852) (zm kw_853) (zm kw_155) (zm kw_850)) rfl rfl rfl (by decide +kernel) ⟨(Nat.le_of_ble_eq_true rfl), (Nat.le_of_ble_eq_true rfl)⟩) rfl rfl dL_law_1908 ⟨(show (nc + 3) + 0 ≤ 645934 by omega), (show (ns + 18) + 0 ≤ 7158302 by omega)⟩ [] rfl (Nat.le_of_ble_eq_true rfl) rfl hW hS hw) hS (fun x_1908 G_1908 H locs hw hW hS => ?_)
      refine tr_istore (x := x_1908) C hl [(6, .inl x_1908), (5, .inl x_1884), (1, .inr (.inr v1)), (2, .inr (.inr v2)), (3, .inr (.inr v3)), (4, .inl v4), (0, .inr (.inr (some b)))] (by decide) rfl dL_law_1911 (fun ls hl => ?_)
      refine tr_aload_n (k := 2) (x := v2) C hl 3 rfl dL_law_1913 ?_
      refine tr_backI (tr_runV (r := v2) (As := []) C hl.1 (c_X3_thrown l hll K _ v2) (cwV 0 C.1.2.2.2.2 (gi_V (zm kw_682) (zm kw_683) (zm kw_684) (zm kw_155) (zm kw_681)) rfl rfl rfl (by decide +kernel) ⟨(Nat.le_of_ble_eq_true rfl), (Nat.le_of_ble_eq_true rfl)⟩) rfl rfl dL_law_1914 ⟨(show (nc + 3) + 0 ≤ 645934 by omega), (show (ns + 18) + 0 ≤ 7158302 by omega)⟩ [] rfl (Nat.le_of_ble_eq_true rfl) rfl hW hS hw) hS (fun x_1914 G_1914 H locs hw hW hS => ?_)
      refine tr_iload (x := x_1884) C hl 1 rfl dL_law_1917 ?_
      refine lv_icmp_eq (tgt := 1924) C.1.1 C.1.2.1 dL_law_1919 (by decide) (fun hc => ?_) (fun hc => ?_)
      · have hw := hw.1 hc
        refine tr_iload (x := x_1884) C hl 1 rfl dL_law_1924 ?_
        refine lv_if_ne (tgt := 1942) C.1.1 C.1.2.1 dL_law_1926 (by decide) (fun hc => ?_) (fun hc => ?_)
        · have hw := hw.1 hc
          exact s_L_law_1942 C hr hX hbl hbA hA2 hcN hll k27 hk27 ((nc + 3)) ((ns + 18)) v1 v2 v3 v4 _ _ _ _ (show (nc + 3) ≤ 645934 ∧ (ns + 18) ≤ 7158302 by omega) hW hS (tl_sub hl [2, 3, 4, 5, 6] rfl) hw
        · have hw := hw.2 hc
          refine tr_aload_n (k := 3) (x := v3) C hl 4 rfl dL_law_1929 ?_
          refine tr_gfLN (C0 := RX2) (T := TX2) (N := 2) (ci := 4) (ref := "TwinrowLaw$Out") (host := "TwinrowLaw") (k := 0) (r := v3) C (zh hw_X2) rfl (by decide) (tc_kx C).1 rfl dL_law_1930 hW hw (fun x_1930 hw => ?_)
          refine tr_iload (x := x_1908) C hl 0 rfl dL_law_1933 ?_
          refine lv_i2l (v := ((x_1908).toInt64)) C.1.1 C.1.2.1 dL_law_1935 rfl ?_
          refine W.lcmp C.1.1 C.1.2.1 dL_law_1936 ?_
          refine lv_if_eq (tgt := 1942) C.1.1 C.1.2.1 dL_law_1937 (by decide) (fun hc => ?_) (fun hc => ?_)
          · have hw := hw.1 hc
            exact s_L_law_1942 C hr hX hbl hbA hA2 hcN hll k27 hk27 ((nc + 3)) ((ns + 18)) v1 v2 v3 v4 _ _ _ _ (show (nc + 3) ≤ 645934 ∧ (ns + 18) ≤ 7158302 by omega) hW hS (tl_sub hl [2, 3, 4, 5, 6] rfl) hw
          · have hw := hw.2 hc
            refine lv_iconst (v := (0 : Int32)) C.1.1 C.1.2.1 dL_law_1940 (by decide) ?_
            exact tr_law C hr hA2 dL_law_1941 (show (nc + 3) ≤ 645934 by omega) (show (ns + 18) ≤ 7158302 by omega) hS hw
      · have hw := hw.2 hc
        refine lv_iconst (v := (0 : Int32)) C.1.1 C.1.2.1 dL_law_1922 (by decide) ?_
        exact tr_law C hr hA2 dL_law_1923 (show (nc + 3) ≤ 645934 by omega) (show (ns + 18) ≤ 7158302 by omega) hS hw
    have hw := hw.2
    by_cases hc23 : (x_40 &&& (63 : Int32)) = (23 : Int32)
    · have hw := hw.1 hc23
      refine lv_tableIn (off := 1901) (tgt := 1945) C.1.1 C.1.2.1 dL_law_44 (by rw [hc23]; decide) (by rw [hc23]; decide) (by rw [hc23]; rfl) (by decide) ?_
      refine tr_aload_n (k := 1) (x := v1) C hl 0 rfl dL_law_1945 ?_
      refine tr_aload_n (k := 0) (x := (some b)) C hl 4 rfl dL_law_1946 ?_
      refine tr_iload (x := v4) C hl 3 rfl dL_law_1947 ?_
      refine lv_iconst (v := (1 : Int32)) C.1.1 C.1.2.1 dL_law_1949 (by decide) ?_
      refine lv_iadd C.1.1 C.1.2.1 dL_law_1950 ?_
      refine tr_sld C hX hbl hbA hS dL_law_1951 hw (fun x_1951 hw => ?_)
      refine tr_aload_n (k := 0) (x := (some b)) C hl 4 rfl dL_law_1952 ?_
      refine tr_iload (x := v4) C hl 3 rfl dL_law_1953 ?_
      refine lv_iconst (v := (2 : Int32)) C.1.1 C.1.2.1 dL_law_1955 (by decide) ?_
      refine lv_iadd C.1.1 C.1.2.1 dL_law_1956 ?_
      refine tr_sld C hX hbl hbA hS dL_law_1957 hw (fun x_1957 hw => ?_)
      refine tr_aload_n (k := 0) (x := (some b)) C hl 4 rfl dL_law_1958 ?_
      refine tr_iload (x := v4) C hl 3 rfl dL_law_1959 ?_
      refine lv_iconst (v := (3 : Int32)) C.1.1 C.1.2.1 dL_law_1961 (by decide) ?_
      refine lv_iadd C.1.1 C.1.2.1 dL_law_1962 ?_
      refine tr_sld C hX hbl hbA hS dL_law_1963 hw (fun x_1963 hw => ?_)
      refine tr_aload_n (k := 3) (x := v3) C hl 2 rfl dL_law_1964 ?_
      have hq33 := hw.1
      have hw := hw.2
      refine tx_backNI (tx_runSX (As := [va_rf v1, .int x_1951, .int x_1957, .int x_1963, va_rf v3]) C hl.1 (c_L_replaceOld l hll K _ v1 x_1951 x_1957 x_1963 v3) (vx_cwSW 5 C.1.2.2.2.2 (gi_SX (zm kw_855) (zm kw_856) (zm kw_692) (zm kw_854)) rfl rfl rfl (by decide +kernel) ⟨(Nat.le_of_ble_eq_true rfl), (Nat.le_of_ble_eq_true rfl)⟩) rfl dL_law_1965 ⟨hq33.1, hq33.2⟩ [] rfl (Nat.le_of_ble_eq_true rfl) rfl hW hS hw) hS (fun x_1965 G_1965 H locs hw hW hS => ?_)
      refine tr_istore (x := x_1965) C hl [(5, .inl x_1965), (1, .inr (.inr v1)), (2, .inr (.inr v2)), (3, .inr (.inr v3)), (4, .inl v4), (0, .inr (.inr (some b)))] (by decide) rfl dL_law_1968 (fun ls hl => ?_)
      refine tr_aload_n (k := 2) (x := v2) C hl 2 rfl dL_law_1970 ?_
      refine tr_aload_n (k := 0) (x := (some b)) C hl 5 rfl dL_law_1971 ?_
      refine tr_iload (x := v4) C hl 4 rfl dL_law_1972 ?_
      refine lv_iconst (v := (1 : Int32)) C.1.1 C.1.2.1 dL_law_1974 (by decide) ?_
      refine lv_iadd C.1.1 C.1.2.1 dL_law_1975 ?_
      refine tr_sld C hX hbl hbA hS dL_law_1976 hw (fun x_1976 hw => ?_)
      refine tr_aload_n (k := 0) (x := (some b)) C hl 5 rfl dL_law_1977 ?_
      refine tr_iload (x := v4) C hl 4 rfl dL_law_1978 ?_
      refine lv_iconst (v := (2 : Int32)) C.1.1 C.1.2.1 dL_law_1980 (by decide) ?_
      refine lv_iadd C.1.1 C.1.2.1 dL_law_1981 ?_
      refine tr_sld C hX hbl hbA hS dL_law_1982 hw (fun x_1982 hw => ?_)
      refine tr_aload_n (k := 0) (x := (some b)) C hl 5 rfl dL_law_1983 ?_
      refine tr_iload (x := v4) C hl 4 rfl dL_law_1984 ?_
      refine lv_iconst (v := (3 : Int32)) C.1.1 C.1.2.1 dL_law_1986 (by decide) ?_
      refine lv_iadd C.1.1 C.1.2.1 dL_law_1987 ?_
      refine tr_sld C hX hbl hbA hS dL_law_1988 hw (fun x_1988 hw => ?_)
      have hq34 := hw.1
      have hw := hw.2
      refine tr_backI (tr_runV (r := v2) (As := [.int x_1976, .int x_1982, .int x_1988]) C hl.1 (c_X3_replaceOld l hll K _ v2 x_1976 x_1982 x_1988) (cwV 3 C.1.2.2.2.2 (gi_V (zm kw_858) (zm kw_859) (zm kw_860) (zm kw_155) (zm kw_857)) rfl rfl rfl (by decide +kernel) ⟨(Nat.le_of_ble_eq_true rfl), (Nat.le_of_ble_eq_true rfl)⟩) rfl rfl dL_law_1989 ⟨hq34.1, hq34.2⟩ [] rfl (Nat.le_of_ble_eq_true rfl) rfl hW hS hw) hS (fun x_1989 G_1989 H locs hw hW hS => ?_)
      refine tr_istore (x := x_1989) C hl [(6, .inl x_1989), (5, .inl x_1965), (1, .inr (.inr v1)), (2, .inr (.inr v2)), (3, .inr (.inr v3)), (4, .inl v4), (0, .inr (.inr (some b)))] (by decide) rfl dL_law_1992 (fun ls hl => ?_)
      refine tr_aload_n (k := 2) (x := v2) C hl 3 rfl dL_law_1994 ?_
      refine tr_backI (tr_runV (r := v2) (As := []) C hl.1 (c_X3_thrown l hll K _ v2) (cwV 0 C.1.2.2.2.2 (gi_V (zm kw_682) (zm kw_683) (zm kw_684) (zm kw_155) (zm kw_681)) rfl rfl rfl (by decide +kernel) ⟨(Nat.le_of_ble_eq_true rfl), (Nat.le_of_ble_eq_true rfl)⟩) rfl rfl dL_law_1995 ⟨(show ((nc + 3) + 1) + 0 ≤ 645934 by omega), (show ((ns + 18) + 12) + 0 ≤ 7158302 by omega)⟩ [] rfl (Nat.le_of_ble_eq_true rfl) rfl hW hS hw) hS (fun x_1995 G_1995 H locs hw hW hS => ?_)
      refine tr_iload (x := x_1965) C hl 1 rfl dL_law_1998 ?_
      refine lv_icmp_eq (tgt := 2005) C.1.1 C.1.2.1 dL_law_2000 (by decide) (fun hc => ?_) (fun hc => ?_)
      · have hw := hw.1 hc
        refine tr_iload (x := x_1965) C hl 1 rfl dL_law_2005 ?_
        refine lv_if_ne (tgt := 2023) C.1.1 C.1.2.1 dL_law_2007 (by decide) (fun hc => ?_) (fun hc => ?_)
        · have hw := hw.1 hc
          exact s_L_law_2023 C hr hX hbl hbA hA2 hcN hll k27 hk27 (((nc + 3) + 1)) (((ns + 18) + 12)) v1 v2 v3 v4 _ _ _ _ (show ((nc + 3) + 1) ≤ 645934 ∧ ((ns + 18) + 12) ≤ 7158302 by omega) hW hS (tl_sub hl [2, 3, 4, 5, 6] rfl) hw
        · have hw := hw.2 hc
          refine tr_aload_n (k := 3) (x := v3) C hl 4 rfl dL_law_2010 ?_
          refine tr_gfLN (C0 := RX2) (T := TX2) (N := 2) (ci := 4) (ref := "TwinrowLaw$Out") (host := "TwinrowLaw") (k := 0) (r := v3) C (zh hw_X2) rfl (by decide) (tc_kx C).1 rfl dL_law_2011 hW hw (fun x_2011 hw => ?_)
          refine tr_iload (x := x_1989) C hl 0 rfl dL_law_2014 ?_
          refine lv_i2l (v := ((x_1989).toInt64)) C.1.1 C.1.2.1 dL_law_2016 rfl ?_
          refine W.lcmp C.1.1 C.1.2.1 dL_law_2017 ?_
          refine lv_if_eq (tgt := 2023) C.1.1 C.1.2.1 dL_law_2018 (by decide) (fun hc => ?_) (fun hc => ?_)
          · have hw := hw.1 hc
            exact s_L_law_2023 C hr hX hbl hbA hA2 hcN hll k27 hk27 (((nc + 3) + 1)) (((ns + 18) + 12)) v1 v2 v3 v4 _ _ _ _ (show ((nc + 3) + 1) ≤ 645934 ∧ ((ns + 18) + 12) ≤ 7158302 by omega) hW hS (tl_sub hl [2, 3, 4, 5, 6] rfl) hw
          · have hw := hw.2 hc
            refine lv_iconst (v := (0 : Int32)) C.1.1 C.1.2.1 dL_law_2021 (by decide) ?_
            exact tr_law C hr hA2 dL_law_2022 (show ((nc + 3) + 1) ≤ 645934 by omega) (show ((ns + 18) + 12) ≤ 7158302 by omega) hS hw
      · have hw := hw.2 hc
        refine lv_iconst (v := (0 : Int32)) C.1.1 C.1.2.1 dL_law_2003 (by decide) ?_
        exact tr_law C hr hA2 dL_law_2004 (show ((nc + 3) + 1) ≤ 645934 by omega) (show ((ns + 18) + 12) ≤ 7158302 by omega) hS hw
    have hw := hw.2
    by_cases hc24 : (x_40 &&& (63 : Int32)) = (24 : Int32)
    · have hw := hw.1 hc24
      refine lv_tableIn (off := 1982) (tgt := 2026) C.1.1 C.1.2.1 dL_law_44 (by rw [hc24]; decide) (by rw [hc24]; decide) (by rw [hc24]; rfl) (by decide) ?_
      refine tr_aload_n (k := 1) (x := v1) C hl 0 rfl dL_law_2026 ?_
      refine tr_aload_n (k := 0) (x := (some b)) C hl 4 rfl dL_law_2027 ?_
      refine tr_iload (x := v4) C hl 3 rfl dL_law_2028 ?_
      refine lv_iconst (v := (1 : Int32)) C.1.1 C.1.2.1 dL_law_2030 (by decide) ?_
      refine lv_iadd C.1.1 C.1.2.1 dL_law_2031 ?_
      refine tr_sld C hX hbl hbA hS dL_law_2032 hw (fun x_2032 hw => ?_)
      refine tr_aload_n (k := 0) (x := (some b)) C hl 4 rfl dL_law_2033 ?_
      refine tr_iload (x := v4) C hl 3 rfl dL_law_2034 ?_
      refine lv_iconst (v := (2 : Int32)) C.1.1 C.1.2.1 dL_law_2036 (by decide) ?_
      refine lv_iadd C.1.1 C.1.2.1 dL_law_2037 ?_
      refine tr_sld C hX hbl hbA hS dL_law_2038 hw (fun x_2038 hw => ?_)
      refine tr_aload_n (k := 3) (x := v3) C hl 2 rfl dL_law_2039 ?_
      have hq35 := hw.1
      have hw := hw.2
      refine tx_backNI (tx_runSX (As := [va_rf v1, .int x_2032, .int x_2038, va_rf v3]) C hl.1 (c_L_fill l hll K _ v1 x_2032 x_2038 v3) (vx_cwSW 4 C.1.2.2.2.2 (gi_SX (zm kw_862) (zm kw_863) (zm kw_692) (zm kw_861)) rfl rfl rfl (by decide +kernel) ⟨(Nat.le_of_ble_eq_true rfl), (Nat.le_of_ble_eq_true rfl)⟩) rfl dL_law_2040 ⟨hq35.1, hq35.2⟩ [] rfl (Nat.le_of_ble_eq_true rfl) rfl hW hS hw) hS (fun x_2040 G_2040 H locs hw hW hS => ?_)
      refine tr_istore (x := x_2040) C hl [(5, .inl x_2040), (1, .inr (.inr v1)), (2, .inr (.inr v2)), (3, .inr (.inr v3)), (4, .inl v4), (0, .inr (.inr (some b)))] (by decide) rfl dL_law_2043 (fun ls hl => ?_)
      refine tr_aload_n (k := 2) (x := v2) C hl 2 rfl dL_law_2045 ?_
      refine tr_aload_n (k := 0) (x := (some b)) C hl 5 rfl dL_law_2046 ?_
      refine tr_iload (x := v4) C hl 4 rfl dL_law_2047 ?_
      refine lv_iconst (v := (1 : Int32)) C.1.1 C.1.2.1 dL_law_2049 (by decide) ?_
      refine lv_iadd C.1.1 C.1.2.1 dL_law_2050 ?_
      refine tr_sld C hX hbl hbA hS dL_law_2051 hw (fun x_2051 hw => ?_)
      refine tr_aload_n (k := 0) (x := (some b)) C hl 5 rfl dL_law_2052 ?_
      refine tr_iload (x := v4) C hl 4 rfl dL_law_2053 ?_
      refine lv_iconst (v := (2 : Int32)) C.1.1 C.1.2.1 dL_law_2055 (by decide) ?_
      refine lv_iadd C.1.1 C.1.2.1 dL_law_2056 ?_
      refine tr_sld C hX hbl hbA hS dL_law_2057 hw (fun x_2057 hw => ?_)
      refine tr_backI (tr_runV (r := v2) (As := [.int x_2051, .int x_2057]) C hl.1 (c_X3_fill l hll K _ v2 x_2051 x_2057) (cwV 2 C.1.2.2.2.2 (gi_V (zm kw_865) (zm kw_866) (zm kw_867) (zm kw_155) (zm kw_864)) rfl rfl rfl (by decide +kernel) ⟨(Nat.le_of_ble_eq_true rfl), (Nat.le_of_ble_eq_true rfl)⟩) rfl rfl dL_law_2058 ⟨(show (nc + 2) + 0 ≤ 645934 by omega), (show (ns + 12) + 0 ≤ 7158302 by omega)⟩ [] rfl (Nat.le_of_ble_eq_true rfl) rfl hW hS hw) hS (fun x_2058 G_2058 H locs hw hW hS => ?_)
      refine tr_istore (x := x_2058) C hl [(6, .inl x_2058), (5, .inl x_2040), (1, .inr (.inr v1)), (2, .inr (.inr v2)), (3, .inr (.inr v3)), (4, .inl v4), (0, .inr (.inr (some b)))] (by decide) rfl dL_law_2061 (fun ls hl => ?_)
      refine tr_aload_n (k := 2) (x := v2) C hl 3 rfl dL_law_2063 ?_
      refine tr_backI (tr_runV (r := v2) (As := []) C hl.1 (c_X3_thrown l hll K _ v2) (cwV 0 C.1.2.2.2.2 (gi_V (zm kw_682) (zm kw_683) (zm kw_684) (zm kw_155) (zm kw_681)) rfl rfl rfl (by decide +kernel) ⟨(Nat.le_of_ble_eq_true rfl), (Nat.le_of_ble_eq_true rfl)⟩) rfl rfl dL_law_2064 ⟨(show (nc + 2) + 0 ≤ 645934 by omega), (show (ns + 12) + 0 ≤ 7158302 by omega)⟩ [] rfl (Nat.le_of_ble_eq_true rfl) rfl hW hS hw) hS (fun x_2064 G_2064 H locs hw hW hS => ?_)
      refine tr_iload (x := x_2040) C hl 1 rfl dL_law_2067 ?_
      refine lv_icmp_eq (tgt := 2074) C.1.1 C.1.2.1 dL_law_2069 (by decide) (fun hc => ?_) (fun hc => ?_)
      · have hw := hw.1 hc
        refine tr_iload (x := x_2040) C hl 1 rfl dL_law_2074 ?_
        refine lv_if_ne (tgt := 2092) C.1.1 C.1.2.1 dL_law_2076 (by decide) (fun hc => ?_) (fun hc => ?_)
        · have hw := hw.1 hc
          exact s_L_law_2092 C hr hX hbl hbA hA2 hcN hll k27 hk27 ((nc + 2)) ((ns + 12)) v1 v2 v3 v4 _ _ _ _ (show (nc + 2) ≤ 645934 ∧ (ns + 12) ≤ 7158302 by omega) hW hS (tl_sub hl [2, 3, 4, 5, 6] rfl) hw
        · have hw := hw.2 hc
          refine tr_aload_n (k := 3) (x := v3) C hl 4 rfl dL_law_2079 ?_
          refine tr_gfLN (C0 := RX2) (T := TX2) (N := 2) (ci := 4) (ref := "TwinrowLaw$Out") (host := "TwinrowLaw") (k := 0) (r := v3) C (zh hw_X2) rfl (by decide) (tc_kx C).1 rfl dL_law_2080 hW hw (fun x_2080 hw => ?_)
          refine tr_iload (x := x_2058) C hl 0 rfl dL_law_2083 ?_
          refine lv_i2l (v := ((x_2058).toInt64)) C.1.1 C.1.2.1 dL_law_2085 rfl ?_
          refine W.lcmp C.1.1 C.1.2.1 dL_law_2086 ?_
          refine lv_if_eq (tgt := 2092) C.1.1 C.1.2.1 dL_law_2087 (by decide) (fun hc => ?_) (fun hc => ?_)
          · have hw := hw.1 hc
            exact s_L_law_2092 C hr hX hbl hbA hA2 hcN hll k27 hk27 ((nc + 2)) ((ns + 12)) v1 v2 v3 v4 _ _ _ _ (show (nc + 2) ≤ 645934 ∧ (ns + 12) ≤ 7158302 by omega) hW hS (tl_sub hl [2, 3, 4, 5, 6] rfl) hw
          · have hw := hw.2 hc
            refine lv_iconst (v := (0 : Int32)) C.1.1 C.1.2.1 dL_law_2090 (by decide) ?_
            exact tr_law C hr hA2 dL_law_2091 (show (nc + 2) ≤ 645934 by omega) (show (ns + 12) ≤ 7158302 by omega) hS hw
      · have hw := hw.2 hc
        refine lv_iconst (v := (0 : Int32)) C.1.1 C.1.2.1 dL_law_2072 (by decide) ?_
        exact tr_law C hr hA2 dL_law_2073 (show (nc + 2) ≤ 645934 by omega) (show (ns + 12) ≤ 7158302 by omega) hS hw
    have hw := hw.2
    by_cases hc25 : (x_40 &&& (63 : Int32)) = (25 : Int32)
    · have hw := hw.1 hc25
      refine lv_tableIn (off := 2051) (tgt := 2095) C.1.1 C.1.2.1 dL_law_44 (by rw [hc25]; decide) (by rw [hc25]; decide) (by rw [hc25]; rfl) (by decide) ?_
      refine tr_aload_n (k := 1) (x := v1) C hl 0 rfl dL_law_2095 ?_
      refine tr_aload_n (k := 0) (x := (some b)) C hl 4 rfl dL_law_2096 ?_
      refine tr_iload (x := v4) C hl 3 rfl dL_law_2097 ?_
      refine lv_iconst (v := (1 : Int32)) C.1.1 C.1.2.1 dL_law_2099 (by decide) ?_
      refine lv_iadd C.1.1 C.1.2.1 dL_law_2100 ?_
      refine tr_sld C hX hbl hbA hS dL_law_2101 hw (fun x_2101 hw => ?_)
      refine tr_aload_n (k := 0) (x := (some b)) C hl 4 rfl dL_law_2102 ?_
      refine tr_iload (x := v4) C hl 3 rfl dL_law_2103 ?_
      refine lv_iconst (v := (2 : Int32)) C.1.1 C.1.2.1 dL_law_2105 (by decide) ?_
      refine lv_iadd C.1.1 C.1.2.1 dL_law_2106 ?_
      refine tr_sld C hX hbl hbA hS dL_law_2107 hw (fun x_2107 hw => ?_)
      refine lv_if_eq (tgt := 2115) C.1.1 C.1.2.1 dL_law_2108 (by decide) (fun hc => ?_) (fun hc => ?_)
      · have hw := hw.1 hc
        refine lv_iconst (v := (0 : Int32)) C.1.1 C.1.2.1 dL_law_2115 (by decide) ?_
        exact s_L_law_2116 C hr hX hbl hbA hA2 hcN hll k27 hk27 nc ns v1 v2 v3 v4 v1 x_2101 ((0 : Int32)) _ _ _ _ (show nc ≤ 645934 ∧ ns ≤ 7158302 by omega) hW hS (tl_sub hl [0, 1, 2, 3, 4] rfl) hw
      · have hw := hw.2 hc
        refine lv_iconst (v := (1 : Int32)) C.1.1 C.1.2.1 dL_law_2111 (by decide) ?_
        refine lv_goto (tgt := 2116) C.1.1 C.1.2.1 dL_law_2112 (by decide) ?_
        exact s_L_law_2116 C hr hX hbl hbA hA2 hcN hll k27 hk27 nc ns v1 v2 v3 v4 v1 x_2101 ((1 : Int32)) _ _ _ _ (show nc ≤ 645934 ∧ ns ≤ 7158302 by omega) hW hS (tl_sub hl [0, 1, 2, 3, 4] rfl) hw
    have hw := hw.2
    by_cases hc26 : (x_40 &&& (63 : Int32)) = (26 : Int32)
    · have hw := hw.1 hc26
      refine lv_tableIn (off := 2136) (tgt := 2180) C.1.1 C.1.2.1 dL_law_44 (by rw [hc26]; decide) (by rw [hc26]; decide) (by rw [hc26]; rfl) (by decide) ?_
      refine tr_aload_n (k := 1) (x := v1) C hl 0 rfl dL_law_2180 ?_
      refine tr_aload_n (k := 0) (x := (some b)) C hl 4 rfl dL_law_2181 ?_
      refine tr_iload (x := v4) C hl 3 rfl dL_law_2182 ?_
      refine lv_iconst (v := (1 : Int32)) C.1.1 C.1.2.1 dL_law_2184 (by decide) ?_
      refine lv_iadd C.1.1 C.1.2.1 dL_law_2185 ?_
      refine tr_sld C hX hbl hbA hS dL_law_2186 hw (fun x_2186 hw => ?_)
      refine tr_aload_n (k := 3) (x := v3) C hl 2 rfl dL_law_2187 ?_
      have hq36 := hw.1
      have hw := hw.2
      refine tx_backNI (tx_runSX (As := [va_rf v1, .int x_2186, va_rf v3]) C hl.1 (c_L_reverse l hll K _ v1 x_2186 v3) (vx_cwSW 3 C.1.2.2.2.2 (gi_SX (zm kw_869) (zm kw_870) (zm kw_692) (zm kw_868)) rfl rfl rfl (by decide +kernel) ⟨(Nat.le_of_ble_eq_true rfl), (Nat.le_of_ble_eq_true rfl)⟩) rfl dL_law_2188 ⟨hq36.1, hq36.2⟩ [] rfl (Nat.le_of_ble_eq_true rfl) rfl hW hS hw) hS (fun x_2188 G_2188 H locs hw hW hS => ?_)
      refine tr_istore (x := x_2188) C hl [(5, .inl x_2188), (1, .inr (.inr v1)), (2, .inr (.inr v2)), (3, .inr (.inr v3)), (4, .inl v4), (0, .inr (.inr (some b)))] (by decide) rfl dL_law_2191 (fun ls hl => ?_)
      refine tr_aload_n (k := 2) (x := v2) C hl 2 rfl dL_law_2193 ?_
      refine tr_aload_n (k := 0) (x := (some b)) C hl 5 rfl dL_law_2194 ?_
      refine tr_iload (x := v4) C hl 4 rfl dL_law_2195 ?_
      refine lv_iconst (v := (1 : Int32)) C.1.1 C.1.2.1 dL_law_2197 (by decide) ?_
      refine lv_iadd C.1.1 C.1.2.1 dL_law_2198 ?_
      refine tr_sld C hX hbl hbA hS dL_law_2199 hw (fun x_2199 hw => ?_)
      have hq37 := hw.1
      have hw := hw.2
      refine tr_backI (tr_runV (r := v2) (As := [.int x_2199]) C hl.1 (c_X3_reverse l hll K _ v2 x_2199) (cwV 1 C.1.2.2.2.2 (gi_V (zm kw_872) (zm kw_873) (zm kw_874) (zm kw_155) (zm kw_871)) rfl rfl rfl (by decide +kernel) ⟨(Nat.le_of_ble_eq_true rfl), (Nat.le_of_ble_eq_true rfl)⟩) rfl rfl dL_law_2200 ⟨hq37.1, hq37.2⟩ [] rfl (Nat.le_of_ble_eq_true rfl) rfl hW hS hw) hS (fun x_2200 G_2200 H locs hw hW hS => ?_)
      refine tr_istore (x := x_2200) C hl [(6, .inl x_2200), (5, .inl x_2188), (1, .inr (.inr v1)), (2, .inr (.inr v2)), (3, .inr (.inr v3)), (4, .inl v4), (0, .inr (.inr (some b)))] (by decide) rfl dL_law_2203 (fun ls hl => ?_)
      refine tr_aload_n (k := 2) (x := v2) C hl 3 rfl dL_law_2205 ?_
      refine tr_backI (tr_runV (r := v2) (As := []) C hl.1 (c_X3_thrown l hll K _ v2) (cwV 0 C.1.2.2.2.2 (gi_V (zm kw_682) (zm kw_683) (zm kw_684) (zm kw_155) (zm kw_681)) rfl rfl rfl (by decide +kernel) ⟨(Nat.le_of_ble_eq_true rfl), (Nat.le_of_ble_eq_true rfl)⟩) rfl rfl dL_law_2206 ⟨(show ((nc + 1) + 1) + 0 ≤ 645934 by omega), (show ((ns + 6) + 12) + 0 ≤ 7158302 by omega)⟩ [] rfl (Nat.le_of_ble_eq_true rfl) rfl hW hS hw) hS (fun x_2206 G_2206 H locs hw hW hS => ?_)
      refine tr_iload (x := x_2188) C hl 1 rfl dL_law_2209 ?_
      refine lv_icmp_eq (tgt := 2216) C.1.1 C.1.2.1 dL_law_2211 (by decide) (fun hc => ?_) (fun hc => ?_)
      · have hw := hw.1 hc
        refine tr_iload (x := x_2188) C hl 1 rfl dL_law_2216 ?_
        refine lv_if_ne (tgt := 2234) C.1.1 C.1.2.1 dL_law_2218 (by decide) (fun hc => ?_) (fun hc => ?_)
        · have hw := hw.1 hc
          exact s_L_law_2234 C hr hX hbl hbA hA2 hcN hll k27 hk27 (((nc + 1) + 1)) (((ns + 6) + 12)) v1 v2 v3 v4 _ _ _ _ (show ((nc + 1) + 1) ≤ 645934 ∧ ((ns + 6) + 12) ≤ 7158302 by omega) hW hS (tl_sub hl [2, 3, 4, 5, 6] rfl) hw
        · have hw := hw.2 hc
          refine tr_aload_n (k := 3) (x := v3) C hl 4 rfl dL_law_2221 ?_
          refine tr_gfLN (C0 := RX2) (T := TX2) (N := 2) (ci := 4) (ref := "TwinrowLaw$Out") (host := "TwinrowLaw") (k := 0) (r := v3) C (zh hw_X2) rfl (by decide) (tc_kx C).1 rfl dL_law_2222 hW hw (fun x_2222 hw => ?_)
          refine tr_iload (x := x_2200) C hl 0 rfl dL_law_2225 ?_
          refine lv_i2l (v := ((x_2200).toInt64)) C.1.1 C.1.2.1 dL_law_2227 rfl ?_
          refine W.lcmp C.1.1 C.1.2.1 dL_law_2228 ?_
          refine lv_if_eq (tgt := 2234) C.1.1 C.1.2.1 dL_law_2229 (by decide) (fun hc => ?_) (fun hc => ?_)
          · have hw := hw.1 hc
            exact s_L_law_2234 C hr hX hbl hbA hA2 hcN hll k27 hk27 (((nc + 1) + 1)) (((ns + 6) + 12)) v1 v2 v3 v4 _ _ _ _ (show ((nc + 1) + 1) ≤ 645934 ∧ ((ns + 6) + 12) ≤ 7158302 by omega) hW hS (tl_sub hl [2, 3, 4, 5, 6] rfl) hw
          · have hw := hw.2 hc
            refine lv_iconst (v := (0 : Int32)) C.1.1 C.1.2.1 dL_law_2232 (by decide) ?_
            exact tr_law C hr hA2 dL_law_2233 (show ((nc + 1) + 1) ≤ 645934 by omega) (show ((ns + 6) + 12) ≤ 7158302 by omega) hS hw
      · have hw := hw.2 hc
        refine lv_iconst (v := (0 : Int32)) C.1.1 C.1.2.1 dL_law_2214 (by decide) ?_
        exact tr_law C hr hA2 dL_law_2215 (show ((nc + 1) + 1) ≤ 645934 by omega) (show ((ns + 6) + 12) ≤ 7158302 by omega) hS hw
    have hw := hw.2
    by_cases hc27 : (x_40 &&& (63 : Int32)) = (27 : Int32)
    · have hw := hw.1 hc27
      refine lv_tableIn (off := 2193) (tgt := 2237) C.1.1 C.1.2.1 dL_law_44 (by rw [hc27]; decide) (by rw [hc27]; decide) (by rw [hc27]; rfl) (by decide) ?_
      refine tr_aload_n (k := 1) (x := v1) C hl 0 rfl dL_law_2237 ?_
      refine tr_aload_n (k := 0) (x := (some b)) C hl 4 rfl dL_law_2238 ?_
      refine tr_iload (x := v4) C hl 3 rfl dL_law_2239 ?_
      refine lv_iconst (v := (1 : Int32)) C.1.1 C.1.2.1 dL_law_2241 (by decide) ?_
      refine lv_iadd C.1.1 C.1.2.1 dL_law_2242 ?_
      refine tr_sld C hX hbl hbA hS dL_law_2243 hw (fun x_2243 hw => ?_)
      refine tr_aload_n (k := 0) (x := (some b)) C hl 4 rfl dL_law_2244 ?_
      refine tr_iload (x := v4) C hl 3 rfl dL_law_2245 ?_
      refine lv_iconst (v := (2 : Int32)) C.1.1 C.1.2.1 dL_law_2247 (by decide) ?_
      refine lv_iadd C.1.1 C.1.2.1 dL_law_2248 ?_
      refine tr_sld C hX hbl hbA hS dL_law_2249 hw (fun x_2249 hw => ?_)
      refine tr_aload_n (k := 3) (x := v3) C hl 2 rfl dL_law_2250 ?_
      have hq38 := hw.1
      have hw := hw.2
      refine tx_backNI (tx_runSX (As := [va_rf v1, .int x_2243, .int x_2249, va_rf v3]) C hl.1 (c_L_rotate l hll K _ v1 x_2243 x_2249 v3) (vx_cwSW 4 C.1.2.2.2.2 (gi_SX (zm kw_876) (zm kw_877) (zm kw_692) (zm kw_875)) rfl rfl rfl (by decide +kernel) ⟨(Nat.le_of_ble_eq_true rfl), (Nat.le_of_ble_eq_true rfl)⟩) rfl dL_law_2251 ⟨hq38.1, hq38.2⟩ [] rfl (Nat.le_of_ble_eq_true rfl) rfl hW hS hw) hS (fun x_2251 G_2251 H locs hw hW hS => ?_)
      refine tr_istore (x := x_2251) C hl [(5, .inl x_2251), (1, .inr (.inr v1)), (2, .inr (.inr v2)), (3, .inr (.inr v3)), (4, .inl v4), (0, .inr (.inr (some b)))] (by decide) rfl dL_law_2254 (fun ls hl => ?_)
      refine tr_aload_n (k := 2) (x := v2) C hl 2 rfl dL_law_2256 ?_
      refine tr_aload_n (k := 0) (x := (some b)) C hl 5 rfl dL_law_2257 ?_
      refine tr_iload (x := v4) C hl 4 rfl dL_law_2258 ?_
      refine lv_iconst (v := (1 : Int32)) C.1.1 C.1.2.1 dL_law_2260 (by decide) ?_
      refine lv_iadd C.1.1 C.1.2.1 dL_law_2261 ?_
      refine tr_sld C hX hbl hbA hS dL_law_2262 hw (fun x_2262 hw => ?_)
      refine tr_aload_n (k := 0) (x := (some b)) C hl 5 rfl dL_law_2263 ?_
      refine tr_iload (x := v4) C hl 4 rfl dL_law_2264 ?_
      refine lv_iconst (v := (2 : Int32)) C.1.1 C.1.2.1 dL_law_2266 (by decide) ?_
      refine lv_iadd C.1.1 C.1.2.1 dL_law_2267 ?_
      refine tr_sld C hX hbl hbA hS dL_law_2268 hw (fun x_2268 hw => ?_)
      have hq39 := hw.1
      have hw := hw.2
      refine tr_backI (tr_runV (r := v2) (As := [.int x_2262, .int x_2268]) C hl.1 (c_X3_rotate l hll K _ v2 x_2262 x_2268) (cwV 2 C.1.2.2.2.2 (gi_V (zm kw_879) (zm kw_880) (zm kw_881) (zm kw_155) (zm kw_878)) rfl rfl rfl (by decide +kernel) ⟨(Nat.le_of_ble_eq_true rfl), (Nat.le_of_ble_eq_true rfl)⟩) rfl rfl dL_law_2269 ⟨hq39.1, hq39.2⟩ [] rfl (Nat.le_of_ble_eq_true rfl) rfl hW hS hw) hS (fun x_2269 G_2269 H locs hw hW hS => ?_)
      refine tr_istore (x := x_2269) C hl [(6, .inl x_2269), (5, .inl x_2251), (1, .inr (.inr v1)), (2, .inr (.inr v2)), (3, .inr (.inr v3)), (4, .inl v4), (0, .inr (.inr (some b)))] (by decide) rfl dL_law_2272 (fun ls hl => ?_)
      refine tr_aload_n (k := 2) (x := v2) C hl 3 rfl dL_law_2274 ?_
      refine tr_backI (tr_runV (r := v2) (As := []) C hl.1 (c_X3_thrown l hll K _ v2) (cwV 0 C.1.2.2.2.2 (gi_V (zm kw_682) (zm kw_683) (zm kw_684) (zm kw_155) (zm kw_681)) rfl rfl rfl (by decide +kernel) ⟨(Nat.le_of_ble_eq_true rfl), (Nat.le_of_ble_eq_true rfl)⟩) rfl rfl dL_law_2275 ⟨(show ((nc + 2) + 1) + 0 ≤ 645934 by omega), (show ((ns + 12) + 12) + 0 ≤ 7158302 by omega)⟩ [] rfl (Nat.le_of_ble_eq_true rfl) rfl hW hS hw) hS (fun x_2275 G_2275 H locs hw hW hS => ?_)
      refine tr_iload (x := x_2251) C hl 1 rfl dL_law_2278 ?_
      refine lv_icmp_eq (tgt := 2285) C.1.1 C.1.2.1 dL_law_2280 (by decide) (fun hc => ?_) (fun hc => ?_)
      · have hw := hw.1 hc
        refine tr_iload (x := x_2251) C hl 1 rfl dL_law_2285 ?_
        refine lv_if_ne (tgt := 2303) C.1.1 C.1.2.1 dL_law_2287 (by decide) (fun hc => ?_) (fun hc => ?_)
        · have hw := hw.1 hc
          exact s_L_law_2303 C hr hX hbl hbA hA2 hcN hll k27 hk27 (((nc + 2) + 1)) (((ns + 12) + 12)) v1 v2 v3 v4 _ _ _ _ (show ((nc + 2) + 1) ≤ 645934 ∧ ((ns + 12) + 12) ≤ 7158302 by omega) hW hS (tl_sub hl [2, 3, 4, 5, 6] rfl) hw
        · have hw := hw.2 hc
          refine tr_aload_n (k := 3) (x := v3) C hl 4 rfl dL_law_2290 ?_
          refine tr_gfLN (C0 := RX2) (T := TX2) (N := 2) (ci := 4) (ref := "TwinrowLaw$Out") (host := "TwinrowLaw") (k := 0) (r := v3) C (zh hw_X2) rfl (by decide) (tc_kx C).1 rfl dL_law_2291 hW hw (fun x_2291 hw => ?_)
          refine tr_iload (x := x_2269) C hl 0 rfl dL_law_2294 ?_
          refine lv_i2l (v := ((x_2269).toInt64)) C.1.1 C.1.2.1 dL_law_2296 rfl ?_
          refine W.lcmp C.1.1 C.1.2.1 dL_law_2297 ?_
          refine lv_if_eq (tgt := 2303) C.1.1 C.1.2.1 dL_law_2298 (by decide) (fun hc => ?_) (fun hc => ?_)
          · have hw := hw.1 hc
            exact s_L_law_2303 C hr hX hbl hbA hA2 hcN hll k27 hk27 (((nc + 2) + 1)) (((ns + 12) + 12)) v1 v2 v3 v4 _ _ _ _ (show ((nc + 2) + 1) ≤ 645934 ∧ ((ns + 12) + 12) ≤ 7158302 by omega) hW hS (tl_sub hl [2, 3, 4, 5, 6] rfl) hw
          · have hw := hw.2 hc
            refine lv_iconst (v := (0 : Int32)) C.1.1 C.1.2.1 dL_law_2301 (by decide) ?_
            exact tr_law C hr hA2 dL_law_2302 (show ((nc + 2) + 1) ≤ 645934 by omega) (show ((ns + 12) + 12) ≤ 7158302 by omega) hS hw
      · have hw := hw.2 hc
        refine lv_iconst (v := (0 : Int32)) C.1.1 C.1.2.1 dL_law_2283 (by decide) ?_
        exact tr_law C hr hA2 dL_law_2284 (show ((nc + 2) + 1) ≤ 645934 by omega) (show ((ns + 12) + 12) ≤ 7158302 by omega) hS hw
    have hw := hw.2
    by_cases hc28 : (x_40 &&& (63 : Int32)) = (28 : Int32)
    · have hw := hw.1 hc28
      refine lv_tableIn (off := 2262) (tgt := 2306) C.1.1 C.1.2.1 dL_law_44 (by rw [hc28]; decide) (by rw [hc28]; decide) (by rw [hc28]; rfl) (by decide) ?_
      refine tr_aload_n (k := 1) (x := v1) C hl 0 rfl dL_law_2306 ?_
      refine tr_aload_n (k := 0) (x := (some b)) C hl 4 rfl dL_law_2307 ?_
      refine tr_iload (x := v4) C hl 3 rfl dL_law_2308 ?_
      refine lv_iconst (v := (1 : Int32)) C.1.1 C.1.2.1 dL_law_2310 (by decide) ?_
      refine lv_iadd C.1.1 C.1.2.1 dL_law_2311 ?_
      refine tr_sld C hX hbl hbA hS dL_law_2312 hw (fun x_2312 hw => ?_)
      refine tr_aload_n (k := 0) (x := (some b)) C hl 4 rfl dL_law_2313 ?_
      refine tr_iload (x := v4) C hl 3 rfl dL_law_2314 ?_
      refine lv_iconst (v := (2 : Int32)) C.1.1 C.1.2.1 dL_law_2316 (by decide) ?_
      refine lv_iadd C.1.1 C.1.2.1 dL_law_2317 ?_
      refine tr_sld C hX hbl hbA hS dL_law_2318 hw (fun x_2318 hw => ?_)
      refine tr_aload_n (k := 0) (x := (some b)) C hl 4 rfl dL_law_2319 ?_
      refine tr_iload (x := v4) C hl 3 rfl dL_law_2320 ?_
      refine lv_iconst (v := (3 : Int32)) C.1.1 C.1.2.1 dL_law_2322 (by decide) ?_
      refine lv_iadd C.1.1 C.1.2.1 dL_law_2323 ?_
      refine tr_sld C hX hbl hbA hS dL_law_2324 hw (fun x_2324 hw => ?_)
      refine tr_aload_n (k := 3) (x := v3) C hl 2 rfl dL_law_2325 ?_
      have hq40 := hw.1
      have hw := hw.2
      refine tx_backNI (tx_runSX (As := [va_rf v1, .int x_2312, .int x_2318, .int x_2324, va_rf v3]) C hl.1 (c_L_swap l hll K _ v1 x_2312 x_2318 x_2324 v3) (vx_cwSW 5 C.1.2.2.2.2 (gi_SX (zm kw_883) (zm kw_884) (zm kw_692) (zm kw_882)) rfl rfl rfl (by decide +kernel) ⟨(Nat.le_of_ble_eq_true rfl), (Nat.le_of_ble_eq_true rfl)⟩) rfl dL_law_2326 ⟨hq40.1, hq40.2⟩ [] rfl (Nat.le_of_ble_eq_true rfl) rfl hW hS hw) hS (fun x_2326 G_2326 H locs hw hW hS => ?_)
      refine tr_istore (x := x_2326) C hl [(5, .inl x_2326), (1, .inr (.inr v1)), (2, .inr (.inr v2)), (3, .inr (.inr v3)), (4, .inl v4), (0, .inr (.inr (some b)))] (by decide) rfl dL_law_2329 (fun ls hl => ?_)
      refine tr_aload_n (k := 2) (x := v2) C hl 2 rfl dL_law_2331 ?_
      refine tr_aload_n (k := 0) (x := (some b)) C hl 5 rfl dL_law_2332 ?_
      refine tr_iload (x := v4) C hl 4 rfl dL_law_2333 ?_
      refine lv_iconst (v := (1 : Int32)) C.1.1 C.1.2.1 dL_law_2335 (by decide) ?_
      refine lv_iadd C.1.1 C.1.2.1 dL_law_2336 ?_
      refine tr_sld C hX hbl hbA hS dL_law_2337 hw (fun x_2337 hw => ?_)
      refine tr_aload_n (k := 0) (x := (some b)) C hl 5 rfl dL_law_2338 ?_
      refine tr_iload (x := v4) C hl 4 rfl dL_law_2339 ?_
      refine lv_iconst (v := (2 : Int32)) C.1.1 C.1.2.1 dL_law_2341 (by decide) ?_
      refine lv_iadd C.1.1 C.1.2.1 dL_law_2342 ?_
      refine tr_sld C hX hbl hbA hS dL_law_2343 hw (fun x_2343 hw => ?_)
      refine tr_aload_n (k := 0) (x := (some b)) C hl 5 rfl dL_law_2344 ?_
      refine tr_iload (x := v4) C hl 4 rfl dL_law_2345 ?_
      refine lv_iconst (v := (3 : Int32)) C.1.1 C.1.2.1 dL_law_2347 (by decide) ?_
      refine lv_iadd C.1.1 C.1.2.1 dL_law_2348 ?_
      refine tr_sld C hX hbl hbA hS dL_law_2349 hw (fun x_2349 hw => ?_)
      refine tr_backI (tr_runV (r := v2) (As := [.int x_2337, .int x_2343, .int x_2349]) C hl.1 (c_X3_swap l hll K _ v2 x_2337 x_2343 x_2349) (cwV 3 C.1.2.2.2.2 (gi_V (zm kw_886) (zm kw_887) (zm kw_888) (zm kw_155) (zm kw_885)) rfl rfl rfl (by decide +kernel) ⟨(Nat.le_of_ble_eq_true rfl), (Nat.le_of_ble_eq_true rfl)⟩) rfl rfl dL_law_2350 ⟨(show (nc + 3) + 0 ≤ 645934 by omega), (show (ns + 18) + 0 ≤ 7158302 by omega)⟩ [] rfl (Nat.le_of_ble_eq_true rfl) rfl hW hS hw) hS (fun x_2350 G_2350 H locs hw hW hS => ?_)
      refine tr_istore (x := x_2350) C hl [(6, .inl x_2350), (5, .inl x_2326), (1, .inr (.inr v1)), (2, .inr (.inr v2)), (3, .inr (.inr v3)), (4, .inl v4), (0, .inr (.inr (some b)))] (by decide) rfl dL_law_2353 (fun ls hl => ?_)
      refine tr_aload_n (k := 2) (x := v2) C hl 3 rfl dL_law_2355 ?_
      refine tr_backI (tr_runV (r := v2) (As := []) C hl.1 (c_X3_thrown l hll K _ v2) (cwV 0 C.1.2.2.2.2 (gi_V (zm kw_682) (zm kw_683) (zm kw_684) (zm kw_155) (zm kw_681)) rfl rfl rfl (by decide +kernel) ⟨(Nat.le_of_ble_eq_true rfl), (Nat.le_of_ble_eq_true rfl)⟩) rfl rfl dL_law_2356 ⟨(show (nc + 3) + 0 ≤ 645934 by omega), (show (ns + 18) + 0 ≤ 7158302 by omega)⟩ [] rfl (Nat.le_of_ble_eq_true rfl) rfl hW hS hw) hS (fun x_2356 G_2356 H locs hw hW hS => ?_)
      refine tr_iload (x := x_2326) C hl 1 rfl dL_law_2359 ?_
      refine lv_icmp_eq (tgt := 2366) C.1.1 C.1.2.1 dL_law_2361 (by decide) (fun hc => ?_) (fun hc => ?_)
      · have hw := hw.1 hc
        refine tr_iload (x := x_2326) C hl 1 rfl dL_law_2366 ?_
        refine lv_if_ne (tgt := 2384) C.1.1 C.1.2.1 dL_law_2368 (by decide) (fun hc => ?_) (fun hc => ?_)
        · have hw := hw.1 hc
          exact s_L_law_2384 C hr hX hbl hbA hA2 hcN hll k27 hk27 ((nc + 3)) ((ns + 18)) v1 v2 v3 v4 _ _ _ _ (show (nc + 3) ≤ 645934 ∧ (ns + 18) ≤ 7158302 by omega) hW hS (tl_sub hl [2, 3, 4, 5, 6] rfl) hw
        · have hw := hw.2 hc
          refine tr_aload_n (k := 3) (x := v3) C hl 4 rfl dL_law_2371 ?_
          refine tr_gfLN (C0 := RX2) (T := TX2) (N := 2) (ci := 4) (ref := "TwinrowLaw$Out") (host := "TwinrowLaw") (k := 0) (r := v3) C (zh hw_X2) rfl (by decide) (tc_kx C).1 rfl dL_law_2372 hW hw (fun x_2372 hw => ?_)
          refine tr_iload (x := x_2350) C hl 0 rfl dL_law_2375 ?_
          refine lv_i2l (v := ((x_2350).toInt64)) C.1.1 C.1.2.1 dL_law_2377 rfl ?_
          refine W.lcmp C.1.1 C.1.2.1 dL_law_2378 ?_
          refine lv_if_eq (tgt := 2384) C.1.1 C.1.2.1 dL_law_2379 (by decide) (fun hc => ?_) (fun hc => ?_)
          · have hw := hw.1 hc
            exact s_L_law_2384 C hr hX hbl hbA hA2 hcN hll k27 hk27 ((nc + 3)) ((ns + 18)) v1 v2 v3 v4 _ _ _ _ (show (nc + 3) ≤ 645934 ∧ (ns + 18) ≤ 7158302 by omega) hW hS (tl_sub hl [2, 3, 4, 5, 6] rfl) hw
          · have hw := hw.2 hc
            refine lv_iconst (v := (0 : Int32)) C.1.1 C.1.2.1 dL_law_2382 (by decide) ?_
            exact tr_law C hr hA2 dL_law_2383 (show (nc + 3) ≤ 645934 by omega) (show (ns + 18) ≤ 7158302 by omega) hS hw
      · have hw := hw.2 hc
        refine lv_iconst (v := (0 : Int32)) C.1.1 C.1.2.1 dL_law_2364 (by decide) ?_
        exact tr_law C hr hA2 dL_law_2365 (show (nc + 3) ≤ 645934 by omega) (show (ns + 18) ≤ 7158302 by omega) hS hw
    have hw := hw.2
    by_cases hc29 : (x_40 &&& (63 : Int32)) = (29 : Int32)
    · have hw := hw.1 hc29
      refine lv_tableIn (off := 2343) (tgt := 2387) C.1.1 C.1.2.1 dL_law_44 (by rw [hc29]; decide) (by rw [hc29]; decide) (by rw [hc29]; rfl) (by decide) ?_
      refine tr_aload_n (k := 1) (x := v1) C hl 0 rfl dL_law_2387 ?_
      refine tr_aload_n (k := 0) (x := (some b)) C hl 4 rfl dL_law_2388 ?_
      refine tr_iload (x := v4) C hl 3 rfl dL_law_2389 ?_
      refine lv_iconst (v := (1 : Int32)) C.1.1 C.1.2.1 dL_law_2391 (by decide) ?_
      refine lv_iadd C.1.1 C.1.2.1 dL_law_2392 ?_
      refine tr_sld C hX hbl hbA hS dL_law_2393 hw (fun x_2393 hw => ?_)
      refine tr_aload_n (k := 0) (x := (some b)) C hl 4 rfl dL_law_2394 ?_
      refine tr_iload (x := v4) C hl 3 rfl dL_law_2395 ?_
      refine lv_iconst (v := (2 : Int32)) C.1.1 C.1.2.1 dL_law_2397 (by decide) ?_
      refine lv_iadd C.1.1 C.1.2.1 dL_law_2398 ?_
      refine tr_sld C hX hbl hbA hS dL_law_2399 hw (fun x_2399 hw => ?_)
      refine tr_aload_n (k := 3) (x := v3) C hl 2 rfl dL_law_2400 ?_
      have hq41 := hw.1
      have hw := hw.2
      refine tx_backNI (tx_runSX (As := [va_rf v1, .int x_2393, .int x_2399, va_rf v3]) C hl.1 (c_L_add l hll K _ v1 x_2393 x_2399 v3) (vx_cwSW 4 C.1.2.2.2.2 (gi_SX (zm kw_890) (zm kw_891) (zm kw_692) (zm kw_889)) rfl rfl rfl (by decide +kernel) ⟨(Nat.le_of_ble_eq_true rfl), (Nat.le_of_ble_eq_true rfl)⟩) rfl dL_law_2401 ⟨hq41.1, hq41.2⟩ [] rfl (Nat.le_of_ble_eq_true rfl) rfl hW hS hw) hS (fun x_2401 G_2401 H locs hw hW hS => ?_)
      refine tr_istore (x := x_2401) C hl [(5, .inl x_2401), (1, .inr (.inr v1)), (2, .inr (.inr v2)), (3, .inr (.inr v3)), (4, .inl v4), (0, .inr (.inr (some b)))] (by decide) rfl dL_law_2404 (fun ls hl => ?_)
      refine tr_aload_n (k := 2) (x := v2) C hl 2 rfl dL_law_2406 ?_
      refine tr_aload_n (k := 0) (x := (some b)) C hl 5 rfl dL_law_2407 ?_
      refine tr_iload (x := v4) C hl 4 rfl dL_law_2408 ?_
      refine lv_iconst (v := (1 : Int32)) C.1.1 C.1.2.1 dL_law_2410 (by decide) ?_
      refine lv_iadd C.1.1 C.1.2.1 dL_law_2411 ?_
      refine tr_sld C hX hbl hbA hS dL_law_2412 hw (fun x_2412 hw => ?_)
      refine tr_aload_n (k := 0) (x := (some b)) C hl 5 rfl dL_law_2413 ?_
      refine tr_iload (x := v4) C hl 4 rfl dL_law_2414 ?_
      refine lv_iconst (v := (2 : Int32)) C.1.1 C.1.2.1 dL_law_2416 (by decide) ?_
      refine lv_iadd C.1.1 C.1.2.1 dL_law_2417 ?_
      refine tr_sld C hX hbl hbA hS dL_law_2418 hw (fun x_2418 hw => ?_)
      refine tr_backI (tr_runV (r := v2) (As := [.int x_2412, .int x_2418]) C hl.1 (c_X3_add l hll K _ v2 x_2412 x_2418) (cwV 2 C.1.2.2.2.2 (gi_V (zm kw_893) (zm kw_894) (zm kw_895) (zm kw_155) (zm kw_892)) rfl rfl rfl (by decide +kernel) ⟨(Nat.le_of_ble_eq_true rfl), (Nat.le_of_ble_eq_true rfl)⟩) rfl rfl dL_law_2419 ⟨(show (nc + 2) + 0 ≤ 645934 by omega), (show (ns + 12) + 0 ≤ 7158302 by omega)⟩ [] rfl (Nat.le_of_ble_eq_true rfl) rfl hW hS hw) hS (fun x_2419 G_2419 H locs hw hW hS => ?_)
      refine tr_istore (x := x_2419) C hl [(6, .inl x_2419), (5, .inl x_2401), (1, .inr (.inr v1)), (2, .inr (.inr v2)), (3, .inr (.inr v3)), (4, .inl v4), (0, .inr (.inr (some b)))] (by decide) rfl dL_law_2422 (fun ls hl => ?_)
      refine tr_aload_n (k := 2) (x := v2) C hl 3 rfl dL_law_2424 ?_
      refine tr_backI (tr_runV (r := v2) (As := []) C hl.1 (c_X3_thrown l hll K _ v2) (cwV 0 C.1.2.2.2.2 (gi_V (zm kw_682) (zm kw_683) (zm kw_684) (zm kw_155) (zm kw_681)) rfl rfl rfl (by decide +kernel) ⟨(Nat.le_of_ble_eq_true rfl), (Nat.le_of_ble_eq_true rfl)⟩) rfl rfl dL_law_2425 ⟨(show (nc + 2) + 0 ≤ 645934 by omega), (show (ns + 12) + 0 ≤ 7158302 by omega)⟩ [] rfl (Nat.le_of_ble_eq_true rfl) rfl hW hS hw) hS (fun x_2425 G_2425 H locs hw hW hS => ?_)
      refine tr_iload (x := x_2401) C hl 1 rfl dL_law_2428 ?_
      refine lv_icmp_eq (tgt := 2435) C.1.1 C.1.2.1 dL_law_2430 (by decide) (fun hc => ?_) (fun hc => ?_)
      · have hw := hw.1 hc
        refine tr_iload (x := x_2401) C hl 1 rfl dL_law_2435 ?_
        refine lv_if_ne (tgt := 2453) C.1.1 C.1.2.1 dL_law_2437 (by decide) (fun hc => ?_) (fun hc => ?_)
        · have hw := hw.1 hc
          exact s_L_law_2453 C hr hX hbl hbA hA2 hcN hll k27 hk27 ((nc + 2)) ((ns + 12)) v1 v2 v3 v4 _ _ _ _ (show (nc + 2) ≤ 645934 ∧ (ns + 12) ≤ 7158302 by omega) hW hS (tl_sub hl [2, 3, 4, 5, 6] rfl) hw
        · have hw := hw.2 hc
          refine tr_aload_n (k := 3) (x := v3) C hl 4 rfl dL_law_2440 ?_
          refine tr_gfLN (C0 := RX2) (T := TX2) (N := 2) (ci := 4) (ref := "TwinrowLaw$Out") (host := "TwinrowLaw") (k := 0) (r := v3) C (zh hw_X2) rfl (by decide) (tc_kx C).1 rfl dL_law_2441 hW hw (fun x_2441 hw => ?_)
          refine tr_iload (x := x_2419) C hl 0 rfl dL_law_2444 ?_
          refine lv_i2l (v := ((x_2419).toInt64)) C.1.1 C.1.2.1 dL_law_2446 rfl ?_
          refine W.lcmp C.1.1 C.1.2.1 dL_law_2447 ?_
          refine lv_if_eq (tgt := 2453) C.1.1 C.1.2.1 dL_law_2448 (by decide) (fun hc => ?_) (fun hc => ?_)
          · have hw := hw.1 hc
            exact s_L_law_2453 C hr hX hbl hbA hA2 hcN hll k27 hk27 ((nc + 2)) ((ns + 12)) v1 v2 v3 v4 _ _ _ _ (show (nc + 2) ≤ 645934 ∧ (ns + 12) ≤ 7158302 by omega) hW hS (tl_sub hl [2, 3, 4, 5, 6] rfl) hw
          · have hw := hw.2 hc
            refine lv_iconst (v := (0 : Int32)) C.1.1 C.1.2.1 dL_law_2451 (by decide) ?_
            exact tr_law C hr hA2 dL_law_2452 (show (nc + 2) ≤ 645934 by omega) (show (ns + 12) ≤ 7158302 by omega) hS hw
      · have hw := hw.2 hc
        refine lv_iconst (v := (0 : Int32)) C.1.1 C.1.2.1 dL_law_2433 (by decide) ?_
        exact tr_law C hr hA2 dL_law_2434 (show (nc + 2) ≤ 645934 by omega) (show (ns + 12) ≤ 7158302 by omega) hS hw
    have hw := hw.2
    by_cases hc30 : (x_40 &&& (63 : Int32)) = (30 : Int32)
    · have hw := hw.1 hc30
      refine lv_tableIn (off := 2412) (tgt := 2456) C.1.1 C.1.2.1 dL_law_44 (by rw [hc30]; decide) (by rw [hc30]; decide) (by rw [hc30]; rfl) (by decide) ?_
      refine tr_aload_n (k := 1) (x := v1) C hl 0 rfl dL_law_2456 ?_
      refine tr_aload_n (k := 0) (x := (some b)) C hl 4 rfl dL_law_2457 ?_
      refine tr_iload (x := v4) C hl 3 rfl dL_law_2458 ?_
      refine lv_iconst (v := (1 : Int32)) C.1.1 C.1.2.1 dL_law_2460 (by decide) ?_
      refine lv_iadd C.1.1 C.1.2.1 dL_law_2461 ?_
      refine tr_sld C hX hbl hbA hS dL_law_2462 hw (fun x_2462 hw => ?_)
      refine tr_aload_n (k := 0) (x := (some b)) C hl 4 rfl dL_law_2463 ?_
      refine tr_iload (x := v4) C hl 3 rfl dL_law_2464 ?_
      refine lv_iconst (v := (2 : Int32)) C.1.1 C.1.2.1 dL_law_2466 (by decide) ?_
      refine lv_iadd C.1.1 C.1.2.1 dL_law_2467 ?_
      refine tr_sld C hX hbl hbA hS dL_law_2468 hw (fun x_2468 hw => ?_)
      refine tr_aload_n (k := 0) (x := (some b)) C hl 4 rfl dL_law_2469 ?_
      refine tr_iload (x := v4) C hl 3 rfl dL_law_2470 ?_
      refine lv_iconst (v := (3 : Int32)) C.1.1 C.1.2.1 dL_law_2472 (by decide) ?_
      refine lv_iadd C.1.1 C.1.2.1 dL_law_2473 ?_
      refine tr_sld C hX hbl hbA hS dL_law_2474 hw (fun x_2474 hw => ?_)
      refine tr_aload_n (k := 3) (x := v3) C hl 2 rfl dL_law_2475 ?_
      have hq42 := hw.1
      have hw := hw.2
      refine tx_backNI (tx_runSX (As := [va_rf v1, .int x_2462, .int x_2468, .int x_2474, va_rf v3]) C hl.1 (c_L_addAt l hll K _ v1 x_2462 x_2468 x_2474 v3) (vx_cwSW 5 C.1.2.2.2.2 (gi_SX (zm kw_897) (zm kw_898) (zm kw_692) (zm kw_896)) rfl rfl rfl (by decide +kernel) ⟨(Nat.le_of_ble_eq_true rfl), (Nat.le_of_ble_eq_true rfl)⟩) rfl dL_law_2476 ⟨hq42.1, hq42.2⟩ [] rfl (Nat.le_of_ble_eq_true rfl) rfl hW hS hw) hS (fun x_2476 G_2476 H locs hw hW hS => ?_)
      refine tr_istore (x := x_2476) C hl [(5, .inl x_2476), (1, .inr (.inr v1)), (2, .inr (.inr v2)), (3, .inr (.inr v3)), (4, .inl v4), (0, .inr (.inr (some b)))] (by decide) rfl dL_law_2479 (fun ls hl => ?_)
      refine tr_aload_n (k := 2) (x := v2) C hl 2 rfl dL_law_2481 ?_
      refine tr_aload_n (k := 0) (x := (some b)) C hl 5 rfl dL_law_2482 ?_
      refine tr_iload (x := v4) C hl 4 rfl dL_law_2483 ?_
      refine lv_iconst (v := (1 : Int32)) C.1.1 C.1.2.1 dL_law_2485 (by decide) ?_
      refine lv_iadd C.1.1 C.1.2.1 dL_law_2486 ?_
      refine tr_sld C hX hbl hbA hS dL_law_2487 hw (fun x_2487 hw => ?_)
      refine tr_aload_n (k := 0) (x := (some b)) C hl 5 rfl dL_law_2488 ?_
      refine tr_iload (x := v4) C hl 4 rfl dL_law_2489 ?_
      refine lv_iconst (v := (2 : Int32)) C.1.1 C.1.2.1 dL_law_2491 (by decide) ?_
      refine lv_iadd C.1.1 C.1.2.1 dL_law_2492 ?_
      refine tr_sld C hX hbl hbA hS dL_law_2493 hw (fun x_2493 hw => ?_)
      refine tr_aload_n (k := 0) (x := (some b)) C hl 5 rfl dL_law_2494 ?_
      refine tr_iload (x := v4) C hl 4 rfl dL_law_2495 ?_
      refine lv_iconst (v := (3 : Int32)) C.1.1 C.1.2.1 dL_law_2497 (by decide) ?_
      refine lv_iadd C.1.1 C.1.2.1 dL_law_2498 ?_
      refine tr_sld C hX hbl hbA hS dL_law_2499 hw (fun x_2499 hw => ?_)
      refine tr_backI (tr_runV (r := v2) (As := [.int x_2487, .int x_2493, .int x_2499]) C hl.1 (c_X3_addAt l hll K _ v2 x_2487 x_2493 x_2499) (cwV 3 C.1.2.2.2.2 (gi_V (zm kw_900) (zm kw_901) (zm kw_902) (zm kw_155) (zm kw_899)) rfl rfl rfl (by decide +kernel) ⟨(Nat.le_of_ble_eq_true rfl), (Nat.le_of_ble_eq_true rfl)⟩) rfl rfl dL_law_2500 ⟨(show (nc + 3) + 0 ≤ 645934 by omega), (show (ns + 18) + 0 ≤ 7158302 by omega)⟩ [] rfl (Nat.le_of_ble_eq_true rfl) rfl hW hS hw) hS (fun x_2500 G_2500 H locs hw hW hS => ?_)
      refine tr_istore (x := x_2500) C hl [(6, .inl x_2500), (5, .inl x_2476), (1, .inr (.inr v1)), (2, .inr (.inr v2)), (3, .inr (.inr v3)), (4, .inl v4), (0, .inr (.inr (some b)))] (by decide) rfl dL_law_2503 (fun ls hl => ?_)
      refine tr_aload_n (k := 2) (x := v2) C hl 3 rfl dL_law_2505 ?_
      refine tr_backI (tr_runV (r := v2) (As := []) C hl.1 (c_X3_thrown l hll K _ v2) (cwV 0 C.1.2.2.2.2 (gi_V (zm kw_682) (zm kw_683) (zm kw_684) (zm kw_155) (zm kw_681)) rfl rfl rfl (by decide +kernel) ⟨(Nat.le_of_ble_eq_true rfl), (Nat.le_of_ble_eq_true rfl)⟩) rfl rfl dL_law_2506 ⟨(show (nc + 3) + 0 ≤ 645934 by omega), (show (ns + 18) + 0 ≤ 7158302 by omega)⟩ [] rfl (Nat.le_of_ble_eq_true rfl) rfl hW hS hw) hS (fun x_2506 G_2506 H locs hw hW hS => ?_)
      refine tr_iload (x := x_2476) C hl 1 rfl dL_law_2509 ?_
      refine lv_icmp_eq (tgt := 2516) C.1.1 C.1.2.1 dL_law_2511 (by decide) (fun hc => ?_) (fun hc => ?_)
      · have hw := hw.1 hc
        refine tr_iload (x := x_2476) C hl 1 rfl dL_law_2516 ?_
        refine lv_if_ne (tgt := 2534) C.1.1 C.1.2.1 dL_law_2518 (by decide) (fun hc => ?_) (fun hc => ?_)
        · have hw := hw.1 hc
          exact s_L_law_2534 C hr hX hbl hbA hA2 hcN hll k27 hk27 ((nc + 3)) ((ns + 18)) v1 v2 v3 v4 _ _ _ _ (show (nc + 3) ≤ 645934 ∧ (ns + 18) ≤ 7158302 by omega) hW hS (tl_sub hl [2, 3, 4, 5, 6] rfl) hw
        · have hw := hw.2 hc
          refine tr_aload_n (k := 3) (x := v3) C hl 4 rfl dL_law_2521 ?_
          refine tr_gfLN (C0 := RX2) (T := TX2) (N := 2) (ci := 4) (ref := "TwinrowLaw$Out") (host := "TwinrowLaw") (k := 0) (r := v3) C (zh hw_X2) rfl (by decide) (tc_kx C).1 rfl dL_law_2522 hW hw (fun x_2522 hw => ?_)
          refine tr_iload (x := x_2500) C hl 0 rfl dL_law_2525 ?_
          refine lv_i2l (v := ((x_2500).toInt64)) C.1.1 C.1.2.1 dL_law_2527 rfl ?_
          refine W.lcmp C.1.1 C.1.2.1 dL_law_2528 ?_
          refine lv_if_eq (tgt := 2534) C.1.1 C.1.2.1 dL_law_2529 (by decide) (fun hc => ?_) (fun hc => ?_)
          · have hw := hw.1 hc
            exact s_L_law_2534 C hr hX hbl hbA hA2 hcN hll k27 hk27 ((nc + 3)) ((ns + 18)) v1 v2 v3 v4 _ _ _ _ (show (nc + 3) ≤ 645934 ∧ (ns + 18) ≤ 7158302 by omega) hW hS (tl_sub hl [2, 3, 4, 5, 6] rfl) hw
          · have hw := hw.2 hc
            refine lv_iconst (v := (0 : Int32)) C.1.1 C.1.2.1 dL_law_2532 (by decide) ?_
            exact tr_law C hr hA2 dL_law_2533 (show (nc + 3) ≤ 645934 by omega) (show (ns + 18) ≤ 7158302 by omega) hS hw
      · have hw := hw.2 hc
        refine lv_iconst (v := (0 : Int32)) C.1.1 C.1.2.1 dL_law_2514 (by decide) ?_
        exact tr_law C hr hA2 dL_law_2515 (show (nc + 3) ≤ 645934 by omega) (show (ns + 18) ≤ 7158302 by omega) hS hw
    have hw := hw.2
    by_cases hc31 : (x_40 &&& (63 : Int32)) = (31 : Int32)
    · have hw := hw.1 hc31
      refine lv_tableIn (off := 2493) (tgt := 2537) C.1.1 C.1.2.1 dL_law_44 (by rw [hc31]; decide) (by rw [hc31]; decide) (by rw [hc31]; rfl) (by decide) ?_
      refine tr_aload_n (k := 1) (x := v1) C hl 0 rfl dL_law_2537 ?_
      refine tr_aload_n (k := 0) (x := (some b)) C hl 4 rfl dL_law_2538 ?_
      refine tr_iload (x := v4) C hl 3 rfl dL_law_2539 ?_
      refine lv_iconst (v := (1 : Int32)) C.1.1 C.1.2.1 dL_law_2541 (by decide) ?_
      refine lv_iadd C.1.1 C.1.2.1 dL_law_2542 ?_
      refine tr_sld C hX hbl hbA hS dL_law_2543 hw (fun x_2543 hw => ?_)
      refine tr_aload_n (k := 0) (x := (some b)) C hl 4 rfl dL_law_2544 ?_
      refine tr_iload (x := v4) C hl 3 rfl dL_law_2545 ?_
      refine lv_iconst (v := (2 : Int32)) C.1.1 C.1.2.1 dL_law_2547 (by decide) ?_
      refine lv_iadd C.1.1 C.1.2.1 dL_law_2548 ?_
      refine tr_sld C hX hbl hbA hS dL_law_2549 hw (fun x_2549 hw => ?_)
      refine tr_aload_n (k := 3) (x := v3) C hl 2 rfl dL_law_2550 ?_
      have hq43 := hw.1
      have hw := hw.2
      refine tx_backNI (tx_runSX (As := [va_rf v1, .int x_2543, .int x_2549, va_rf v3]) C hl.1 (c_L_addAll l hll K _ v1 x_2543 x_2549 v3) (vx_cwSW 4 C.1.2.2.2.2 (gi_SX (zm kw_904) (zm kw_905) (zm kw_692) (zm kw_903)) rfl rfl rfl (by decide +kernel) ⟨(Nat.le_of_ble_eq_true rfl), (Nat.le_of_ble_eq_true rfl)⟩) rfl dL_law_2551 ⟨hq43.1, hq43.2⟩ [] rfl (Nat.le_of_ble_eq_true rfl) rfl hW hS hw) hS (fun x_2551 G_2551 H locs hw hW hS => ?_)
      refine tr_istore (x := x_2551) C hl [(5, .inl x_2551), (1, .inr (.inr v1)), (2, .inr (.inr v2)), (3, .inr (.inr v3)), (4, .inl v4), (0, .inr (.inr (some b)))] (by decide) rfl dL_law_2554 (fun ls hl => ?_)
      refine tr_aload_n (k := 2) (x := v2) C hl 2 rfl dL_law_2556 ?_
      refine tr_aload_n (k := 0) (x := (some b)) C hl 5 rfl dL_law_2557 ?_
      refine tr_iload (x := v4) C hl 4 rfl dL_law_2558 ?_
      refine lv_iconst (v := (1 : Int32)) C.1.1 C.1.2.1 dL_law_2560 (by decide) ?_
      refine lv_iadd C.1.1 C.1.2.1 dL_law_2561 ?_
      refine tr_sld C hX hbl hbA hS dL_law_2562 hw (fun x_2562 hw => ?_)
      refine tr_aload_n (k := 0) (x := (some b)) C hl 5 rfl dL_law_2563 ?_
      refine tr_iload (x := v4) C hl 4 rfl dL_law_2564 ?_
      refine lv_iconst (v := (2 : Int32)) C.1.1 C.1.2.1 dL_law_2566 (by decide) ?_
      refine lv_iadd C.1.1 C.1.2.1 dL_law_2567 ?_
      refine tr_sld C hX hbl hbA hS dL_law_2568 hw (fun x_2568 hw => ?_)
      refine tr_backI (tr_runV (r := v2) (As := [.int x_2562, .int x_2568]) C hl.1 (c_X3_addAll l hll K _ v2 x_2562 x_2568) (cwV 2 C.1.2.2.2.2 (gi_V (zm kw_907) (zm kw_908) (zm kw_909) (zm kw_155) (zm kw_906)) rfl rfl rfl (by decide +kernel) ⟨(Nat.le_of_ble_eq_true rfl), (Nat.le_of_ble_eq_true rfl)⟩) rfl rfl dL_law_2569 ⟨(show (nc + 2) + 0 ≤ 645934 by omega), (show (ns + 12) + 0 ≤ 7158302 by omega)⟩ [] rfl (Nat.le_of_ble_eq_true rfl) rfl hW hS hw) hS (fun x_2569 G_2569 H locs hw hW hS => ?_)
      refine tr_istore (x := x_2569) C hl [(6, .inl x_2569), (5, .inl x_2551), (1, .inr (.inr v1)), (2, .inr (.inr v2)), (3, .inr (.inr v3)), (4, .inl v4), (0, .inr (.inr (some b)))] (by decide) rfl dL_law_2572 (fun ls hl => ?_)
      refine tr_aload_n (k := 2) (x := v2) C hl 3 rfl dL_law_2574 ?_
      refine tr_backI (tr_runV (r := v2) (As := []) C hl.1 (c_X3_thrown l hll K _ v2) (cwV 0 C.1.2.2.2.2 (gi_V (zm kw_682) (zm kw_683) (zm kw_684) (zm kw_155) (zm kw_681)) rfl rfl rfl (by decide +kernel) ⟨(Nat.le_of_ble_eq_true rfl), (Nat.le_of_ble_eq_true rfl)⟩) rfl rfl dL_law_2575 ⟨(show (nc + 2) + 0 ≤ 645934 by omega), (show (ns + 12) + 0 ≤ 7158302 by omega)⟩ [] rfl (Nat.le_of_ble_eq_true rfl) rfl hW hS hw) hS (fun x_2575 G_2575 H locs hw hW hS => ?_)
      refine tr_iload (x := x_2551) C hl 1 rfl dL_law_2578 ?_
      refine lv_icmp_eq (tgt := 2585) C.1.1 C.1.2.1 dL_law_2580 (by decide) (fun hc => ?_) (fun hc => ?_)
      · have hw := hw.1 hc
        refine tr_iload (x := x_2551) C hl 1 rfl dL_law_2585 ?_
        refine lv_if_ne (tgt := 2603) C.1.1 C.1.2.1 dL_law_2587 (by decide) (fun hc => ?_) (fun hc => ?_)
        · have hw := hw.1 hc
          exact s_L_law_2603 C hr hX hbl hbA hA2 hcN hll k27 hk27 ((nc + 2)) ((ns + 12)) v1 v2 v3 v4 _ _ _ _ (show (nc + 2) ≤ 645934 ∧ (ns + 12) ≤ 7158302 by omega) hW hS (tl_sub hl [2, 3, 4, 5, 6] rfl) hw
        · have hw := hw.2 hc
          refine tr_aload_n (k := 3) (x := v3) C hl 4 rfl dL_law_2590 ?_
          refine tr_gfLN (C0 := RX2) (T := TX2) (N := 2) (ci := 4) (ref := "TwinrowLaw$Out") (host := "TwinrowLaw") (k := 0) (r := v3) C (zh hw_X2) rfl (by decide) (tc_kx C).1 rfl dL_law_2591 hW hw (fun x_2591 hw => ?_)
          refine tr_iload (x := x_2569) C hl 0 rfl dL_law_2594 ?_
          refine lv_i2l (v := ((x_2569).toInt64)) C.1.1 C.1.2.1 dL_law_2596 rfl ?_
          refine W.lcmp C.1.1 C.1.2.1 dL_law_2597 ?_
          refine lv_if_eq (tgt := 2603) C.1.1 C.1.2.1 dL_law_2598 (by decide) (fun hc => ?_) (fun hc => ?_)
          · have hw := hw.1 hc
            exact s_L_law_2603 C hr hX hbl hbA hA2 hcN hll k27 hk27 ((nc + 2)) ((ns + 12)) v1 v2 v3 v4 _ _ _ _ (show (nc + 2) ≤ 645934 ∧ (ns + 12) ≤ 7158302 by omega) hW hS (tl_sub hl [2, 3, 4, 5, 6] rfl) hw
          · have hw := hw.2 hc
            refine lv_iconst (v := (0 : Int32)) C.1.1 C.1.2.1 dL_law_2601 (by decide) ?_
            exact tr_law C hr hA2 dL_law_2602 (show (nc + 2) ≤ 645934 by omega) (show (ns + 12) ≤ 7158302 by omega) hS hw
      · have hw := hw.2 hc
        refine lv_iconst (v := (0 : Int32)) C.1.1 C.1.2.1 dL_law_2583 (by decide) ?_
        exact tr_law C hr hA2 dL_law_2584 (show (nc + 2) ≤ 645934 by omega) (show (ns + 12) ≤ 7158302 by omega) hS hw
    have hw := hw.2
    by_cases hc32 : (x_40 &&& (63 : Int32)) = (32 : Int32)
    · have hw := hw.1 hc32
      refine lv_tableIn (off := 2562) (tgt := 2606) C.1.1 C.1.2.1 dL_law_44 (by rw [hc32]; decide) (by rw [hc32]; decide) (by rw [hc32]; rfl) (by decide) ?_
      refine tr_aload_n (k := 1) (x := v1) C hl 0 rfl dL_law_2606 ?_
      refine tr_aload_n (k := 0) (x := (some b)) C hl 4 rfl dL_law_2607 ?_
      refine tr_iload (x := v4) C hl 3 rfl dL_law_2608 ?_
      refine lv_iconst (v := (1 : Int32)) C.1.1 C.1.2.1 dL_law_2610 (by decide) ?_
      refine lv_iadd C.1.1 C.1.2.1 dL_law_2611 ?_
      refine tr_sld C hX hbl hbA hS dL_law_2612 hw (fun x_2612 hw => ?_)
      refine tr_aload_n (k := 0) (x := (some b)) C hl 4 rfl dL_law_2613 ?_
      refine tr_iload (x := v4) C hl 3 rfl dL_law_2614 ?_
      refine lv_iconst (v := (2 : Int32)) C.1.1 C.1.2.1 dL_law_2616 (by decide) ?_
      refine lv_iadd C.1.1 C.1.2.1 dL_law_2617 ?_
      refine tr_sld C hX hbl hbA hS dL_law_2618 hw (fun x_2618 hw => ?_)
      refine tr_aload_n (k := 3) (x := v3) C hl 2 rfl dL_law_2619 ?_
      have hq44 := hw.1
      have hw := hw.2
      refine tx_backNI (tx_runSX (As := [va_rf v1, .int x_2612, .int x_2618, va_rf v3]) C hl.1 (c_L_remove l hll K _ v1 x_2612 x_2618 v3) (vx_cwSW 4 C.1.2.2.2.2 (gi_SX (zm kw_911) (zm kw_912) (zm kw_692) (zm kw_910)) rfl rfl rfl (by decide +kernel) ⟨(Nat.le_of_ble_eq_true rfl), (Nat.le_of_ble_eq_true rfl)⟩) rfl dL_law_2620 ⟨hq44.1, hq44.2⟩ [] rfl (Nat.le_of_ble_eq_true rfl) rfl hW hS hw) hS (fun x_2620 G_2620 H locs hw hW hS => ?_)
      refine tr_istore (x := x_2620) C hl [(5, .inl x_2620), (1, .inr (.inr v1)), (2, .inr (.inr v2)), (3, .inr (.inr v3)), (4, .inl v4), (0, .inr (.inr (some b)))] (by decide) rfl dL_law_2623 (fun ls hl => ?_)
      refine tr_aload_n (k := 2) (x := v2) C hl 2 rfl dL_law_2625 ?_
      refine tr_aload_n (k := 0) (x := (some b)) C hl 5 rfl dL_law_2626 ?_
      refine tr_iload (x := v4) C hl 4 rfl dL_law_2627 ?_
      refine lv_iconst (v := (1 : Int32)) C.1.1 C.1.2.1 dL_law_2629 (by decide) ?_
      refine lv_iadd C.1.1 C.1.2.1 dL_law_2630 ?_
      refine tr_sld C hX hbl hbA hS dL_law_2631 hw (fun x_2631 hw => ?_)
      refine tr_aload_n (k := 0) (x := (some b)) C hl 5 rfl dL_law_2632 ?_
      refine tr_iload (x := v4) C hl 4 rfl dL_law_2633 ?_
      refine lv_iconst (v := (2 : Int32)) C.1.1 C.1.2.1 dL_law_2635 (by decide) ?_
      refine lv_iadd C.1.1 C.1.2.1 dL_law_2636 ?_
      refine tr_sld C hX hbl hbA hS dL_law_2637 hw (fun x_2637 hw => ?_)
      refine tr_backI (tr_runV (r := v2) (As := [.int x_2631, .int x_2637]) C hl.1 (c_X3_remove l hll K _ v2 x_2631 x_2637) (cwV 2 C.1.2.2.2.2 (gi_V (zm kw_914) (zm kw_915) (zm kw_916) (zm kw_155) (zm kw_913)) rfl rfl rfl (by decide +kernel) ⟨(Nat.le_of_ble_eq_true rfl), (Nat.le_of_ble_eq_true rfl)⟩) rfl rfl dL_law_2638 ⟨(show (nc + 2) + 0 ≤ 645934 by omega), (show (ns + 12) + 0 ≤ 7158302 by omega)⟩ [] rfl (Nat.le_of_ble_eq_true rfl) rfl hW hS hw) hS (fun x_2638 G_2638 H locs hw hW hS => ?_)
      refine tr_istore (x := x_2638) C hl [(6, .inl x_2638), (5, .inl x_2620), (1, .inr (.inr v1)), (2, .inr (.inr v2)), (3, .inr (.inr v3)), (4, .inl v4), (0, .inr (.inr (some b)))] (by decide) rfl dL_law_2641 (fun ls hl => ?_)
      refine tr_aload_n (k := 2) (x := v2) C hl 3 rfl dL_law_2643 ?_
      refine tr_backI (tr_runV (r := v2) (As := []) C hl.1 (c_X3_thrown l hll K _ v2) (cwV 0 C.1.2.2.2.2 (gi_V (zm kw_682) (zm kw_683) (zm kw_684) (zm kw_155) (zm kw_681)) rfl rfl rfl (by decide +kernel) ⟨(Nat.le_of_ble_eq_true rfl), (Nat.le_of_ble_eq_true rfl)⟩) rfl rfl dL_law_2644 ⟨(show (nc + 2) + 0 ≤ 645934 by omega), (show (ns + 12) + 0 ≤ 7158302 by omega)⟩ [] rfl (Nat.le_of_ble_eq_true rfl) rfl hW hS hw) hS (fun x_2644 G_2644 H locs hw hW hS => ?_)
      refine tr_iload (x := x_2620) C hl 1 rfl dL_law_2647 ?_
      refine lv_icmp_eq (tgt := 2654) C.1.1 C.1.2.1 dL_law_2649 (by decide) (fun hc => ?_) (fun hc => ?_)
      · have hw := hw.1 hc
        refine tr_iload (x := x_2620) C hl 1 rfl dL_law_2654 ?_
        refine lv_if_ne (tgt := 2672) C.1.1 C.1.2.1 dL_law_2656 (by decide) (fun hc => ?_) (fun hc => ?_)
        · have hw := hw.1 hc
          exact s_L_law_2672 C hr hX hbl hbA hA2 hcN hll k27 hk27 ((nc + 2)) ((ns + 12)) v1 v2 v3 v4 _ _ _ _ (show (nc + 2) ≤ 645934 ∧ (ns + 12) ≤ 7158302 by omega) hW hS (tl_sub hl [2, 3, 4, 5, 6] rfl) hw
        · have hw := hw.2 hc
          refine tr_aload_n (k := 3) (x := v3) C hl 4 rfl dL_law_2659 ?_
          refine tr_gfLN (C0 := RX2) (T := TX2) (N := 2) (ci := 4) (ref := "TwinrowLaw$Out") (host := "TwinrowLaw") (k := 0) (r := v3) C (zh hw_X2) rfl (by decide) (tc_kx C).1 rfl dL_law_2660 hW hw (fun x_2660 hw => ?_)
          refine tr_iload (x := x_2638) C hl 0 rfl dL_law_2663 ?_
          refine lv_i2l (v := ((x_2638).toInt64)) C.1.1 C.1.2.1 dL_law_2665 rfl ?_
          refine W.lcmp C.1.1 C.1.2.1 dL_law_2666 ?_
          refine lv_if_eq (tgt := 2672) C.1.1 C.1.2.1 dL_law_2667 (by decide) (fun hc => ?_) (fun hc => ?_)
          · have hw := hw.1 hc
            exact s_L_law_2672 C hr hX hbl hbA hA2 hcN hll k27 hk27 ((nc + 2)) ((ns + 12)) v1 v2 v3 v4 _ _ _ _ (show (nc + 2) ≤ 645934 ∧ (ns + 12) ≤ 7158302 by omega) hW hS (tl_sub hl [2, 3, 4, 5, 6] rfl) hw
          · have hw := hw.2 hc
            refine lv_iconst (v := (0 : Int32)) C.1.1 C.1.2.1 dL_law_2670 (by decide) ?_
            exact tr_law C hr hA2 dL_law_2671 (show (nc + 2) ≤ 645934 by omega) (show (ns + 12) ≤ 7158302 by omega) hS hw
      · have hw := hw.2 hc
        refine lv_iconst (v := (0 : Int32)) C.1.1 C.1.2.1 dL_law_2652 (by decide) ?_
        exact tr_law C hr hA2 dL_law_2653 (show (nc + 2) ≤ 645934 by omega) (show (ns + 12) ≤ 7158302 by omega) hS hw
    have hw := hw.2
    by_cases hc33 : (x_40 &&& (63 : Int32)) = (33 : Int32)
    · have hw := hw.1 hc33
      refine lv_tableIn (off := 2631) (tgt := 2675) C.1.1 C.1.2.1 dL_law_44 (by rw [hc33]; decide) (by rw [hc33]; decide) (by rw [hc33]; rfl) (by decide) ?_
      refine tr_aload_n (k := 1) (x := v1) C hl 0 rfl dL_law_2675 ?_
      refine tr_aload_n (k := 0) (x := (some b)) C hl 4 rfl dL_law_2676 ?_
      refine tr_iload (x := v4) C hl 3 rfl dL_law_2677 ?_
      refine lv_iconst (v := (1 : Int32)) C.1.1 C.1.2.1 dL_law_2679 (by decide) ?_
      refine lv_iadd C.1.1 C.1.2.1 dL_law_2680 ?_
      refine tr_sld C hX hbl hbA hS dL_law_2681 hw (fun x_2681 hw => ?_)
      refine tr_aload_n (k := 0) (x := (some b)) C hl 4 rfl dL_law_2682 ?_
      refine tr_iload (x := v4) C hl 3 rfl dL_law_2683 ?_
      refine lv_iconst (v := (2 : Int32)) C.1.1 C.1.2.1 dL_law_2685 (by decide) ?_
      refine lv_iadd C.1.1 C.1.2.1 dL_law_2686 ?_
      refine tr_sld C hX hbl hbA hS dL_law_2687 hw (fun x_2687 hw => ?_)
      refine tr_aload_n (k := 3) (x := v3) C hl 2 rfl dL_law_2688 ?_
      have hq45 := hw.1
      have hw := hw.2
      refine tx_backNI (tx_runSX (As := [va_rf v1, .int x_2681, .int x_2687, va_rf v3]) C hl.1 (c_L_removeValue l hll K _ v1 x_2681 x_2687 v3) (vx_cwSW 4 C.1.2.2.2.2 (gi_SX (zm kw_918) (zm kw_919) (zm kw_692) (zm kw_917)) rfl rfl rfl (by decide +kernel) ⟨(Nat.le_of_ble_eq_true rfl), (Nat.le_of_ble_eq_true rfl)⟩) rfl dL_law_2689 ⟨hq45.1, hq45.2⟩ [] rfl (Nat.le_of_ble_eq_true rfl) rfl hW hS hw) hS (fun x_2689 G_2689 H locs hw hW hS => ?_)
      refine tr_istore (x := x_2689) C hl [(5, .inl x_2689), (1, .inr (.inr v1)), (2, .inr (.inr v2)), (3, .inr (.inr v3)), (4, .inl v4), (0, .inr (.inr (some b)))] (by decide) rfl dL_law_2692 (fun ls hl => ?_)
      refine tr_aload_n (k := 2) (x := v2) C hl 2 rfl dL_law_2694 ?_
      refine tr_aload_n (k := 0) (x := (some b)) C hl 5 rfl dL_law_2695 ?_
      refine tr_iload (x := v4) C hl 4 rfl dL_law_2696 ?_
      refine lv_iconst (v := (1 : Int32)) C.1.1 C.1.2.1 dL_law_2698 (by decide) ?_
      refine lv_iadd C.1.1 C.1.2.1 dL_law_2699 ?_
      refine tr_sld C hX hbl hbA hS dL_law_2700 hw (fun x_2700 hw => ?_)
      refine tr_aload_n (k := 0) (x := (some b)) C hl 5 rfl dL_law_2701 ?_
      refine tr_iload (x := v4) C hl 4 rfl dL_law_2702 ?_
      refine lv_iconst (v := (2 : Int32)) C.1.1 C.1.2.1 dL_law_2704 (by decide) ?_
      refine lv_iadd C.1.1 C.1.2.1 dL_law_2705 ?_
      refine tr_sld C hX hbl hbA hS dL_law_2706 hw (fun x_2706 hw => ?_)
      have hq46 := hw.1
      have hw := hw.2
      refine tr_backI (tr_runV (r := v2) (As := [.int x_2700, .int x_2706]) C hl.1 (c_X3_removeValue l hll K _ v2 x_2700 x_2706) (cwV 2 C.1.2.2.2.2 (gi_V (zm kw_921) (zm kw_922) (zm kw_923) (zm kw_155) (zm kw_920)) rfl rfl rfl (by decide +kernel) ⟨(Nat.le_of_ble_eq_true rfl), (Nat.le_of_ble_eq_true rfl)⟩) rfl rfl dL_law_2707 ⟨hq46.1, hq46.2⟩ [] rfl (Nat.le_of_ble_eq_true rfl) rfl hW hS hw) hS (fun x_2707 G_2707 H locs hw hW hS => ?_)
      refine tr_istore (x := x_2707) C hl [(6, .inl x_2707), (5, .inl x_2689), (1, .inr (.inr v1)), (2, .inr (.inr v2)), (3, .inr (.inr v3)), (4, .inl v4), (0, .inr (.inr (some b)))] (by decide) rfl dL_law_2710 (fun ls hl => ?_)
      refine tr_aload_n (k := 2) (x := v2) C hl 3 rfl dL_law_2712 ?_
      refine tr_backI (tr_runV (r := v2) (As := []) C hl.1 (c_X3_thrown l hll K _ v2) (cwV 0 C.1.2.2.2.2 (gi_V (zm kw_682) (zm kw_683) (zm kw_684) (zm kw_155) (zm kw_681)) rfl rfl rfl (by decide +kernel) ⟨(Nat.le_of_ble_eq_true rfl), (Nat.le_of_ble_eq_true rfl)⟩) rfl rfl dL_law_2713 ⟨(show ((nc + 2) + 1) + 0 ≤ 645934 by omega), (show ((ns + 12) + 12) + 0 ≤ 7158302 by omega)⟩ [] rfl (Nat.le_of_ble_eq_true rfl) rfl hW hS hw) hS (fun x_2713 G_2713 H locs hw hW hS => ?_)
      refine tr_iload (x := x_2689) C hl 1 rfl dL_law_2716 ?_
      refine lv_icmp_eq (tgt := 2723) C.1.1 C.1.2.1 dL_law_2718 (by decide) (fun hc => ?_) (fun hc => ?_)
      · have hw := hw.1 hc
        refine tr_iload (x := x_2689) C hl 1 rfl dL_law_2723 ?_
        refine lv_if_ne (tgt := 2741) C.1.1 C.1.2.1 dL_law_2725 (by decide) (fun hc => ?_) (fun hc => ?_)
        · have hw := hw.1 hc
          exact s_L_law_2741 C hr hX hbl hbA hA2 hcN hll k27 hk27 (((nc + 2) + 1)) (((ns + 12) + 12)) v1 v2 v3 v4 _ _ _ _ (show ((nc + 2) + 1) ≤ 645934 ∧ ((ns + 12) + 12) ≤ 7158302 by omega) hW hS (tl_sub hl [2, 3, 4, 5, 6] rfl) hw
        · have hw := hw.2 hc
          refine tr_aload_n (k := 3) (x := v3) C hl 4 rfl dL_law_2728 ?_
          refine tr_gfLN (C0 := RX2) (T := TX2) (N := 2) (ci := 4) (ref := "TwinrowLaw$Out") (host := "TwinrowLaw") (k := 0) (r := v3) C (zh hw_X2) rfl (by decide) (tc_kx C).1 rfl dL_law_2729 hW hw (fun x_2729 hw => ?_)
          refine tr_iload (x := x_2707) C hl 0 rfl dL_law_2732 ?_
          refine lv_i2l (v := ((x_2707).toInt64)) C.1.1 C.1.2.1 dL_law_2734 rfl ?_
          refine W.lcmp C.1.1 C.1.2.1 dL_law_2735 ?_
          refine lv_if_eq (tgt := 2741) C.1.1 C.1.2.1 dL_law_2736 (by decide) (fun hc => ?_) (fun hc => ?_)
          · have hw := hw.1 hc
            exact s_L_law_2741 C hr hX hbl hbA hA2 hcN hll k27 hk27 (((nc + 2) + 1)) (((ns + 12) + 12)) v1 v2 v3 v4 _ _ _ _ (show ((nc + 2) + 1) ≤ 645934 ∧ ((ns + 12) + 12) ≤ 7158302 by omega) hW hS (tl_sub hl [2, 3, 4, 5, 6] rfl) hw
          · have hw := hw.2 hc
            refine lv_iconst (v := (0 : Int32)) C.1.1 C.1.2.1 dL_law_2739 (by decide) ?_
            exact tr_law C hr hA2 dL_law_2740 (show ((nc + 2) + 1) ≤ 645934 by omega) (show ((ns + 12) + 12) ≤ 7158302 by omega) hS hw
      · have hw := hw.2 hc
        refine lv_iconst (v := (0 : Int32)) C.1.1 C.1.2.1 dL_law_2721 (by decide) ?_
        exact tr_law C hr hA2 dL_law_2722 (show ((nc + 2) + 1) ≤ 645934 by omega) (show ((ns + 12) + 12) ≤ 7158302 by omega) hS hw
    have hw := hw.2
    by_cases hc34 : (x_40 &&& (63 : Int32)) = (34 : Int32)
    · have hw := hw.1 hc34
      refine lv_tableIn (off := 2700) (tgt := 2744) C.1.1 C.1.2.1 dL_law_44 (by rw [hc34]; decide) (by rw [hc34]; decide) (by rw [hc34]; rfl) (by decide) ?_
      refine tr_aload_n (k := 1) (x := v1) C hl 0 rfl dL_law_2744 ?_
      refine tr_aload_n (k := 0) (x := (some b)) C hl 4 rfl dL_law_2745 ?_
      refine tr_iload (x := v4) C hl 3 rfl dL_law_2746 ?_
      refine lv_iconst (v := (1 : Int32)) C.1.1 C.1.2.1 dL_law_2748 (by decide) ?_
      refine lv_iadd C.1.1 C.1.2.1 dL_law_2749 ?_
      refine tr_sld C hX hbl hbA hS dL_law_2750 hw (fun x_2750 hw => ?_)
      refine tr_aload_n (k := 0) (x := (some b)) C hl 4 rfl dL_law_2751 ?_
      refine tr_iload (x := v4) C hl 3 rfl dL_law_2752 ?_
      refine lv_iconst (v := (2 : Int32)) C.1.1 C.1.2.1 dL_law_2754 (by decide) ?_
      refine lv_iadd C.1.1 C.1.2.1 dL_law_2755 ?_
      refine tr_sld C hX hbl hbA hS dL_law_2756 hw (fun x_2756 hw => ?_)
      refine tr_aload_n (k := 3) (x := v3) C hl 2 rfl dL_law_2757 ?_
      have hq47 := hw.1
      have hw := hw.2
      refine tx_backNI (tx_runSX (As := [va_rf v1, .int x_2750, .int x_2756, va_rf v3]) C hl.1 (c_L_removeAll l hll K _ v1 x_2750 x_2756 v3) (vx_cwSW 4 C.1.2.2.2.2 (gi_SX (zm kw_925) (zm kw_926) (zm kw_692) (zm kw_924)) rfl rfl rfl (by decide +kernel) ⟨(Nat.le_of_ble_eq_true rfl), (Nat.le_of_ble_eq_true rfl)⟩) rfl dL_law_2758 ⟨hq47.1, hq47.2⟩ [] rfl (Nat.le_of_ble_eq_true rfl) rfl hW hS hw) hS (fun x_2758 G_2758 H locs hw hW hS => ?_)
      refine tr_istore (x := x_2758) C hl [(5, .inl x_2758), (1, .inr (.inr v1)), (2, .inr (.inr v2)), (3, .inr (.inr v3)), (4, .inl v4), (0, .inr (.inr (some b)))] (by decide) rfl dL_law_2761 (fun ls hl => ?_)
      refine tr_aload_n (k := 2) (x := v2) C hl 2 rfl dL_law_2763 ?_
      refine tr_aload_n (k := 0) (x := (some b)) C hl 5 rfl dL_law_2764 ?_
      refine tr_iload (x := v4) C hl 4 rfl dL_law_2765 ?_
      refine lv_iconst (v := (1 : Int32)) C.1.1 C.1.2.1 dL_law_2767 (by decide) ?_
      refine lv_iadd C.1.1 C.1.2.1 dL_law_2768 ?_
      refine tr_sld C hX hbl hbA hS dL_law_2769 hw (fun x_2769 hw => ?_)
      refine tr_aload_n (k := 0) (x := (some b)) C hl 5 rfl dL_law_2770 ?_
      refine tr_iload (x := v4) C hl 4 rfl dL_law_2771 ?_
      refine lv_iconst (v := (2 : Int32)) C.1.1 C.1.2.1 dL_law_2773 (by decide) ?_
      refine lv_iadd C.1.1 C.1.2.1 dL_law_2774 ?_
      refine tr_sld C hX hbl hbA hS dL_law_2775 hw (fun x_2775 hw => ?_)
      have hq48 := hw.1
      have hw := hw.2
      refine tr_backI (tr_runV (r := v2) (As := [.int x_2769, .int x_2775]) C hl.1 (c_X3_removeAll l hll K _ v2 x_2769 x_2775) (cwV 2 C.1.2.2.2.2 (gi_V (zm kw_928) (zm kw_929) (zm kw_930) (zm kw_155) (zm kw_927)) rfl rfl rfl (by decide +kernel) ⟨(Nat.le_of_ble_eq_true rfl), (Nat.le_of_ble_eq_true rfl)⟩) rfl rfl dL_law_2776 ⟨hq48.1, hq48.2⟩ [] rfl (Nat.le_of_ble_eq_true rfl) rfl hW hS hw) hS (fun x_2776 G_2776 H locs hw hW hS => ?_)
      refine tr_istore (x := x_2776) C hl [(6, .inl x_2776), (5, .inl x_2758), (1, .inr (.inr v1)), (2, .inr (.inr v2)), (3, .inr (.inr v3)), (4, .inl v4), (0, .inr (.inr (some b)))] (by decide) rfl dL_law_2779 (fun ls hl => ?_)
      refine tr_aload_n (k := 2) (x := v2) C hl 3 rfl dL_law_2781 ?_
      refine tr_backI (tr_runV (r := v2) (As := []) C hl.1 (c_X3_thrown l hll K _ v2) (cwV 0 C.1.2.2.2.2 (gi_V (zm kw_682) (zm kw_683) (zm kw_684) (zm kw_155) (zm kw_681)) rfl rfl rfl (by decide +kernel) ⟨(Nat.le_of_ble_eq_true rfl), (Nat.le_of_ble_eq_true rfl)⟩) rfl rfl dL_law_2782 ⟨(show ((nc + 2) + 13) + 0 ≤ 645934 by omega), (show ((ns + 12) + 156) + 0 ≤ 7158302 by omega)⟩ [] rfl (Nat.le_of_ble_eq_true rfl) rfl hW hS hw) hS (fun x_2782 G_2782 H locs hw hW hS => ?_)
      refine tr_iload (x := x_2758) C hl 1 rfl dL_law_2785 ?_
      refine lv_icmp_eq (tgt := 2792) C.1.1 C.1.2.1 dL_law_2787 (by decide) (fun hc => ?_) (fun hc => ?_)
      · have hw := hw.1 hc
        refine tr_iload (x := x_2758) C hl 1 rfl dL_law_2792 ?_
        refine lv_if_ne (tgt := 2810) C.1.1 C.1.2.1 dL_law_2794 (by decide) (fun hc => ?_) (fun hc => ?_)
        · have hw := hw.1 hc
          exact s_L_law_2810 C hr hX hbl hbA hA2 hcN hll k27 hk27 (((nc + 2) + 13)) (((ns + 12) + 156)) v1 v2 v3 v4 _ _ _ _ (show ((nc + 2) + 13) ≤ 645934 ∧ ((ns + 12) + 156) ≤ 7158302 by omega) hW hS (tl_sub hl [2, 3, 4, 5, 6] rfl) hw
        · have hw := hw.2 hc
          refine tr_aload_n (k := 3) (x := v3) C hl 4 rfl dL_law_2797 ?_
          refine tr_gfLN (C0 := RX2) (T := TX2) (N := 2) (ci := 4) (ref := "TwinrowLaw$Out") (host := "TwinrowLaw") (k := 0) (r := v3) C (zh hw_X2) rfl (by decide) (tc_kx C).1 rfl dL_law_2798 hW hw (fun x_2798 hw => ?_)
          refine tr_iload (x := x_2776) C hl 0 rfl dL_law_2801 ?_
          refine lv_i2l (v := ((x_2776).toInt64)) C.1.1 C.1.2.1 dL_law_2803 rfl ?_
          refine W.lcmp C.1.1 C.1.2.1 dL_law_2804 ?_
          refine lv_if_eq (tgt := 2810) C.1.1 C.1.2.1 dL_law_2805 (by decide) (fun hc => ?_) (fun hc => ?_)
          · have hw := hw.1 hc
            exact s_L_law_2810 C hr hX hbl hbA hA2 hcN hll k27 hk27 (((nc + 2) + 13)) (((ns + 12) + 156)) v1 v2 v3 v4 _ _ _ _ (show ((nc + 2) + 13) ≤ 645934 ∧ ((ns + 12) + 156) ≤ 7158302 by omega) hW hS (tl_sub hl [2, 3, 4, 5, 6] rfl) hw
          · have hw := hw.2 hc
            refine lv_iconst (v := (0 : Int32)) C.1.1 C.1.2.1 dL_law_2808 (by decide) ?_
            exact tr_law C hr hA2 dL_law_2809 (show ((nc + 2) + 13) ≤ 645934 by omega) (show ((ns + 12) + 156) ≤ 7158302 by omega) hS hw
      · have hw := hw.2 hc
        refine lv_iconst (v := (0 : Int32)) C.1.1 C.1.2.1 dL_law_2790 (by decide) ?_
        exact tr_law C hr hA2 dL_law_2791 (show ((nc + 2) + 13) ≤ 645934 by omega) (show ((ns + 12) + 156) ≤ 7158302 by omega) hS hw
    have hw := hw.2
    by_cases hc35 : (x_40 &&& (63 : Int32)) = (35 : Int32)
    · have hw := hw.1 hc35
      refine lv_tableIn (off := 2769) (tgt := 2813) C.1.1 C.1.2.1 dL_law_44 (by rw [hc35]; decide) (by rw [hc35]; decide) (by rw [hc35]; rfl) (by decide) ?_
      refine tr_aload_n (k := 1) (x := v1) C hl 0 rfl dL_law_2813 ?_
      refine tr_aload_n (k := 0) (x := (some b)) C hl 4 rfl dL_law_2814 ?_
      refine tr_iload (x := v4) C hl 3 rfl dL_law_2815 ?_
      refine lv_iconst (v := (1 : Int32)) C.1.1 C.1.2.1 dL_law_2817 (by decide) ?_
      refine lv_iadd C.1.1 C.1.2.1 dL_law_2818 ?_
      refine tr_sld C hX hbl hbA hS dL_law_2819 hw (fun x_2819 hw => ?_)
      refine tr_aload_n (k := 0) (x := (some b)) C hl 4 rfl dL_law_2820 ?_
      refine tr_iload (x := v4) C hl 3 rfl dL_law_2821 ?_
      refine lv_iconst (v := (2 : Int32)) C.1.1 C.1.2.1 dL_law_2823 (by decide) ?_
      refine lv_iadd C.1.1 C.1.2.1 dL_law_2824 ?_
      refine tr_sld C hX hbl hbA hS dL_law_2825 hw (fun x_2825 hw => ?_)
      refine tr_aload_n (k := 3) (x := v3) C hl 2 rfl dL_law_2826 ?_
      have hq49 := hw.1
      have hw := hw.2
      refine tx_backNI (tx_runSX (As := [va_rf v1, .int x_2819, .int x_2825, va_rf v3]) C hl.1 (c_L_retainAll l hll K _ v1 x_2819 x_2825 v3) (vx_cwSW 4 C.1.2.2.2.2 (gi_SX (zm kw_932) (zm kw_933) (zm kw_692) (zm kw_931)) rfl rfl rfl (by decide +kernel) ⟨(Nat.le_of_ble_eq_true rfl), (Nat.le_of_ble_eq_true rfl)⟩) rfl dL_law_2827 ⟨hq49.1, hq49.2⟩ [] rfl (Nat.le_of_ble_eq_true rfl) rfl hW hS hw) hS (fun x_2827 G_2827 H locs hw hW hS => ?_)
      refine tr_istore (x := x_2827) C hl [(5, .inl x_2827), (1, .inr (.inr v1)), (2, .inr (.inr v2)), (3, .inr (.inr v3)), (4, .inl v4), (0, .inr (.inr (some b)))] (by decide) rfl dL_law_2830 (fun ls hl => ?_)
      refine tr_aload_n (k := 2) (x := v2) C hl 2 rfl dL_law_2832 ?_
      refine tr_aload_n (k := 0) (x := (some b)) C hl 5 rfl dL_law_2833 ?_
      refine tr_iload (x := v4) C hl 4 rfl dL_law_2834 ?_
      refine lv_iconst (v := (1 : Int32)) C.1.1 C.1.2.1 dL_law_2836 (by decide) ?_
      refine lv_iadd C.1.1 C.1.2.1 dL_law_2837 ?_
      refine tr_sld C hX hbl hbA hS dL_law_2838 hw (fun x_2838 hw => ?_)
      refine tr_aload_n (k := 0) (x := (some b)) C hl 5 rfl dL_law_2839 ?_
      refine tr_iload (x := v4) C hl 4 rfl dL_law_2840 ?_
      refine lv_iconst (v := (2 : Int32)) C.1.1 C.1.2.1 dL_law_2842 (by decide) ?_
      refine lv_iadd C.1.1 C.1.2.1 dL_law_2843 ?_
      refine tr_sld C hX hbl hbA hS dL_law_2844 hw (fun x_2844 hw => ?_)
      have hq50 := hw.1
      have hw := hw.2
      refine tr_backI (tr_runV (r := v2) (As := [.int x_2838, .int x_2844]) C hl.1 (c_X3_retainAll l hll K _ v2 x_2838 x_2844) (cwV 2 C.1.2.2.2.2 (gi_V (zm kw_935) (zm kw_936) (zm kw_937) (zm kw_155) (zm kw_934)) rfl rfl rfl (by decide +kernel) ⟨(Nat.le_of_ble_eq_true rfl), (Nat.le_of_ble_eq_true rfl)⟩) rfl rfl dL_law_2845 ⟨hq50.1, hq50.2⟩ [] rfl (Nat.le_of_ble_eq_true rfl) rfl hW hS hw) hS (fun x_2845 G_2845 H locs hw hW hS => ?_)
      refine tr_istore (x := x_2845) C hl [(6, .inl x_2845), (5, .inl x_2827), (1, .inr (.inr v1)), (2, .inr (.inr v2)), (3, .inr (.inr v3)), (4, .inl v4), (0, .inr (.inr (some b)))] (by decide) rfl dL_law_2848 (fun ls hl => ?_)
      refine tr_aload_n (k := 2) (x := v2) C hl 3 rfl dL_law_2850 ?_
      refine tr_backI (tr_runV (r := v2) (As := []) C hl.1 (c_X3_thrown l hll K _ v2) (cwV 0 C.1.2.2.2.2 (gi_V (zm kw_682) (zm kw_683) (zm kw_684) (zm kw_155) (zm kw_681)) rfl rfl rfl (by decide +kernel) ⟨(Nat.le_of_ble_eq_true rfl), (Nat.le_of_ble_eq_true rfl)⟩) rfl rfl dL_law_2851 ⟨(show ((nc + 2) + 13) + 0 ≤ 645934 by omega), (show ((ns + 12) + 156) + 0 ≤ 7158302 by omega)⟩ [] rfl (Nat.le_of_ble_eq_true rfl) rfl hW hS hw) hS (fun x_2851 G_2851 H locs hw hW hS => ?_)
      refine tr_iload (x := x_2827) C hl 1 rfl dL_law_2854 ?_
      refine lv_icmp_eq (tgt := 2861) C.1.1 C.1.2.1 dL_law_2856 (by decide) (fun hc => ?_) (fun hc => ?_)
      · have hw := hw.1 hc
        refine tr_iload (x := x_2827) C hl 1 rfl dL_law_2861 ?_
        refine lv_if_ne (tgt := 2879) C.1.1 C.1.2.1 dL_law_2863 (by decide) (fun hc => ?_) (fun hc => ?_)
        · have hw := hw.1 hc
          exact s_L_law_2879 C hr hX hbl hbA hA2 hcN hll k27 hk27 (((nc + 2) + 13)) (((ns + 12) + 156)) v1 v2 v3 v4 _ _ _ _ (show ((nc + 2) + 13) ≤ 645934 ∧ ((ns + 12) + 156) ≤ 7158302 by omega) hW hS (tl_sub hl [2, 3, 4, 5, 6] rfl) hw
        · have hw := hw.2 hc
          refine tr_aload_n (k := 3) (x := v3) C hl 4 rfl dL_law_2866 ?_
          refine tr_gfLN (C0 := RX2) (T := TX2) (N := 2) (ci := 4) (ref := "TwinrowLaw$Out") (host := "TwinrowLaw") (k := 0) (r := v3) C (zh hw_X2) rfl (by decide) (tc_kx C).1 rfl dL_law_2867 hW hw (fun x_2867 hw => ?_)
          refine tr_iload (x := x_2845) C hl 0 rfl dL_law_2870 ?_
          refine lv_i2l (v := ((x_2845).toInt64)) C.1.1 C.1.2.1 dL_law_2872 rfl ?_
          refine W.lcmp C.1.1 C.1.2.1 dL_law_2873 ?_
          refine lv_if_eq (tgt := 2879) C.1.1 C.1.2.1 dL_law_2874 (by decide) (fun hc => ?_) (fun hc => ?_)
          · have hw := hw.1 hc
            exact s_L_law_2879 C hr hX hbl hbA hA2 hcN hll k27 hk27 (((nc + 2) + 13)) (((ns + 12) + 156)) v1 v2 v3 v4 _ _ _ _ (show ((nc + 2) + 13) ≤ 645934 ∧ ((ns + 12) + 156) ≤ 7158302 by omega) hW hS (tl_sub hl [2, 3, 4, 5, 6] rfl) hw
          · have hw := hw.2 hc
            refine lv_iconst (v := (0 : Int32)) C.1.1 C.1.2.1 dL_law_2877 (by decide) ?_
            exact tr_law C hr hA2 dL_law_2878 (show ((nc + 2) + 13) ≤ 645934 by omega) (show ((ns + 12) + 156) ≤ 7158302 by omega) hS hw
      · have hw := hw.2 hc
        refine lv_iconst (v := (0 : Int32)) C.1.1 C.1.2.1 dL_law_2859 (by decide) ?_
        exact tr_law C hr hA2 dL_law_2860 (show ((nc + 2) + 13) ≤ 645934 by omega) (show ((ns + 12) + 156) ≤ 7158302 by omega) hS hw
    have hw := hw.2
    by_cases hc36 : (x_40 &&& (63 : Int32)) = (36 : Int32)
    · have hw := hw.1 hc36
      refine lv_tableIn (off := 2838) (tgt := 2882) C.1.1 C.1.2.1 dL_law_44 (by rw [hc36]; decide) (by rw [hc36]; decide) (by rw [hc36]; rfl) (by decide) ?_
      refine tr_aload_n (k := 1) (x := v1) C hl 0 rfl dL_law_2882 ?_
      refine tr_aload_n (k := 0) (x := (some b)) C hl 4 rfl dL_law_2883 ?_
      refine tr_iload (x := v4) C hl 3 rfl dL_law_2884 ?_
      refine lv_iconst (v := (1 : Int32)) C.1.1 C.1.2.1 dL_law_2886 (by decide) ?_
      refine lv_iadd C.1.1 C.1.2.1 dL_law_2887 ?_
      refine tr_sld C hX hbl hbA hS dL_law_2888 hw (fun x_2888 hw => ?_)
      refine tr_aload_n (k := 0) (x := (some b)) C hl 4 rfl dL_law_2889 ?_
      refine tr_iload (x := v4) C hl 3 rfl dL_law_2890 ?_
      refine lv_iconst (v := (2 : Int32)) C.1.1 C.1.2.1 dL_law_2892 (by decide) ?_
      refine lv_iadd C.1.1 C.1.2.1 dL_law_2893 ?_
      refine tr_sld C hX hbl hbA hS dL_law_2894 hw (fun x_2894 hw => ?_)
      refine tr_aload_n (k := 0) (x := (some b)) C hl 4 rfl dL_law_2895 ?_
      refine tr_iload (x := v4) C hl 3 rfl dL_law_2896 ?_
      refine lv_iconst (v := (3 : Int32)) C.1.1 C.1.2.1 dL_law_2898 (by decide) ?_
      refine lv_iadd C.1.1 C.1.2.1 dL_law_2899 ?_
      refine tr_sld C hX hbl hbA hS dL_law_2900 hw (fun x_2900 hw => ?_)
      refine tr_aload_n (k := 3) (x := v3) C hl 2 rfl dL_law_2901 ?_
      have hq51 := hw.1
      have hw := hw.2
      refine tx_backNI (tx_runSX (As := [va_rf v1, .int x_2888, .int x_2894, .int x_2900, va_rf v3]) C hl.1 (c_L_removeIf l hll K _ v1 x_2888 x_2894 x_2900 v3) (vx_cwSW 5 C.1.2.2.2.2 (gi_SX (zm kw_939) (zm kw_940) (zm kw_692) (zm kw_938)) rfl rfl rfl (by decide +kernel) ⟨(Nat.le_of_ble_eq_true rfl), (Nat.le_of_ble_eq_true rfl)⟩) rfl dL_law_2902 ⟨hq51.1, hq51.2⟩ [] rfl (Nat.le_of_ble_eq_true rfl) rfl hW hS hw) hS (fun x_2902 G_2902 H locs hw hW hS => ?_)
      refine tr_istore (x := x_2902) C hl [(5, .inl x_2902), (1, .inr (.inr v1)), (2, .inr (.inr v2)), (3, .inr (.inr v3)), (4, .inl v4), (0, .inr (.inr (some b)))] (by decide) rfl dL_law_2905 (fun ls hl => ?_)
      refine tr_aload_n (k := 2) (x := v2) C hl 2 rfl dL_law_2907 ?_
      refine tr_aload_n (k := 0) (x := (some b)) C hl 5 rfl dL_law_2908 ?_
      refine tr_iload (x := v4) C hl 4 rfl dL_law_2909 ?_
      refine lv_iconst (v := (1 : Int32)) C.1.1 C.1.2.1 dL_law_2911 (by decide) ?_
      refine lv_iadd C.1.1 C.1.2.1 dL_law_2912 ?_
      refine tr_sld C hX hbl hbA hS dL_law_2913 hw (fun x_2913 hw => ?_)
      refine tr_aload_n (k := 0) (x := (some b)) C hl 5 rfl dL_law_2914 ?_
      refine tr_iload (x := v4) C hl 4 rfl dL_law_2915 ?_
      refine lv_iconst (v := (2 : Int32)) C.1.1 C.1.2.1 dL_law_2917 (by decide) ?_
      refine lv_iadd C.1.1 C.1.2.1 dL_law_2918 ?_
      refine tr_sld C hX hbl hbA hS dL_law_2919 hw (fun x_2919 hw => ?_)
      refine tr_aload_n (k := 0) (x := (some b)) C hl 5 rfl dL_law_2920 ?_
      refine tr_iload (x := v4) C hl 4 rfl dL_law_2921 ?_
      refine lv_iconst (v := (3 : Int32)) C.1.1 C.1.2.1 dL_law_2923 (by decide) ?_
      refine lv_iadd C.1.1 C.1.2.1 dL_law_2924 ?_
      refine tr_sld C hX hbl hbA hS dL_law_2925 hw (fun x_2925 hw => ?_)
      have hq52 := hw.1
      have hw := hw.2
      refine tr_backI (tr_runV (r := v2) (As := [.int x_2913, .int x_2919, .int x_2925]) C hl.1 (c_X3_removeIf l hll K _ v2 x_2913 x_2919 x_2925) (cwV 3 C.1.2.2.2.2 (gi_V (zm kw_942) (zm kw_943) (zm kw_944) (zm kw_155) (zm kw_941)) rfl rfl rfl (by decide +kernel) ⟨(Nat.le_of_ble_eq_true rfl), (Nat.le_of_ble_eq_true rfl)⟩) rfl rfl dL_law_2926 ⟨hq52.1, hq52.2⟩ [] rfl (Nat.le_of_ble_eq_true rfl) rfl hW hS hw) hS (fun x_2926 G_2926 H locs hw hW hS => ?_)
      refine tr_istore (x := x_2926) C hl [(6, .inl x_2926), (5, .inl x_2902), (1, .inr (.inr v1)), (2, .inr (.inr v2)), (3, .inr (.inr v3)), (4, .inl v4), (0, .inr (.inr (some b)))] (by decide) rfl dL_law_2929 (fun ls hl => ?_)
      refine tr_aload_n (k := 2) (x := v2) C hl 3 rfl dL_law_2931 ?_
      refine tr_backI (tr_runV (r := v2) (As := []) C hl.1 (c_X3_thrown l hll K _ v2) (cwV 0 C.1.2.2.2.2 (gi_V (zm kw_682) (zm kw_683) (zm kw_684) (zm kw_155) (zm kw_681)) rfl rfl rfl (by decide +kernel) ⟨(Nat.le_of_ble_eq_true rfl), (Nat.le_of_ble_eq_true rfl)⟩) rfl rfl dL_law_2932 ⟨(show ((nc + 3) + 1) + 0 ≤ 645934 by omega), (show ((ns + 18) + 12) + 0 ≤ 7158302 by omega)⟩ [] rfl (Nat.le_of_ble_eq_true rfl) rfl hW hS hw) hS (fun x_2932 G_2932 H locs hw hW hS => ?_)
      refine tr_iload (x := x_2902) C hl 1 rfl dL_law_2935 ?_
      refine lv_icmp_eq (tgt := 2942) C.1.1 C.1.2.1 dL_law_2937 (by decide) (fun hc => ?_) (fun hc => ?_)
      · have hw := hw.1 hc
        refine tr_iload (x := x_2902) C hl 1 rfl dL_law_2942 ?_
        refine lv_if_ne (tgt := 2960) C.1.1 C.1.2.1 dL_law_2944 (by decide) (fun hc => ?_) (fun hc => ?_)
        · have hw := hw.1 hc
          exact s_L_law_2960 C hr hX hbl hbA hA2 hcN hll k27 hk27 (((nc + 3) + 1)) (((ns + 18) + 12)) v1 v2 v3 v4 _ _ _ _ (show ((nc + 3) + 1) ≤ 645934 ∧ ((ns + 18) + 12) ≤ 7158302 by omega) hW hS (tl_sub hl [2, 3, 4, 5, 6] rfl) hw
        · have hw := hw.2 hc
          refine tr_aload_n (k := 3) (x := v3) C hl 4 rfl dL_law_2947 ?_
          refine tr_gfLN (C0 := RX2) (T := TX2) (N := 2) (ci := 4) (ref := "TwinrowLaw$Out") (host := "TwinrowLaw") (k := 0) (r := v3) C (zh hw_X2) rfl (by decide) (tc_kx C).1 rfl dL_law_2948 hW hw (fun x_2948 hw => ?_)
          refine tr_iload (x := x_2926) C hl 0 rfl dL_law_2951 ?_
          refine lv_i2l (v := ((x_2926).toInt64)) C.1.1 C.1.2.1 dL_law_2953 rfl ?_
          refine W.lcmp C.1.1 C.1.2.1 dL_law_2954 ?_
          refine lv_if_eq (tgt := 2960) C.1.1 C.1.2.1 dL_law_2955 (by decide) (fun hc => ?_) (fun hc => ?_)
          · have hw := hw.1 hc
            exact s_L_law_2960 C hr hX hbl hbA hA2 hcN hll k27 hk27 (((nc + 3) + 1)) (((ns + 18) + 12)) v1 v2 v3 v4 _ _ _ _ (show ((nc + 3) + 1) ≤ 645934 ∧ ((ns + 18) + 12) ≤ 7158302 by omega) hW hS (tl_sub hl [2, 3, 4, 5, 6] rfl) hw
          · have hw := hw.2 hc
            refine lv_iconst (v := (0 : Int32)) C.1.1 C.1.2.1 dL_law_2958 (by decide) ?_
            exact tr_law C hr hA2 dL_law_2959 (show ((nc + 3) + 1) ≤ 645934 by omega) (show ((ns + 18) + 12) ≤ 7158302 by omega) hS hw
      · have hw := hw.2 hc
        refine lv_iconst (v := (0 : Int32)) C.1.1 C.1.2.1 dL_law_2940 (by decide) ?_
        exact tr_law C hr hA2 dL_law_2941 (show ((nc + 3) + 1) ≤ 645934 by omega) (show ((ns + 18) + 12) ≤ 7158302 by omega) hS hw
    have hw := hw.2
    by_cases hc37 : (x_40 &&& (63 : Int32)) = (37 : Int32)
    · have hw := hw.1 hc37
      refine lv_tableIn (off := 2919) (tgt := 2963) C.1.1 C.1.2.1 dL_law_44 (by rw [hc37]; decide) (by rw [hc37]; decide) (by rw [hc37]; rfl) (by decide) ?_
      refine tr_aload_n (k := 1) (x := v1) C hl 0 rfl dL_law_2963 ?_
      refine tr_aload_n (k := 0) (x := (some b)) C hl 4 rfl dL_law_2964 ?_
      refine tr_iload (x := v4) C hl 3 rfl dL_law_2965 ?_
      refine lv_iconst (v := (1 : Int32)) C.1.1 C.1.2.1 dL_law_2967 (by decide) ?_
      refine lv_iadd C.1.1 C.1.2.1 dL_law_2968 ?_
      refine tr_sld C hX hbl hbA hS dL_law_2969 hw (fun x_2969 hw => ?_)
      refine tr_aload_n (k := 3) (x := v3) C hl 2 rfl dL_law_2970 ?_
      have hq53 := hw.1
      have hw := hw.2
      refine tx_backNI (tx_runSX (As := [va_rf v1, .int x_2969, va_rf v3]) C hl.1 (c_L_clear l hll K _ v1 x_2969 v3) (vx_cwSW 3 C.1.2.2.2.2 (gi_SX (zm kw_946) (zm kw_947) (zm kw_692) (zm kw_945)) rfl rfl rfl (by decide +kernel) ⟨(Nat.le_of_ble_eq_true rfl), (Nat.le_of_ble_eq_true rfl)⟩) rfl dL_law_2971 ⟨hq53.1, hq53.2⟩ [] rfl (Nat.le_of_ble_eq_true rfl) rfl hW hS hw) hS (fun x_2971 G_2971 H locs hw hW hS => ?_)
      refine tr_istore (x := x_2971) C hl [(5, .inl x_2971), (1, .inr (.inr v1)), (2, .inr (.inr v2)), (3, .inr (.inr v3)), (4, .inl v4), (0, .inr (.inr (some b)))] (by decide) rfl dL_law_2974 (fun ls hl => ?_)
      refine tr_aload_n (k := 2) (x := v2) C hl 2 rfl dL_law_2976 ?_
      refine tr_aload_n (k := 0) (x := (some b)) C hl 5 rfl dL_law_2977 ?_
      refine tr_iload (x := v4) C hl 4 rfl dL_law_2978 ?_
      refine lv_iconst (v := (1 : Int32)) C.1.1 C.1.2.1 dL_law_2980 (by decide) ?_
      refine lv_iadd C.1.1 C.1.2.1 dL_law_2981 ?_
      refine tr_sld C hX hbl hbA hS dL_law_2982 hw (fun x_2982 hw => ?_)
      refine tr_backI (tr_runV (r := v2) (As := [.int x_2982]) C hl.1 (c_X3_clear l hll K _ v2 x_2982) (cwV 1 C.1.2.2.2.2 (gi_V (zm kw_949) (zm kw_950) (zm kw_951) (zm kw_155) (zm kw_948)) rfl rfl rfl (by decide +kernel) ⟨(Nat.le_of_ble_eq_true rfl), (Nat.le_of_ble_eq_true rfl)⟩) rfl rfl dL_law_2983 ⟨(show (nc + 1) + 0 ≤ 645934 by omega), (show (ns + 6) + 0 ≤ 7158302 by omega)⟩ [] rfl (Nat.le_of_ble_eq_true rfl) rfl hW hS hw) hS (fun x_2983 G_2983 H locs hw hW hS => ?_)
      refine tr_istore (x := x_2983) C hl [(6, .inl x_2983), (5, .inl x_2971), (1, .inr (.inr v1)), (2, .inr (.inr v2)), (3, .inr (.inr v3)), (4, .inl v4), (0, .inr (.inr (some b)))] (by decide) rfl dL_law_2986 (fun ls hl => ?_)
      refine tr_aload_n (k := 2) (x := v2) C hl 3 rfl dL_law_2988 ?_
      refine tr_backI (tr_runV (r := v2) (As := []) C hl.1 (c_X3_thrown l hll K _ v2) (cwV 0 C.1.2.2.2.2 (gi_V (zm kw_682) (zm kw_683) (zm kw_684) (zm kw_155) (zm kw_681)) rfl rfl rfl (by decide +kernel) ⟨(Nat.le_of_ble_eq_true rfl), (Nat.le_of_ble_eq_true rfl)⟩) rfl rfl dL_law_2989 ⟨(show (nc + 1) + 0 ≤ 645934 by omega), (show (ns + 6) + 0 ≤ 7158302 by omega)⟩ [] rfl (Nat.le_of_ble_eq_true rfl) rfl hW hS hw) hS (fun x_2989 G_2989 H locs hw hW hS => ?_)
      refine tr_iload (x := x_2971) C hl 1 rfl dL_law_2992 ?_
      refine lv_icmp_eq (tgt := 2999) C.1.1 C.1.2.1 dL_law_2994 (by decide) (fun hc => ?_) (fun hc => ?_)
      · have hw := hw.1 hc
        refine tr_iload (x := x_2971) C hl 1 rfl dL_law_2999 ?_
        refine lv_if_ne (tgt := 3017) C.1.1 C.1.2.1 dL_law_3001 (by decide) (fun hc => ?_) (fun hc => ?_)
        · have hw := hw.1 hc
          exact s_L_law_3017 C hr hX hbl hbA hA2 hcN hll k27 hk27 ((nc + 1)) ((ns + 6)) v1 v2 v3 v4 _ _ _ _ (show (nc + 1) ≤ 645934 ∧ (ns + 6) ≤ 7158302 by omega) hW hS (tl_sub hl [2, 3, 4, 5, 6] rfl) hw
        · have hw := hw.2 hc
          refine tr_aload_n (k := 3) (x := v3) C hl 4 rfl dL_law_3004 ?_
          refine tr_gfLN (C0 := RX2) (T := TX2) (N := 2) (ci := 4) (ref := "TwinrowLaw$Out") (host := "TwinrowLaw") (k := 0) (r := v3) C (zh hw_X2) rfl (by decide) (tc_kx C).1 rfl dL_law_3005 hW hw (fun x_3005 hw => ?_)
          refine tr_iload (x := x_2983) C hl 0 rfl dL_law_3008 ?_
          refine lv_i2l (v := ((x_2983).toInt64)) C.1.1 C.1.2.1 dL_law_3010 rfl ?_
          refine W.lcmp C.1.1 C.1.2.1 dL_law_3011 ?_
          refine lv_if_eq (tgt := 3017) C.1.1 C.1.2.1 dL_law_3012 (by decide) (fun hc => ?_) (fun hc => ?_)
          · have hw := hw.1 hc
            exact s_L_law_3017 C hr hX hbl hbA hA2 hcN hll k27 hk27 ((nc + 1)) ((ns + 6)) v1 v2 v3 v4 _ _ _ _ (show (nc + 1) ≤ 645934 ∧ (ns + 6) ≤ 7158302 by omega) hW hS (tl_sub hl [2, 3, 4, 5, 6] rfl) hw
          · have hw := hw.2 hc
            refine lv_iconst (v := (0 : Int32)) C.1.1 C.1.2.1 dL_law_3015 (by decide) ?_
            exact tr_law C hr hA2 dL_law_3016 (show (nc + 1) ≤ 645934 by omega) (show (ns + 6) ≤ 7158302 by omega) hS hw
      · have hw := hw.2 hc
        refine lv_iconst (v := (0 : Int32)) C.1.1 C.1.2.1 dL_law_2997 (by decide) ?_
        exact tr_law C hr hA2 dL_law_2998 (show (nc + 1) ≤ 645934 by omega) (show (ns + 6) ≤ 7158302 by omega) hS hw
    have hw := hw.2
    by_cases hc38 : (x_40 &&& (63 : Int32)) = (38 : Int32)
    · have hw := hw.1 hc38
      refine lv_tableIn (off := 2976) (tgt := 3020) C.1.1 C.1.2.1 dL_law_44 (by rw [hc38]; decide) (by rw [hc38]; decide) (by rw [hc38]; rfl) (by decide) ?_
      refine tr_aload_n (k := 1) (x := v1) C hl 0 rfl dL_law_3020 ?_
      refine tr_aload_n (k := 0) (x := (some b)) C hl 4 rfl dL_law_3021 ?_
      refine tr_iload (x := v4) C hl 3 rfl dL_law_3022 ?_
      refine lv_iconst (v := (1 : Int32)) C.1.1 C.1.2.1 dL_law_3024 (by decide) ?_
      refine lv_iadd C.1.1 C.1.2.1 dL_law_3025 ?_
      refine tr_sld C hX hbl hbA hS dL_law_3026 hw (fun x_3026 hw => ?_)
      refine tr_aload_n (k := 0) (x := (some b)) C hl 4 rfl dL_law_3027 ?_
      refine tr_iload (x := v4) C hl 3 rfl dL_law_3028 ?_
      refine lv_iconst (v := (2 : Int32)) C.1.1 C.1.2.1 dL_law_3030 (by decide) ?_
      refine lv_iadd C.1.1 C.1.2.1 dL_law_3031 ?_
      refine tr_sld C hX hbl hbA hS dL_law_3032 hw (fun x_3032 hw => ?_)
      refine tr_aload_n (k := 0) (x := (some b)) C hl 4 rfl dL_law_3033 ?_
      refine tr_iload (x := v4) C hl 3 rfl dL_law_3034 ?_
      refine lv_iconst (v := (3 : Int32)) C.1.1 C.1.2.1 dL_law_3036 (by decide) ?_
      refine lv_iadd C.1.1 C.1.2.1 dL_law_3037 ?_
      refine tr_sld C hX hbl hbA hS dL_law_3038 hw (fun x_3038 hw => ?_)
      refine tr_aload_n (k := 3) (x := v3) C hl 2 rfl dL_law_3039 ?_
      have hq54 := hw.1
      have hw := hw.2
      refine tx_backNI (tx_runSX (As := [va_rf v1, .int x_3026, .int x_3032, .int x_3038, va_rf v3]) C hl.1 (c_L_walkChange l hll K _ v1 x_3026 x_3032 x_3038 v3) (vx_cwSW 5 C.1.2.2.2.2 (gi_SX (zm kw_953) (zm kw_954) (zm kw_692) (zm kw_952)) rfl rfl rfl (by decide +kernel) ⟨(Nat.le_of_ble_eq_true rfl), (Nat.le_of_ble_eq_true rfl)⟩) rfl dL_law_3040 ⟨hq54.1, hq54.2⟩ [] rfl (Nat.le_of_ble_eq_true rfl) rfl hW hS hw) hS (fun x_3040 G_3040 H locs hw hW hS => ?_)
      refine tr_istore (x := x_3040) C hl [(5, .inl x_3040), (1, .inr (.inr v1)), (2, .inr (.inr v2)), (3, .inr (.inr v3)), (4, .inl v4), (0, .inr (.inr (some b)))] (by decide) rfl dL_law_3043 (fun ls hl => ?_)
      refine tr_aload_n (k := 2) (x := v2) C hl 2 rfl dL_law_3045 ?_
      refine tr_aload_n (k := 0) (x := (some b)) C hl 5 rfl dL_law_3046 ?_
      refine tr_iload (x := v4) C hl 4 rfl dL_law_3047 ?_
      refine lv_iconst (v := (1 : Int32)) C.1.1 C.1.2.1 dL_law_3049 (by decide) ?_
      refine lv_iadd C.1.1 C.1.2.1 dL_law_3050 ?_
      refine tr_sld C hX hbl hbA hS dL_law_3051 hw (fun x_3051 hw => ?_)
      refine tr_aload_n (k := 0) (x := (some b)) C hl 5 rfl dL_law_3052 ?_
      refine tr_iload (x := v4) C hl 4 rfl dL_law_3053 ?_
      refine lv_iconst (v := (2 : Int32)) C.1.1 C.1.2.1 dL_law_3055 (by decide) ?_
      refine lv_iadd C.1.1 C.1.2.1 dL_law_3056 ?_
      refine tr_sld C hX hbl hbA hS dL_law_3057 hw (fun x_3057 hw => ?_)
      refine tr_aload_n (k := 0) (x := (some b)) C hl 5 rfl dL_law_3058 ?_
      refine tr_iload (x := v4) C hl 4 rfl dL_law_3059 ?_
      refine lv_iconst (v := (3 : Int32)) C.1.1 C.1.2.1 dL_law_3061 (by decide) ?_
      refine lv_iadd C.1.1 C.1.2.1 dL_law_3062 ?_
      refine tr_sld C hX hbl hbA hS dL_law_3063 hw (fun x_3063 hw => ?_)
      refine tr_backI (tr_runV (r := v2) (As := [.int x_3051, .int x_3057, .int x_3063]) C hl.1 (c_X3_walkChange l hll K _ v2 x_3051 x_3057 x_3063) (cwV 3 C.1.2.2.2.2 (gi_V (zm kw_956) (zm kw_957) (zm kw_958) (zm kw_155) (zm kw_955)) rfl rfl rfl (by decide +kernel) ⟨(Nat.le_of_ble_eq_true rfl), (Nat.le_of_ble_eq_true rfl)⟩) rfl rfl dL_law_3064 ⟨(show (nc + 3) + 0 ≤ 645934 by omega), (show (ns + 18) + 0 ≤ 7158302 by omega)⟩ [] rfl (Nat.le_of_ble_eq_true rfl) rfl hW hS hw) hS (fun x_3064 G_3064 H locs hw hW hS => ?_)
      refine tr_istore (x := x_3064) C hl [(6, .inl x_3064), (5, .inl x_3040), (1, .inr (.inr v1)), (2, .inr (.inr v2)), (3, .inr (.inr v3)), (4, .inl v4), (0, .inr (.inr (some b)))] (by decide) rfl dL_law_3067 (fun ls hl => ?_)
      refine tr_aload_n (k := 2) (x := v2) C hl 3 rfl dL_law_3069 ?_
      refine tr_backI (tr_runV (r := v2) (As := []) C hl.1 (c_X3_thrown l hll K _ v2) (cwV 0 C.1.2.2.2.2 (gi_V (zm kw_682) (zm kw_683) (zm kw_684) (zm kw_155) (zm kw_681)) rfl rfl rfl (by decide +kernel) ⟨(Nat.le_of_ble_eq_true rfl), (Nat.le_of_ble_eq_true rfl)⟩) rfl rfl dL_law_3070 ⟨(show (nc + 3) + 0 ≤ 645934 by omega), (show (ns + 18) + 0 ≤ 7158302 by omega)⟩ [] rfl (Nat.le_of_ble_eq_true rfl) rfl hW hS hw) hS (fun x_3070 G_3070 H locs hw hW hS => ?_)
      refine tr_iload (x := x_3040) C hl 1 rfl dL_law_3073 ?_
      refine lv_icmp_eq (tgt := 3080) C.1.1 C.1.2.1 dL_law_3075 (by decide) (fun hc => ?_) (fun hc => ?_)
      · have hw := hw.1 hc
        refine tr_iload (x := x_3040) C hl 1 rfl dL_law_3080 ?_
        refine lv_if_ne (tgt := 3098) C.1.1 C.1.2.1 dL_law_3082 (by decide) (fun hc => ?_) (fun hc => ?_)
        · have hw := hw.1 hc
          exact s_L_law_3098 C hr hX hbl hbA hA2 hcN hll k27 hk27 ((nc + 3)) ((ns + 18)) v1 v2 v3 v4 _ _ _ _ (show (nc + 3) ≤ 645934 ∧ (ns + 18) ≤ 7158302 by omega) hW hS (tl_sub hl [2, 3, 4, 5, 6] rfl) hw
        · have hw := hw.2 hc
          refine tr_aload_n (k := 3) (x := v3) C hl 4 rfl dL_law_3085 ?_
          refine tr_gfLN (C0 := RX2) (T := TX2) (N := 2) (ci := 4) (ref := "TwinrowLaw$Out") (host := "TwinrowLaw") (k := 0) (r := v3) C (zh hw_X2) rfl (by decide) (tc_kx C).1 rfl dL_law_3086 hW hw (fun x_3086 hw => ?_)
          refine tr_iload (x := x_3064) C hl 0 rfl dL_law_3089 ?_
          refine lv_i2l (v := ((x_3064).toInt64)) C.1.1 C.1.2.1 dL_law_3091 rfl ?_
          refine W.lcmp C.1.1 C.1.2.1 dL_law_3092 ?_
          refine lv_if_eq (tgt := 3098) C.1.1 C.1.2.1 dL_law_3093 (by decide) (fun hc => ?_) (fun hc => ?_)
          · have hw := hw.1 hc
            exact s_L_law_3098 C hr hX hbl hbA hA2 hcN hll k27 hk27 ((nc + 3)) ((ns + 18)) v1 v2 v3 v4 _ _ _ _ (show (nc + 3) ≤ 645934 ∧ (ns + 18) ≤ 7158302 by omega) hW hS (tl_sub hl [2, 3, 4, 5, 6] rfl) hw
          · have hw := hw.2 hc
            refine lv_iconst (v := (0 : Int32)) C.1.1 C.1.2.1 dL_law_3096 (by decide) ?_
            exact tr_law C hr hA2 dL_law_3097 (show (nc + 3) ≤ 645934 by omega) (show (ns + 18) ≤ 7158302 by omega) hS hw
      · have hw := hw.2 hc
        refine lv_iconst (v := (0 : Int32)) C.1.1 C.1.2.1 dL_law_3078 (by decide) ?_
        exact tr_law C hr hA2 dL_law_3079 (show (nc + 3) ≤ 645934 by omega) (show (ns + 18) ≤ 7158302 by omega) hS hw
    have hw := hw.2
    by_cases hc39 : (x_40 &&& (63 : Int32)) = (39 : Int32)
    · have hw := hw.1 hc39
      refine lv_tableIn (off := 3057) (tgt := 3101) C.1.1 C.1.2.1 dL_law_44 (by rw [hc39]; decide) (by rw [hc39]; decide) (by rw [hc39]; rfl) (by decide) ?_
      refine tr_aload_n (k := 1) (x := v1) C hl 0 rfl dL_law_3101 ?_
      refine tr_backI (tr_runV (r := v1) (As := []) C hl.1 (c_X1_knock l hll K _ v1) (cwV 0 C.1.2.2.2.2 (gi_V (zm kw_960) (zm kw_961) (zm kw_962) (zm kw_33) (zm kw_959)) rfl rfl rfl (by decide +kernel) ⟨(Nat.le_of_ble_eq_true rfl), (Nat.le_of_ble_eq_true rfl)⟩) rfl rfl dL_law_3102 ⟨(show nc + 0 ≤ 645934 by omega), (show ns + 0 ≤ 7158302 by omega)⟩ [] rfl (Nat.le_of_ble_eq_true rfl) rfl hW hS hw) hS (fun x_3102 G_3102 H locs hw hW hS => ?_)
      refine tr_aload_n (k := 2) (x := v2) C hl 1 rfl dL_law_3105 ?_
      refine tr_backI (tr_runV (r := v2) (As := []) C hl.1 (c_X3_knock l hll K _ v2) (cwV 0 C.1.2.2.2.2 (gi_V (zm kw_964) (zm kw_965) (zm kw_966) (zm kw_155) (zm kw_963)) rfl rfl rfl (by decide +kernel) ⟨(Nat.le_of_ble_eq_true rfl), (Nat.le_of_ble_eq_true rfl)⟩) rfl rfl dL_law_3106 ⟨(show nc + 0 ≤ 645934 by omega), (show ns + 0 ≤ 7158302 by omega)⟩ [.inl x_3102] rfl (Nat.le_of_ble_eq_true rfl) rfl hW hS hw) hS (fun x_3106 G_3106 H locs hw hW hS => ?_)
      refine lv_icmp_eq (tgt := 3312) C.1.1 C.1.2.1 dL_law_3109 (by decide) (fun hc => ?_) (fun hc => ?_)
      · have hw := hw.1 hc
        exact s_L_law_3312 C hr hX hbl hbA hA2 hcN hll k27 hk27 nc ns v1 v2 v3 v4 _ _ _ _ (show nc ≤ 645934 ∧ ns ≤ 7158302 by omega) hW hS (tl_sub hl [0, 1, 2, 3, 4] rfl) hw
      · have hw := hw.2 hc
        refine lv_iconst (v := (0 : Int32)) C.1.1 C.1.2.1 dL_law_3112 (by decide) ?_
        exact tr_law C hr hA2 dL_law_3113 (show nc ≤ 645934 by omega) (show ns ≤ 7158302 by omega) hS hw
    have hw := hw.2
    by_cases hc40 : (x_40 &&& (63 : Int32)) = (40 : Int32)
    · have hw := hw.1 hc40
      refine lv_tableIn (off := 3070) (tgt := 3114) C.1.1 C.1.2.1 dL_law_44 (by rw [hc40]; decide) (by rw [hc40]; decide) (by rw [hc40]; rfl) (by decide) ?_
      refine tr_aload_n (k := 1) (x := v1) C hl 0 rfl dL_law_3114 ?_
      refine tr_aload_n (k := 0) (x := (some b)) C hl 4 rfl dL_law_3115 ?_
      refine tr_iload (x := v4) C hl 3 rfl dL_law_3116 ?_
      refine lv_iconst (v := (1 : Int32)) C.1.1 C.1.2.1 dL_law_3118 (by decide) ?_
      refine lv_iadd C.1.1 C.1.2.1 dL_law_3119 ?_
      refine tr_sld C hX hbl hbA hS dL_law_3120 hw (fun x_3120 hw => ?_)
      refine tr_aload_n (k := 3) (x := v3) C hl 2 rfl dL_law_3121 ?_
      have hq55 := hw.1
      have hw := hw.2
      refine tx_backNI (tx_runSX (As := [va_rf v1, .int x_3120, va_rf v3]) C hl.1 (c_L_house l hll K _ v1 x_3120 v3) (vx_cwSW 3 C.1.2.2.2.2 (gi_SX (zm kw_968) (zm kw_969) (zm kw_692) (zm kw_967)) rfl rfl rfl (by decide +kernel) ⟨(Nat.le_of_ble_eq_true rfl), (Nat.le_of_ble_eq_true rfl)⟩) rfl dL_law_3122 ⟨hq55.1, hq55.2⟩ [] rfl (Nat.le_of_ble_eq_true rfl) rfl hW hS hw) hS (fun x_3122 G_3122 H locs hw hW hS => ?_)
      refine tr_istore (x := x_3122) C hl [(5, .inl x_3122), (1, .inr (.inr v1)), (2, .inr (.inr v2)), (3, .inr (.inr v3)), (4, .inl v4), (0, .inr (.inr (some b)))] (by decide) rfl dL_law_3125 (fun ls hl => ?_)
      refine tr_aload_n (k := 2) (x := v2) C hl 2 rfl dL_law_3127 ?_
      refine tr_aload_n (k := 0) (x := (some b)) C hl 5 rfl dL_law_3128 ?_
      refine tr_iload (x := v4) C hl 4 rfl dL_law_3129 ?_
      refine lv_iconst (v := (1 : Int32)) C.1.1 C.1.2.1 dL_law_3131 (by decide) ?_
      refine lv_iadd C.1.1 C.1.2.1 dL_law_3132 ?_
      refine tr_sld C hX hbl hbA hS dL_law_3133 hw (fun x_3133 hw => ?_)
      have hq56 := hw.1
      have hw := hw.2
      refine tr_backI (tr_runV (r := v2) (As := [.int x_3133]) C hl.1 (c_X3_house l hll K _ v2 x_3133) (cwV 1 C.1.2.2.2.2 (gi_V (zm kw_971) (zm kw_972) (zm kw_973) (zm kw_155) (zm kw_970)) rfl rfl rfl (by decide +kernel) ⟨(Nat.le_of_ble_eq_true rfl), (Nat.le_of_ble_eq_true rfl)⟩) rfl rfl dL_law_3134 ⟨hq56.1, hq56.2⟩ [] rfl (Nat.le_of_ble_eq_true rfl) rfl hW hS hw) hS (fun x_3134 G_3134 H locs hw hW hS => ?_)
      refine tr_istore (x := x_3134) C hl [(6, .inl x_3134), (5, .inl x_3122), (1, .inr (.inr v1)), (2, .inr (.inr v2)), (3, .inr (.inr v3)), (4, .inl v4), (0, .inr (.inr (some b)))] (by decide) rfl dL_law_3137 (fun ls hl => ?_)
      refine tr_aload_n (k := 2) (x := v2) C hl 3 rfl dL_law_3139 ?_
      refine tr_backI (tr_runV (r := v2) (As := []) C hl.1 (c_X3_thrown l hll K _ v2) (cwV 0 C.1.2.2.2.2 (gi_V (zm kw_682) (zm kw_683) (zm kw_684) (zm kw_155) (zm kw_681)) rfl rfl rfl (by decide +kernel) ⟨(Nat.le_of_ble_eq_true rfl), (Nat.le_of_ble_eq_true rfl)⟩) rfl rfl dL_law_3140 ⟨(show ((nc + 4) + 1) + 0 ≤ 645934 by omega), (show ((ns + 24) + 4) + 0 ≤ 7158302 by omega)⟩ [] rfl (Nat.le_of_ble_eq_true rfl) rfl hW hS hw) hS (fun x_3140 G_3140 H locs hw hW hS => ?_)
      refine tr_iload (x := x_3122) C hl 1 rfl dL_law_3143 ?_
      refine lv_icmp_eq (tgt := 3150) C.1.1 C.1.2.1 dL_law_3145 (by decide) (fun hc => ?_) (fun hc => ?_)
      · have hw := hw.1 hc
        refine tr_iload (x := x_3122) C hl 1 rfl dL_law_3150 ?_
        refine lv_if_ne (tgt := 3168) C.1.1 C.1.2.1 dL_law_3152 (by decide) (fun hc => ?_) (fun hc => ?_)
        · have hw := hw.1 hc
          exact s_L_law_3168 C hr hX hbl hbA hA2 hcN hll k27 hk27 (((nc + 4) + 1)) (((ns + 24) + 4)) v1 v2 v3 v4 _ _ _ _ (show ((nc + 4) + 1) ≤ 645934 ∧ ((ns + 24) + 4) ≤ 7158302 by omega) hW hS (tl_sub hl [2, 3, 4, 5, 6] rfl) hw
        · have hw := hw.2 hc
          refine tr_aload_n (k := 3) (x := v3) C hl 4 rfl dL_law_3155 ?_
          refine tr_gfLN (C0 := RX2) (T := TX2) (N := 2) (ci := 4) (ref := "TwinrowLaw$Out") (host := "TwinrowLaw") (k := 0) (r := v3) C (zh hw_X2) rfl (by decide) (tc_kx C).1 rfl dL_law_3156 hW hw (fun x_3156 hw => ?_)
          refine tr_iload (x := x_3134) C hl 0 rfl dL_law_3159 ?_
          refine lv_i2l (v := ((x_3134).toInt64)) C.1.1 C.1.2.1 dL_law_3161 rfl ?_
          refine W.lcmp C.1.1 C.1.2.1 dL_law_3162 ?_
          refine lv_if_eq (tgt := 3168) C.1.1 C.1.2.1 dL_law_3163 (by decide) (fun hc => ?_) (fun hc => ?_)
          · have hw := hw.1 hc
            exact s_L_law_3168 C hr hX hbl hbA hA2 hcN hll k27 hk27 (((nc + 4) + 1)) (((ns + 24) + 4)) v1 v2 v3 v4 _ _ _ _ (show ((nc + 4) + 1) ≤ 645934 ∧ ((ns + 24) + 4) ≤ 7158302 by omega) hW hS (tl_sub hl [2, 3, 4, 5, 6] rfl) hw
          · have hw := hw.2 hc
            refine lv_iconst (v := (0 : Int32)) C.1.1 C.1.2.1 dL_law_3166 (by decide) ?_
            exact tr_law C hr hA2 dL_law_3167 (show ((nc + 4) + 1) ≤ 645934 by omega) (show ((ns + 24) + 4) ≤ 7158302 by omega) hS hw
      · have hw := hw.2 hc
        refine lv_iconst (v := (0 : Int32)) C.1.1 C.1.2.1 dL_law_3148 (by decide) ?_
        exact tr_law C hr hA2 dL_law_3149 (show ((nc + 4) + 1) ≤ 645934 by omega) (show ((ns + 24) + 4) ≤ 7158302 by omega) hS hw
    have hw := hw.2
    by_cases hc41 : (x_40 &&& (63 : Int32)) = (41 : Int32)
    · have hw := hw.1 hc41
      refine lv_tableIn (off := 3127) (tgt := 3171) C.1.1 C.1.2.1 dL_law_44 (by rw [hc41]; decide) (by rw [hc41]; decide) (by rw [hc41]; rfl) (by decide) ?_
      refine tr_aload_n (k := 1) (x := v1) C hl 0 rfl dL_law_3171 ?_
      refine tr_aload_n (k := 0) (x := (some b)) C hl 4 rfl dL_law_3172 ?_
      refine tr_iload (x := v4) C hl 3 rfl dL_law_3173 ?_
      refine lv_iconst (v := (1 : Int32)) C.1.1 C.1.2.1 dL_law_3175 (by decide) ?_
      refine lv_iadd C.1.1 C.1.2.1 dL_law_3176 ?_
      refine tr_sld C hX hbl hbA hS dL_law_3177 hw (fun x_3177 hw => ?_)
      refine tr_aload_n (k := 3) (x := v3) C hl 2 rfl dL_law_3178 ?_
      have hq57 := hw.1
      have hw := hw.2
      refine tx_backNI (tx_runSX (As := [va_rf v1, .int x_3177, va_rf v3]) C hl.1 (c_L_rowOf l hll K _ v1 x_3177 v3) (vx_cwSW 3 C.1.2.2.2.2 (gi_SX (zm kw_975) (zm kw_976) (zm kw_692) (zm kw_974)) rfl rfl rfl (by decide +kernel) ⟨(Nat.le_of_ble_eq_true rfl), (Nat.le_of_ble_eq_true rfl)⟩) rfl dL_law_3179 ⟨hq57.1, hq57.2⟩ [] rfl (Nat.le_of_ble_eq_true rfl) rfl hW hS hw) hS (fun x_3179 G_3179 H locs hw hW hS => ?_)
      refine tr_istore (x := x_3179) C hl [(5, .inl x_3179), (1, .inr (.inr v1)), (2, .inr (.inr v2)), (3, .inr (.inr v3)), (4, .inl v4), (0, .inr (.inr (some b)))] (by decide) rfl dL_law_3182 (fun ls hl => ?_)
      refine tr_aload_n (k := 2) (x := v2) C hl 2 rfl dL_law_3184 ?_
      refine tr_aload_n (k := 0) (x := (some b)) C hl 5 rfl dL_law_3185 ?_
      refine tr_iload (x := v4) C hl 4 rfl dL_law_3186 ?_
      refine lv_iconst (v := (1 : Int32)) C.1.1 C.1.2.1 dL_law_3188 (by decide) ?_
      refine lv_iadd C.1.1 C.1.2.1 dL_law_3189 ?_
      refine tr_sld C hX hbl hbA hS dL_law_3190 hw (fun x_3190 hw => ?_)
      refine tr_backI (tr_runV (r := v2) (As := [.int x_3190]) C hl.1 (c_X3_rowOf l hll K _ v2 x_3190) (cwV 1 C.1.2.2.2.2 (gi_V (zm kw_978) (zm kw_979) (zm kw_980) (zm kw_155) (zm kw_977)) rfl rfl rfl (by decide +kernel) ⟨(Nat.le_of_ble_eq_true rfl), (Nat.le_of_ble_eq_true rfl)⟩) rfl rfl dL_law_3191 ⟨(show (nc + 1) + 0 ≤ 645934 by omega), (show (ns + 6) + 0 ≤ 7158302 by omega)⟩ [] rfl (Nat.le_of_ble_eq_true rfl) rfl hW hS hw) hS (fun x_3191 G_3191 H locs hw hW hS => ?_)
      refine tr_istore (x := x_3191) C hl [(6, .inl x_3191), (5, .inl x_3179), (1, .inr (.inr v1)), (2, .inr (.inr v2)), (3, .inr (.inr v3)), (4, .inl v4), (0, .inr (.inr (some b)))] (by decide) rfl dL_law_3194 (fun ls hl => ?_)
      refine tr_aload_n (k := 2) (x := v2) C hl 3 rfl dL_law_3196 ?_
      refine tr_backI (tr_runV (r := v2) (As := []) C hl.1 (c_X3_thrown l hll K _ v2) (cwV 0 C.1.2.2.2.2 (gi_V (zm kw_682) (zm kw_683) (zm kw_684) (zm kw_155) (zm kw_681)) rfl rfl rfl (by decide +kernel) ⟨(Nat.le_of_ble_eq_true rfl), (Nat.le_of_ble_eq_true rfl)⟩) rfl rfl dL_law_3197 ⟨(show (nc + 1) + 0 ≤ 645934 by omega), (show (ns + 6) + 0 ≤ 7158302 by omega)⟩ [] rfl (Nat.le_of_ble_eq_true rfl) rfl hW hS hw) hS (fun x_3197 G_3197 H locs hw hW hS => ?_)
      refine tr_iload (x := x_3179) C hl 1 rfl dL_law_3200 ?_
      refine lv_icmp_eq (tgt := 3207) C.1.1 C.1.2.1 dL_law_3202 (by decide) (fun hc => ?_) (fun hc => ?_)
      · have hw := hw.1 hc
        refine tr_iload (x := x_3179) C hl 1 rfl dL_law_3207 ?_
        refine lv_if_ne (tgt := 3225) C.1.1 C.1.2.1 dL_law_3209 (by decide) (fun hc => ?_) (fun hc => ?_)
        · have hw := hw.1 hc
          exact s_L_law_3225 C hr hX hbl hbA hA2 hcN hll k27 hk27 ((nc + 1)) ((ns + 6)) v1 v2 v3 v4 _ _ _ _ (show (nc + 1) ≤ 645934 ∧ (ns + 6) ≤ 7158302 by omega) hW hS (tl_sub hl [2, 3, 4, 5, 6] rfl) hw
        · have hw := hw.2 hc
          refine tr_aload_n (k := 3) (x := v3) C hl 4 rfl dL_law_3212 ?_
          refine tr_gfLN (C0 := RX2) (T := TX2) (N := 2) (ci := 4) (ref := "TwinrowLaw$Out") (host := "TwinrowLaw") (k := 0) (r := v3) C (zh hw_X2) rfl (by decide) (tc_kx C).1 rfl dL_law_3213 hW hw (fun x_3213 hw => ?_)
          refine tr_iload (x := x_3191) C hl 0 rfl dL_law_3216 ?_
          refine lv_i2l (v := ((x_3191).toInt64)) C.1.1 C.1.2.1 dL_law_3218 rfl ?_
          refine W.lcmp C.1.1 C.1.2.1 dL_law_3219 ?_
          refine lv_if_eq (tgt := 3225) C.1.1 C.1.2.1 dL_law_3220 (by decide) (fun hc => ?_) (fun hc => ?_)
          · have hw := hw.1 hc
            exact s_L_law_3225 C hr hX hbl hbA hA2 hcN hll k27 hk27 ((nc + 1)) ((ns + 6)) v1 v2 v3 v4 _ _ _ _ (show (nc + 1) ≤ 645934 ∧ (ns + 6) ≤ 7158302 by omega) hW hS (tl_sub hl [2, 3, 4, 5, 6] rfl) hw
          · have hw := hw.2 hc
            refine lv_iconst (v := (0 : Int32)) C.1.1 C.1.2.1 dL_law_3223 (by decide) ?_
            exact tr_law C hr hA2 dL_law_3224 (show (nc + 1) ≤ 645934 by omega) (show (ns + 6) ≤ 7158302 by omega) hS hw
      · have hw := hw.2 hc
        refine lv_iconst (v := (0 : Int32)) C.1.1 C.1.2.1 dL_law_3205 (by decide) ?_
        exact tr_law C hr hA2 dL_law_3206 (show (nc + 1) ≤ 645934 by omega) (show (ns + 6) ≤ 7158302 by omega) hS hw
    have hw := hw.2
    by_cases hc42 : (x_40 &&& (63 : Int32)) = (42 : Int32)
    · have hw := hw.1 hc42
      refine lv_tableIn (off := 3184) (tgt := 3228) C.1.1 C.1.2.1 dL_law_44 (by rw [hc42]; decide) (by rw [hc42]; decide) (by rw [hc42]; rfl) (by decide) ?_
      refine tr_aload_n (k := 1) (x := v1) C hl 0 rfl dL_law_3228 ?_
      refine tr_aload_n (k := 0) (x := (some b)) C hl 4 rfl dL_law_3229 ?_
      refine tr_iload (x := v4) C hl 3 rfl dL_law_3230 ?_
      refine lv_iconst (v := (1 : Int32)) C.1.1 C.1.2.1 dL_law_3232 (by decide) ?_
      refine lv_iadd C.1.1 C.1.2.1 dL_law_3233 ?_
      refine tr_sld C hX hbl hbA hS dL_law_3234 hw (fun x_3234 hw => ?_)
      refine tr_aload_n (k := 3) (x := v3) C hl 2 rfl dL_law_3235 ?_
      have hq58 := hw.1
      have hw := hw.2
      refine tx_backNI (tx_runSX (As := [va_rf v1, .int x_3234, va_rf v3]) C hl.1 (c_L_begin l hll K _ v1 x_3234 v3) (vx_cwSW 3 C.1.2.2.2.2 (gi_SX (zm kw_982) (zm kw_983) (zm kw_692) (zm kw_981)) rfl rfl rfl (by decide +kernel) ⟨(Nat.le_of_ble_eq_true rfl), (Nat.le_of_ble_eq_true rfl)⟩) rfl dL_law_3236 ⟨hq58.1, hq58.2⟩ [] rfl (Nat.le_of_ble_eq_true rfl) rfl hW hS hw) hS (fun x_3236 G_3236 H locs hw hW hS => ?_)
      refine tr_istore (x := x_3236) C hl [(5, .inl x_3236), (1, .inr (.inr v1)), (2, .inr (.inr v2)), (3, .inr (.inr v3)), (4, .inl v4), (0, .inr (.inr (some b)))] (by decide) rfl dL_law_3239 (fun ls hl => ?_)
      refine tr_aload_n (k := 2) (x := v2) C hl 2 rfl dL_law_3241 ?_
      refine tr_aload_n (k := 0) (x := (some b)) C hl 5 rfl dL_law_3242 ?_
      refine tr_iload (x := v4) C hl 4 rfl dL_law_3243 ?_
      refine lv_iconst (v := (1 : Int32)) C.1.1 C.1.2.1 dL_law_3245 (by decide) ?_
      refine lv_iadd C.1.1 C.1.2.1 dL_law_3246 ?_
      refine tr_sld C hX hbl hbA hS dL_law_3247 hw (fun x_3247 hw => ?_)
      refine tr_backI (tr_runV (r := v2) (As := [.int x_3247]) C hl.1 (c_X3_begin l hll K _ v2 x_3247) (cwV 1 C.1.2.2.2.2 (gi_V (zm kw_985) (zm kw_986) (zm kw_987) (zm kw_155) (zm kw_984)) rfl rfl rfl (by decide +kernel) ⟨(Nat.le_of_ble_eq_true rfl), (Nat.le_of_ble_eq_true rfl)⟩) rfl rfl dL_law_3248 ⟨(show (nc + 1) + 0 ≤ 645934 by omega), (show (ns + 6) + 0 ≤ 7158302 by omega)⟩ [] rfl (Nat.le_of_ble_eq_true rfl) rfl hW hS hw) hS (fun x_3248 G_3248 H locs hw hW hS => ?_)
      refine tr_istore (x := x_3248) C hl [(6, .inl x_3248), (5, .inl x_3236), (1, .inr (.inr v1)), (2, .inr (.inr v2)), (3, .inr (.inr v3)), (4, .inl v4), (0, .inr (.inr (some b)))] (by decide) rfl dL_law_3251 (fun ls hl => ?_)
      refine tr_aload_n (k := 2) (x := v2) C hl 3 rfl dL_law_3253 ?_
      refine tr_backI (tr_runV (r := v2) (As := []) C hl.1 (c_X3_thrown l hll K _ v2) (cwV 0 C.1.2.2.2.2 (gi_V (zm kw_682) (zm kw_683) (zm kw_684) (zm kw_155) (zm kw_681)) rfl rfl rfl (by decide +kernel) ⟨(Nat.le_of_ble_eq_true rfl), (Nat.le_of_ble_eq_true rfl)⟩) rfl rfl dL_law_3254 ⟨(show (nc + 1) + 0 ≤ 645934 by omega), (show (ns + 6) + 0 ≤ 7158302 by omega)⟩ [] rfl (Nat.le_of_ble_eq_true rfl) rfl hW hS hw) hS (fun x_3254 G_3254 H locs hw hW hS => ?_)
      refine tr_iload (x := x_3236) C hl 1 rfl dL_law_3257 ?_
      refine lv_icmp_eq (tgt := 3264) C.1.1 C.1.2.1 dL_law_3259 (by decide) (fun hc => ?_) (fun hc => ?_)
      · have hw := hw.1 hc
        refine tr_iload (x := x_3236) C hl 1 rfl dL_law_3264 ?_
        refine lv_if_ne (tgt := 3282) C.1.1 C.1.2.1 dL_law_3266 (by decide) (fun hc => ?_) (fun hc => ?_)
        · have hw := hw.1 hc
          exact s_L_law_3282 C hr hX hbl hbA hA2 hcN hll k27 hk27 ((nc + 1)) ((ns + 6)) v1 v2 v3 v4 _ _ _ _ (show (nc + 1) ≤ 645934 ∧ (ns + 6) ≤ 7158302 by omega) hW hS (tl_sub hl [2, 3, 4, 5, 6] rfl) hw
        · have hw := hw.2 hc
          refine tr_aload_n (k := 3) (x := v3) C hl 4 rfl dL_law_3269 ?_
          refine tr_gfLN (C0 := RX2) (T := TX2) (N := 2) (ci := 4) (ref := "TwinrowLaw$Out") (host := "TwinrowLaw") (k := 0) (r := v3) C (zh hw_X2) rfl (by decide) (tc_kx C).1 rfl dL_law_3270 hW hw (fun x_3270 hw => ?_)
          refine tr_iload (x := x_3248) C hl 0 rfl dL_law_3273 ?_
          refine lv_i2l (v := ((x_3248).toInt64)) C.1.1 C.1.2.1 dL_law_3275 rfl ?_
          refine W.lcmp C.1.1 C.1.2.1 dL_law_3276 ?_
          refine lv_if_eq (tgt := 3282) C.1.1 C.1.2.1 dL_law_3277 (by decide) (fun hc => ?_) (fun hc => ?_)
          · have hw := hw.1 hc
            exact s_L_law_3282 C hr hX hbl hbA hA2 hcN hll k27 hk27 ((nc + 1)) ((ns + 6)) v1 v2 v3 v4 _ _ _ _ (show (nc + 1) ≤ 645934 ∧ (ns + 6) ≤ 7158302 by omega) hW hS (tl_sub hl [2, 3, 4, 5, 6] rfl) hw
          · have hw := hw.2 hc
            refine lv_iconst (v := (0 : Int32)) C.1.1 C.1.2.1 dL_law_3280 (by decide) ?_
            exact tr_law C hr hA2 dL_law_3281 (show (nc + 1) ≤ 645934 by omega) (show (ns + 6) ≤ 7158302 by omega) hS hw
      · have hw := hw.2 hc
        refine lv_iconst (v := (0 : Int32)) C.1.1 C.1.2.1 dL_law_3262 (by decide) ?_
        exact tr_law C hr hA2 dL_law_3263 (show (nc + 1) ≤ 645934 by omega) (show (ns + 6) ≤ 7158302 by omega) hS hw
    have hw := hw.2
    by_cases hc43 : (x_40 &&& (63 : Int32)) = (43 : Int32)
    · have hw := hw.1 hc43
      refine lv_tableIn (off := 3241) (tgt := 3285) C.1.1 C.1.2.1 dL_law_44 (by rw [hc43]; decide) (by rw [hc43]; decide) (by rw [hc43]; rfl) (by decide) ?_
      refine tr_aload_n (k := 1) (x := v1) C hl 0 rfl dL_law_3285 ?_
      have hq59 := hw.1
      have hw := hw.2
      refine tr_backI (tr_runV (r := v1) (As := []) C hl.1 (c_X1_isSound l hll K _ v1) (cwV 0 C.1.2.2.2.2 (gi_V (zm kw_988) (zm kw_134) (zm kw_135) (zm kw_33) (zm kw_132)) rfl rfl rfl (by decide +kernel) ⟨(Nat.le_of_ble_eq_true rfl), (Nat.le_of_ble_eq_true rfl)⟩) rfl rfl dL_law_3286 ⟨hq59.1, hq59.2⟩ [] rfl (Nat.le_of_ble_eq_true rfl) rfl hW hS hw) hS (fun x_3286 G_3286 H locs hw hW hS => ?_)
      refine tr_aload_n (k := 2) (x := v2) C hl 1 rfl dL_law_3289 ?_
      refine tr_backI (tr_runV (r := v2) (As := []) C hl.1 (c_X3_isSound l hll K _ v2) (cwV 0 C.1.2.2.2.2 (gi_V (zm kw_990) (zm kw_991) (zm kw_992) (zm kw_155) (zm kw_989)) rfl rfl rfl (by decide +kernel) ⟨(Nat.le_of_ble_eq_true rfl), (Nat.le_of_ble_eq_true rfl)⟩) rfl rfl dL_law_3290 ⟨(show (nc + 7) + 0 ≤ 645934 by omega), (show (ns + 28) + 0 ≤ 7158302 by omega)⟩ [.inl x_3286] rfl (Nat.le_of_ble_eq_true rfl) rfl hW hS hw) hS (fun x_3290 G_3290 H locs hw hW hS => ?_)
      refine lv_icmp_eq (tgt := 3312) C.1.1 C.1.2.1 dL_law_3293 (by decide) (fun hc => ?_) (fun hc => ?_)
      · have hw := hw.1 hc
        exact s_L_law_3312 C hr hX hbl hbA hA2 hcN hll k27 hk27 ((nc + 7)) ((ns + 28)) v1 v2 v3 v4 _ _ _ _ (show (nc + 7) ≤ 645934 ∧ (ns + 28) ≤ 7158302 by omega) hW hS (tl_sub hl [0, 1, 2, 3, 4] rfl) hw
      · have hw := hw.2 hc
        refine lv_iconst (v := (0 : Int32)) C.1.1 C.1.2.1 dL_law_3296 (by decide) ?_
        exact tr_law C hr hA2 dL_law_3297 (show (nc + 7) ≤ 645934 by omega) (show (ns + 28) ≤ 7158302 by omega) hS hw
    have hw := hw.2
    by_cases hc44 : (x_40 &&& (63 : Int32)) = (44 : Int32)
    · have hw := hw.1 hc44
      refine lv_tableIn (off := 3254) (tgt := 3298) C.1.1 C.1.2.1 dL_law_44 (by rw [hc44]; decide) (by rw [hc44]; decide) (by rw [hc44]; rfl) (by decide) ?_
      refine tr_aload_n (k := 1) (x := v1) C hl 0 rfl dL_law_3298 ?_
      have hq60 := hw.1
      have hw := hw.2
      refine tx_backNL (tx_runV (r := v1) (As := []) C hl.1 (c_X1_digest l hll K _ _ v1) (cwV 0 C.1.2.2.2.2 (gi_V (zm kw_994) (zm kw_995) (zm kw_996) (zm kw_33) (zm kw_993)) rfl rfl rfl (by decide +kernel) ⟨(Nat.le_of_ble_eq_true rfl), (Nat.le_of_ble_eq_true rfl)⟩) rfl rfl dL_law_3299 ⟨hq60.1, hq60.2⟩ [] rfl (Nat.le_of_ble_eq_true rfl) rfl hW hS hw) hS (fun x_3299 G_3299 H locs hw hW hS => ?_)
      refine tr_aload_n (k := 2) (x := v2) C hl 1 rfl dL_law_3302 ?_
      have hq61 := hw.1
      have hw := hw.2
      refine tr_backL (tr_runV (r := v2) (As := []) C hl.1 (c_X3_digest l hll K _ v2) (cwV 0 C.1.2.2.2.2 (gi_V (zm kw_998) (zm kw_999) (zm kw_1000) (zm kw_155) (zm kw_997)) rfl rfl rfl (by decide +kernel) ⟨(Nat.le_of_ble_eq_true rfl), (Nat.le_of_ble_eq_true rfl)⟩) rfl rfl dL_law_3303 ⟨hq61.1, hq61.2⟩ [.inr (.inl x_3299)] rfl (Nat.le_of_ble_eq_true rfl) rfl hW hS hw) hS (fun x_3303 G_3303 H locs hw hW hS => ?_)
      refine W.lcmp C.1.1 C.1.2.1 dL_law_3306 ?_
      refine lv_if_eq (tgt := 3312) C.1.1 C.1.2.1 dL_law_3307 (by decide) (fun hc => ?_) (fun hc => ?_)
      · have hw := hw.1 hc
        exact s_L_law_3312 C hr hX hbl hbA hA2 hcN hll k27 hk27 (((nc + 61) + 20)) (((ns + 352) + 200)) v1 v2 v3 v4 _ _ _ _ (show ((nc + 61) + 20) ≤ 645934 ∧ ((ns + 352) + 200) ≤ 7158302 by omega) hW hS (tl_sub hl [0, 1, 2, 3, 4] rfl) hw
      · have hw := hw.2 hc
        refine lv_iconst (v := (0 : Int32)) C.1.1 C.1.2.1 dL_law_3310 (by decide) ?_
        exact tr_law C hr hA2 dL_law_3311 (show ((nc + 61) + 20) ≤ 645934 by omega) (show ((ns + 352) + 200) ≤ 7158302 by omega) hS hw
    have hw := hw.2
    have hcd : (((x_40 &&& (63 : Int32))).toInt < 0 ∨ 44 < ((x_40 &&& (63 : Int32))).toInt) := by
      have q0 := lv_neT (a := 0) hc0 (by decide)
      have q1 := lv_neT (a := 1) hc1 (by decide)
      have q2 := lv_neT (a := 2) hc2 (by decide)
      have q3 := lv_neT (a := 3) hc3 (by decide)
      have q4 := lv_neT (a := 4) hc4 (by decide)
      have q5 := lv_neT (a := 5) hc5 (by decide)
      have q6 := lv_neT (a := 6) hc6 (by decide)
      have q7 := lv_neT (a := 7) hc7 (by decide)
      have q8 := lv_neT (a := 8) hc8 (by decide)
      have q9 := lv_neT (a := 9) hc9 (by decide)
      have q10 := lv_neT (a := 10) hc10 (by decide)
      have q11 := lv_neT (a := 11) hc11 (by decide)
      have q12 := lv_neT (a := 12) hc12 (by decide)
      have q13 := lv_neT (a := 13) hc13 (by decide)
      have q14 := lv_neT (a := 14) hc14 (by decide)
      have q15 := lv_neT (a := 15) hc15 (by decide)
      have q16 := lv_neT (a := 16) hc16 (by decide)
      have q17 := lv_neT (a := 17) hc17 (by decide)
      have q18 := lv_neT (a := 18) hc18 (by decide)
      have q19 := lv_neT (a := 19) hc19 (by decide)
      have q20 := lv_neT (a := 20) hc20 (by decide)
      have q21 := lv_neT (a := 21) hc21 (by decide)
      have q22 := lv_neT (a := 22) hc22 (by decide)
      have q23 := lv_neT (a := 23) hc23 (by decide)
      have q24 := lv_neT (a := 24) hc24 (by decide)
      have q25 := lv_neT (a := 25) hc25 (by decide)
      have q26 := lv_neT (a := 26) hc26 (by decide)
      have q27 := lv_neT (a := 27) hc27 (by decide)
      have q28 := lv_neT (a := 28) hc28 (by decide)
      have q29 := lv_neT (a := 29) hc29 (by decide)
      have q30 := lv_neT (a := 30) hc30 (by decide)
      have q31 := lv_neT (a := 31) hc31 (by decide)
      have q32 := lv_neT (a := 32) hc32 (by decide)
      have q33 := lv_neT (a := 33) hc33 (by decide)
      have q34 := lv_neT (a := 34) hc34 (by decide)
      have q35 := lv_neT (a := 35) hc35 (by decide)
      have q36 := lv_neT (a := 36) hc36 (by decide)
      have q37 := lv_neT (a := 37) hc37 (by decide)
      have q38 := lv_neT (a := 38) hc38 (by decide)
      have q39 := lv_neT (a := 39) hc39 (by decide)
      have q40 := lv_neT (a := 40) hc40 (by decide)
      have q41 := lv_neT (a := 41) hc41 (by decide)
      have q42 := lv_neT (a := 42) hc42 (by decide)
      have q43 := lv_neT (a := 43) hc43 (by decide)
      have q44 := lv_neT (a := 44) hc44 (by decide)
      omega
    have hw := hw hcd
    refine lv_tableOut (tgt := 3312) C.1.1 C.1.2.1 dL_law_44 hcd (by decide) ?_
    exact s_L_law_3312 C hr hX hbl hbA hA2 hcN hll k27 hk27 nc ns v1 v2 v3 v4 _ _ _ _ (show nc ≤ 645934 ∧ ns ≤ 7158302 by omega) hW hS (tl_sub hl [0, 1, 2, 3, 4] rfl) hw
set_option maxHeartbeats 4000000 in
set_option maxRecDepth 100000 in
theorem s_L_law_27 {K : tK} (C : tc_B p l s m #[Value.ref b] meth c D K A wz_L_law RL cL_law 7) (hr : meth.sig.returnType = (some .boolean)) (hX : va_X b xL xs s s.heap) (hbl : b < s.heap.size) (hbA : ¬ A b) (hA2 : ∀ q : Nat, A q → s.heap.size ≤ q) (hcN : va_Nw tw_nest s) (hll : l.stackTraces = false)  : ∀ (n : Nat) (nc ns : Nat) (v1 : Option Nat) (v2 : Option Nat) (v3 : Option Nat) (v4 : Int32) (G : tG) (H : Heap) (locs : List Loc) (ls : Array Slot), nc ≤ 645934 ∧ ns ≤ 7158302 → tg_W D A s H G → va_S A s.heap H locs → tl ls 7 [(1, .inr (.inr v1)), (2, .inr (.inr v2)), (3, .inr (.inr v3)), (4, .inl v4), (0, .inr (.inr (some b)))] → w_L_law_27 K xL xs n nc ns v1 v2 v3 v4 G → W p l e room_1 s m #[Value.ref b] below meth c H locs nc ns (lw_Z below #[Value.ref b] s) (F0 m 27 ls []) := by
  intro n
  induction n with
  | zero =>
    intro nc ns v1 v2 v3 v4 G H locs ls hcn hW hS hl hw
    exact hw.elim
  | succ n ih => exact s_L_law_27_b C hr hX hbl hbA hA2 hcN hll  _ ih
set_option maxHeartbeats 4000000 in
set_option maxRecDepth 100000 in
theorem s_L_law {K : tK} (C : tc_B p l s m #[Value.ref b] meth c D K A wz_L_law RL cL_law 7) (hr : meth.sig.returnType = (some .boolean)) (hX : va_X b xL xs s s.heap) (hbl : b < s.heap.size) (hbA : ¬ A b) (hA2 : ∀ q : Nat, A q → s.heap.size ≤ q) (hcN : va_Nw tw_nest s) (hll : l.stackTraces = false)  : ∀ (G : tG) (H : Heap) (locs : List Loc) (ls : Array Slot), tg_W D A s H G → va_S A s.heap H locs → tl ls 7 [(0, .inr (.inr (some b)))] → w_L_law K xL xs G → W p l e room_1 s m #[Value.ref b] below meth c H locs 0 0 (lw_Z below #[Value.ref b] s) (F0 m 0 ls []) := by
  intro G H locs ls hW hS hl hw
  unfold w_L_law at hw
  have hq62 := hw.1
  have hw := hw.2
  refine tr_new (C0 := RX1) (T := TX1) (N := 4) (ci := 3) (fs := [.null, .null, .int 0, .int 0]) C (zh hw_X1) tyX1 tyX1_ok (zm kw_1001) (zm kw_1002) (zm kw_33) rfl df_X1 hq62.1 hq62.2 dL_law_0 hW hS hw (fun r_0 G_0 H hw hW hS => ?_)
  refine lv_dup C.1.1 C.1.2.1 dL_law_3 (va_rf_cat _) ?_
  have hq63 := hw.1
  have hw := hw.2
  refine tr_backV (tr_runI (r := r_0) (As := []) C hl.1 (c_X1_init l hll K _ r_0) (cwI 0 C.1.2.2.2.2 (gi_I  (zm kw_1003)) rfl rfl rfl (C.1.2.2.2.2 _ (zm kw_33)) (C.1.2.2.2.2 _ (zm kw_1004)) (C.1.2.2.2.2 _ (zm kw_1005)) rfl (by decide +kernel) ⟨(Nat.le_of_ble_eq_true rfl), (Nat.le_of_ble_eq_true rfl)⟩) rfl dL_law_4 ⟨hq63.1, hq63.2⟩ [.inr (.inr r_0)] rfl (Nat.le_of_ble_eq_true rfl) rfl hW hS hw) hS (fun G_4 H locs hw hW hS => ?_)
  refine tr_astore_n (k := 1) (x := r_0) C hl [(1, .inr (.inr r_0)), (0, .inr (.inr (some b)))] (by decide) rfl dL_law_7 (fun ls hl => ?_)
  have hq64 := hw.1
  have hw := hw.2
  refine tr_new (C0 := RX3) (T := TX3) (N := 8) (ci := 5) (fs := [.null, .null, .null, .null, .int 0, .int 0, .int 0, .long 0]) C (zh hw_X3) tyX3 tyX3_ok (zm kw_1006) (zm kw_1007) (zm kw_155) rfl df_X3 hq64.1 hq64.2 dL_law_8 hW hS hw (fun r_8 G_8 H hw hW hS => ?_)
  refine lv_dup C.1.1 C.1.2.1 dL_law_11 (va_rf_cat _) ?_
  have hq65 := hw.1
  have hw := hw.2
  refine tr_backV (tr_runI (r := r_8) (As := []) C hl.1 (c_X3_init l hll K _ r_8) (cwI 0 C.1.2.2.2.2 (gi_I  (zm kw_1008)) rfl rfl rfl (C.1.2.2.2.2 _ (zm kw_155)) (C.1.2.2.2.2 _ (zm kw_1009)) (C.1.2.2.2.2 _ (zm kw_1010)) rfl (by decide +kernel) ⟨(Nat.le_of_ble_eq_true rfl), (Nat.le_of_ble_eq_true rfl)⟩) rfl dL_law_12 ⟨hq65.1, hq65.2⟩ [.inr (.inr r_8)] rfl (Nat.le_of_ble_eq_true rfl) rfl hW hS hw) hS (fun G_12 H locs hw hW hS => ?_)
  refine tr_astore_n (k := 2) (x := r_8) C hl [(2, .inr (.inr r_8)), (1, .inr (.inr r_0)), (0, .inr (.inr (some b)))] (by decide) rfl dL_law_15 (fun ls hl => ?_)
  have hq66 := hw.1
  have hw := hw.2
  refine tr_new (C0 := RX2) (T := TX2) (N := 2) (ci := 4) (fs := [.long 0, .null]) C (zh hw_X2) tyX2 tyX2_ok (zm kw_1011) (zm kw_1012) (zm kw_1013) rfl df_X2 hq66.1 hq66.2 dL_law_16 hW hS hw (fun r_16 G_16 H hw hW hS => ?_)
  refine lv_dup C.1.1 C.1.2.1 dL_law_19 (va_rf_cat _) ?_
  refine tr_backV (tr_runIN (r := r_16) (As := []) C hl.1 (c_X2_init l hll K _ r_16) (tw_cnI 0 C.1.2.2.2.2 (gi_I  (zm kw_1014)) rfl rfl rfl hcN (C.1.2.2.2.2 _ (zm kw_1013)) (C.1.2.2.2.2 _ (zm kw_1015)) rfl (by decide +kernel) ⟨(Nat.le_of_ble_eq_true rfl), (Nat.le_of_ble_eq_true rfl)⟩) rfl dL_law_20 ⟨(show (((((0 + 1) + 8) + 1) + 7) + 1) + 0 ≤ 645934 by omega), (show (((((0 + 4) + 67) + 8) + 36) + 2) + 0 ≤ 7158302 by omega)⟩ [.inr (.inr r_16)] rfl (Nat.le_of_ble_eq_true rfl) rfl hW hS hw) hS (fun G_20 H locs hw hW hS => ?_)
  refine tr_astore_n (k := 3) (x := r_16) C hl [(3, .inr (.inr r_16)), (2, .inr (.inr r_8)), (1, .inr (.inr r_0)), (0, .inr (.inr (some b)))] (by decide) rfl dL_law_23 (fun ls hl => ?_)
  refine lv_iconst (v := (0 : Int32)) C.1.1 C.1.2.1 dL_law_24 (by decide) ?_
  refine tr_istore (x := (0 : Int32)) C hl [(4, .inl (0 : Int32)), (3, .inr (.inr r_16)), (2, .inr (.inr r_8)), (1, .inr (.inr r_0)), (0, .inr (.inr (some b)))] (by decide) rfl dL_law_25 (fun ls hl => ?_)
  obtain ⟨n27, hw⟩ := hw
  exact s_L_law_27 C hr hX hbl hbA hA2 hcN hll n27 ((((((0 + 1) + 8) + 1) + 7) + 1)) ((((((0 + 4) + 67) + 8) + 36) + 2)) r_0 r_8 r_16 ((0 : Int32)) _ _ _ _ (show (((((0 + 1) + 8) + 1) + 7) + 1) ≤ 645934 ∧ (((((0 + 4) + 67) + 8) + 36) + 2) ≤ 7158302 by omega) hW hS (tl_sub hl [3, 2, 1, 0, 4] rfl) hw
end Z_L_law

