/-! THE WORLD AS A MAP: what each of the program's own cells holds, by its address; constants apart; a contract over it; the rows for what touches it. -/
abbrev tE : Type := (FieldType × vp_A) ⊕ (Nat × List Value)
abbrev tG : Type := Nat → Option tE
def tg_up (G : tG) (a : Nat) (e : tE) : tG := fun b => if b = a then some e else G b
theorem tg_s (G : tG) (a : Nat) (e : tE) : tg_up G a e a = some e := by simp [tg_up]
theorem tg_n (G : tG) {a b : Nat} (e : tE) (h : b ≠ a) : tg_up G a e b = G b := by simp [tg_up, h]
/-- constants: a String constant's address to its bytes' address; outer byte arrays; which address a constant has, by a number of ours -/
abbrev tK : Type := (Nat → Option Nat) × (Nat → Option (Nat × (Nat → Int32))) × (Nat → Nat)
def tg_at (D : va_G) (U : State) (H : Heap) (q : Nat) (e : tE) : Prop := match e with
  | .inl x => ∃ cA : ClassId, (ArrOfT U cA x.1 ∧ va_RA U cA x.1) ∧ H[q]? = some (vp_cell cA x.2)
  | .inr o => va_at D vwCl (q, .inr o) H
def tg_W (D : va_G) (A : Nat → Prop) (U : State) (H : Heap) (G : tG) : Prop := ∀ (q : Nat) (e : tE), G q = some e → A q ∧ tg_at D U H q e
theorem tg_at.kept {D : va_G} {U : State} {H H1 : Heap} {q : Nat} {e : tE} (h : tg_at D U H q e) (hq : H1[q]? = H[q]?) : tg_at D U H1 q e := by
  cases e with
  | inl x =>
    obtain ⟨cA, h1, h2⟩ := h
    exact ⟨cA, h1, by rw [hq]; exact h2⟩
  | inr o => exact va_at.kept (q := (q, .inr o)) h hq
theorem tg_at.lt {D : va_G} {U : State} {H : Heap} {q : Nat} {e : tE} (h : tg_at D U H q e) : q < H.size := by
  cases e with
  | inl x =>
    obtain ⟨cA, h1, h2⟩ := h
    exact (Array.getElem?_eq_some_iff.mp h2).1
  | inr o => exact va_at.lt (q := (q, .inr o)) h
theorem tg_at.moved {D : va_G} {u U : State} (hvm : u.vm.Alike U.vm) {H : Heap} {q : Nat} {e : tE} (h : tg_at D u H q e) : tg_at D U H q e := by
  cases e with
  | inl x =>
    obtain ⟨cA, h1, h2⟩ := h
    exact ⟨cA, ⟨arrOfT_moved hvm h1.1, h1.2.moved hvm⟩, h2⟩
  | inr o => exact h
theorem tg_W.moved {D : va_G} {A : Nat → Prop} {u U : State} (hvm : u.vm.Alike U.vm) {H : Heap} {G : tG} (h : tg_W D A u H G) : tg_W D A U H G := fun q e hq => ⟨(h q e hq).1, (h q e hq).2.moved hvm⟩
theorem tg_W.fresh {D : va_G} {A : Nat → Prop} {U : State} {H : Heap} {G : tG} (h : tg_W D A U H G) : G H.size = none := by
  cases hg : G H.size with
  | none => rfl
  | some e => exact absurd (h _ e hg).2.lt (Nat.lt_irrefl _)
/-- a cell is written -/
theorem tg_W.put {D : va_G} {A : Nat → Prop} {U : State} {H H1 : Heap} {G : tG} {a : Nat} {e : tE} (h : tg_W D A U H G) (ha : A a) (he : tg_at D U H1 a e) (oq : ∀ q : Nat, q ≠ a → H1[q]? = H[q]?) : tg_W D A U H1 (tg_up G a e) := by
  intro q e' hq
  by_cases hqa : q = a
  · subst hqa
    rw [tg_s] at hq
    cases hq
    exact ⟨ha, he⟩
  · rw [tg_n _ _ hqa] at hq
    exact ⟨(h q e' hq).1, (h q e' hq).2.kept (oq q hqa)⟩
/-- a cell is made -/
theorem tg_W.make {D : va_G} {A : Nat → Prop} {U : State} {H H1 : Heap} {G : tG} {e : tE} (h : tg_W D A U H G) (hA : A H.size) (he : tg_at D U H1 H.size e) (o1 : ∀ q : Nat, q < H.size → H1[q]? = H[q]?) : tg_W D A U H1 (tg_up G H.size e) := by
  intro q e' hq
  by_cases hqa : q = H.size
  · subst hqa
    rw [tg_s] at hq
    cases hq
    exact ⟨hA, he⟩
  · rw [tg_n _ _ hqa] at hq
    exact ⟨(h q e' hq).1, (h q e' hq).2.kept (o1 q (h q e' hq).2.lt)⟩
theorem ts_make {A : Nat → Prop} {H0 H H1 : Heap} {locs : List Loc} (hS : va_S A H0 H locs) (z : H1.size = H.size + 1) (o1 : ∀ q : Nat, q < H.size → H1[q]? = H[q]?) : va_S A H0 H1 locs :=
  ⟨Nat.le_trans hS.1 (by omega), fun x h1 h2 => (o1 x (Nat.lt_of_lt_of_le h1 hS.1)).trans (hS.2.1 x h1 h2), hS.2.2⟩
/-! the constants -/
def tk_AOA (U : State) : Prop := (Cond.arrayOver (.array .int)).before #[] U = true
theorem tk_AOA.moved {u U : State} (hvm : u.vm.Alike U.vm) (h : tk_AOA u) : tk_AOA U := by
  obtain ⟨comp, c, k, h1, h2, h3, h4, h5⟩ := arrayOverA_spec h
  obtain ⟨k', hk', he⟩ := hvm.2.2 _ _ h3
  have hi : (U.vm.classes.findIdx? fun (x : Class) => match x.kind with | .array component _ => component == comp | _ => false) = some c := by
    rw [hvm.findIdx?_eq _ (fun _ => rfl)]
    exact h2
  have hkind : k'.kind = .array comp (.array .int) := by rw [he]; exact h4
  have f1 : U.vm.findClass (FieldType.array .int).toString = some comp := by rw [hvm.findClass]; exact h1
  have f2 : U.vm.findClass ("[" ++ (FieldType.array .int).toString) = some c := by rw [hvm.findClass]; exact h5
  unfold tk_AOA Cond.before Cond.holds
  simp only [Cond.value]
  rw [f1, Option.bind_some]
  refine (congrArg (fun o : Option Nat => (o.bind (fun c => (U.vm.classes[c]?).map fun (k : Class) => match k.kind with | .array _ ty => decide (ty = FieldType.array .int) && decide (U.vm.findClass ("[" ++ (FieldType.array .int).toString) = some c) | _ => false) == some true)) hi).trans ?_
  simp [hk', hkind, f2]
/-- the String constants that the program loads: class, entry, text, its number -/
def tk_strs : List (String × Nat × String × Nat) := [(RX1, 190, "there is no such list", 0), (RX1, 195, "there is no such row", 1), (RX1, 197, "there is no such part", 2), (RX1, 203, "there is no such place", 3), (RX1, 207, "the number is not let", 4), (RX3, 63, "-", 5), (RX3, 68, "", 6), (RX3, 109, " ", 7), (RX3, 138, ":", 8)]
/-- what the law's wrappers need of the tables -/
def kx_nn : Cond := .fieldLinkNest RL 13 "TwinrowLaw$Out" "n" "J" "TwinrowLaw"
def kx_ns : Cond := .fieldLinkNest RL 52 "TwinrowLaw$Out" "s" "Ljava/lang/String;" "TwinrowLaw"
abbrev kx_d1 : Cond := .declares ⟨"java/lang/RuntimeException", "<init>", "(Ljava/lang/String;)V"⟩
abbrev kx_d2 : Cond := .declares ⟨"java/lang/Exception", "<init>", "(Ljava/lang/String;)V"⟩
abbrev kx_d3 : Cond := .declares ⟨"java/lang/Throwable", "<init>", "(Ljava/lang/String;)V"⟩
def kx_C (U : State) : Prop := va_Nw kx_nn U ∧ va_Nw kx_ns U ∧ va_Nw (.castable "java/lang/IndexOutOfBoundsException" "java/lang/IndexOutOfBoundsException") U ∧ va_Nw (.castable "java/lang/IllegalArgumentException" "java/lang/IllegalArgumentException") U ∧ va_Nc "java/lang/IllegalArgumentException" "java/lang/IndexOutOfBoundsException" U ∧ va_Nw kx_d1 U ∧ va_Nw kx_d2 U ∧ va_Nw kx_d3 U ∧ va_Nw (.castable "[B" "java/lang/Cloneable") U
theorem kx_C.moved {u U : State} (hW : u.WarmedH U.vm) (h : kx_C u) : kx_C U := ⟨va_Nw.warmF hW h.1, va_Nw.warmF hW h.2.1, va_Nw.warmC hW h.2.2.1, va_Nw.warmC hW h.2.2.2.1, h.2.2.2.2.1.moved hW.alike, va_Nw.warmD hW h.2.2.2.2.2.1, va_Nw.warmD hW h.2.2.2.2.2.2.1, va_Nw.warmD hW h.2.2.2.2.2.2.2.1, va_Nw.warmC hW h.2.2.2.2.2.2.2.2⟩
/-- what is given of the constants, in any state of the run -/
def tk_C (K : tK) (A : Nat → Prop) (U : State) (H : Heap) : Prop :=
  vx_Zq Bundle.tN "UNASSIGNED_STACK" Bundle.steD A U H ∧ vx_Zq Bundle.tN "SUPPRESSED_SENTINEL" Bundle.listD A U H ∧
  va_AO "Twinrow$RowList" U ∧ tk_AOA U ∧
  (∀ q ∈ tk_strs, vk_R q.1 q.2.1 q.2.2.1 (K.2.2 q.2.2.2) U) ∧
  (∀ (a v : Nat), K.1 a = some v → va_O "java/lang/String" a A U H ∧ va_OF "java/lang/String" "coder" "B" (.int 0) a A U H ∧ va_OF "java/lang/String" "value" "[B" (.ref v) a A U H) ∧
  (∀ (v n : Nat) (f : Nat → Int32), K.2.1 v = some (n, f) → va_T .byte v n (fun j => .int (f j)) A U H ∧ ∀ j, fits .byte (.int (f j)) = true) ∧
  va_Z "java/lang/String" "COMPACT_STRINGS" "Z" (.int 1) A U H ∧ va_Z "java/lang/Integer" "DigitTens" "[B" (.ref (K.2.2 20)) A U H ∧ va_Z "java/lang/Integer" "DigitOnes" "[B" (.ref (K.2.2 21)) A U H ∧ kx_C U
theorem tk_C.moved {K : tK} {A : Nat → Prop} {u U : State} {H : Heap} (hW : u.WarmedH U.vm) (h : tk_C K A u H) : tk_C K A U H := by
  obtain ⟨h1, h2, h3, h4, h5, h6, h7, h8, h9, h10, h11⟩ := h
  have hvm := hW.alike
  exact ⟨h1.moved hvm, h2.moved hvm, h3.moved hvm, h4.moved hvm, fun q hq => vk_R.warm hW (h5 q hq), fun a v hv => ⟨va_O.moved hvm (h6 a v hv).1, va_OF.moved hvm (h6 a v hv).2.1, va_OF.moved hvm (h6 a v hv).2.2⟩,
    fun v n f hv => ⟨va_T.moved hvm (h7 v n f hv).1, (h7 v n f hv).2⟩, va_Z.moved hvm h8, va_Z.moved hvm h9, va_Z.moved hvm h10, h11.moved hW⟩
theorem tk_C.kept {K : tK} {A : Nat → Prop} {U : State} {H H1 : Heap} (h : tk_C K A U H) (hq : ∀ a : Nat, a < H.size → ¬ A a → H1[a]? = H[a]?) : tk_C K A U H1 := by
  obtain ⟨h1, h2, h3, h4, h5, h6, h7, h8, h9, h10, h11⟩ := h
  exact ⟨h1.kept hq, h2.kept hq, h3, h4, h5, fun a v hv => ⟨(h6 a v hv).1.kept hq, (h6 a v hv).2.1.kept hq, (h6 a v hv).2.2.kept hq⟩,
    fun v n f hv => ⟨(h7 v n f hv).1.kept hq, (h7 v n f hv).2⟩, va_Z.kept h8 hq, va_Z.kept h9 hq, va_Z.kept h10 hq, h11⟩
/-! contracts -/
def tc_Pc (D : va_G) (K : tK) (A : Nat → Prop) (sz : Nat) (G : tG) (av : List Value) : Array Value → State → Prop := va_Pc av (fun U => U.heap.size = sz ∧ tg_W D A U U.heap G ∧ va_K D vwCl [] U ∧ tk_C K A U U.heap ∧ ∀ q, sz ≤ q → A q)
def tc_Qc (D : va_G) (A : Nat → Prop) (pr : Option Value → tG → Prop) : Array Value → State → Outcome → State → Prop := fun _ st oc t => (∃ (v : Option Value) (G : tG), oc = .returned v ∧ pr v G ∧ tg_W D A t t.heap G) ∧ va_F A st t
def tc_XC (D : va_G) (A : Nat → Prop) (px : String → tG → Prop) : String → State → State → Prop := fun E st t => (∃ G : tG, px E G ∧ tg_W D A t t.heap G) ∧ va_F A st t
/-- a method that returns -/
def Ct (l : Launch) (y : MethodName) (ws : List Cond) (rm : Room) (mc ms : Nat) (av : List Value) (K : tK) (pr : Option Value → tG → Prop) (wp : tG → Prop) : Prop :=
  ∀ (D : va_G) (A : Nat → Prop) (sz : Nat) (G : tG), wp G → Met l y ws rm (tc_Pc D K A sz G av) (tc_Qc D A pr) mc ms A
/-- a method that returns or throws -/
def Cx (l : Launch) (y : MethodName) (ws : List Cond) (rm : Room) (mc ms : Nat) (av : List Value) (K : tK) (pr : Option Value → tG → Prop) (px : String → tG → Prop) (wp : tG → Prop) : Prop :=
  ∀ (D : va_G) (A : Nat → Prop) (sz : Nat) (G : tG), wp G → vx_Met l y ws rm (tc_Pc D K A sz G av) (tc_Qc D A pr) (tc_XC D A px) mc ms A
def retI (post : Int32 → tG → Prop) : Option Value → tG → Prop := fun v G => ∃ x : Int32, v = some (.int x) ∧ post x G
def retL (post : Int64 → tG → Prop) : Option Value → tG → Prop := fun v G => ∃ x : Int64, v = some (.long x) ∧ post x G
def retR (post : Option Nat → tG → Prop) : Option Value → tG → Prop := fun v G => ∃ x : Option Nat, v = some (va_rf x) ∧ post x G
def retV (post : tG → Prop) : Option Value → tG → Prop := fun v G => v = none ∧ post G
theorem tc_blind (D : va_G) (K : tK) (A : Nat → Prop) (sz : Nat) (G : tG) (av : List Value) : FrameBlind (tc_Pc D K A sz G av) := by
  intro a U g mk q
  obtain ⟨q0, q1, q2, q3, q4, q5⟩ := q
  have hvm : U.vm.Alike (U.calling g mk a).vm := Vm.Alike.refl U.vm
  exact ⟨q0, q1, tg_W.moved (u := U) (U := U.calling g mk a) hvm q2, va_K.moved (u := U) (U := U.calling g mk a) hvm q3, tk_C.moved (u := U) (U := U.calling g mk a) (State.WarmedH.refl U) q4, q5⟩
/-! locals: what the slots hold, by kinds -/
abbrev tV : Type := Int32 ⊕ Int64 ⊕ Option Nat
def tv_v (x : tV) : Value := match x with
  | .inl n => .int n
  | .inr (.inl n) => .long n
  | .inr (.inr r) => va_rf r
def tv_2 (x : tV) : Bool := match x with
  | .inr (.inl _) => true
  | _ => false
theorem va_rf_cat (r : Option Nat) : (va_rf r).category = 1 := by cases r <;> rfl
theorem tv_cat (x : tV) : (tv_v x).category = if tv_2 x then 2 else 1 := by
  rcases x with n | n | r
  · rfl
  · rfl
  · exact va_rf_cat r
def tl (ls : Array Slot) (nL : Nat) (l : List (Nat × tV)) : Prop := lv_has ls nL (l.map fun q => (q.1, tv_v q.2))
theorem tl_at {ls : Array Slot} {nL : Nat} {l : List (Nat × tV)} (h : tl ls nL l) (k : Nat) {i : Nat} {v : tV} (hk : l[k]? = some (i, v)) : ls[i]? = some (.val (tv_v v)) :=
  lv_at h k (by rw [List.getElem?_map, hk]; rfl)
def tl_pick (l : List (Nat × tV)) (ks : List Nat) : List (Nat × tV) := ks.filterMap (fun k => l[k]?)
theorem tl_sub {ls : Array Slot} {nL : Nat} {l l' : List (Nat × tV)} (h : tl ls nL l) (ks : List Nat) (hl : tl_pick l ks = l') : tl ls nL l' := by
  refine lv_sub h ks ?_
  rw [← hl]
  simp only [lv_pick, tl_pick, List.getElem?_map, List.map_filterMap]
def tl_put (l : List (Nat × tV)) (i : Nat) (v : tV) : List (Nat × tV) := (i, v) :: l.filter (fun q => !(q.1 == i) && !(q.1 + 1 == i && tv_2 q.2))
def tl_put2 (l : List (Nat × tV)) (i : Nat) (v : tV) : List (Nat × tV) := (i, v) :: l.filter (fun q => !(q.1 == i) && (!(q.1 == i + 1) && !(q.1 + 1 == i && tv_2 q.2)))
theorem tl_cat2 (x : tV) : ((tv_v x).category == 2) = tv_2 x := by
  rw [tv_cat]
  cases tv_2 x <;> rfl
theorem tl_put_eq (l : List (Nat × tV)) (i : Nat) (v : tV) : (i, tv_v v) :: (l.map fun q => (q.1, tv_v q.2)).filter (fun q => !(q.1 == i) && !(q.1 + 1 == i && q.2.category == 2)) = (tl_put l i v).map fun q => (q.1, tv_v q.2) := by
  unfold tl_put
  rw [List.map_cons, List.filter_map]
  congr 2
  apply List.filter_congr
  intro q _
  simp only [Function.comp, tl_cat2]
theorem tl_put2_eq (l : List (Nat × tV)) (i : Nat) (v : tV) : (i, tv_v v) :: (l.map fun q => (q.1, tv_v q.2)).filter (fun q => !(q.1 == i) && (!(q.1 == i + 1) && !(q.1 + 1 == i && q.2.category == 2))) = (tl_put2 l i v).map fun q => (q.1, tv_v q.2) := by
  unfold tl_put2
  rw [List.map_cons, List.filter_map]
  congr 2
  apply List.filter_congr
  intro q _
  simp only [Function.comp, tl_cat2]
def tl_args : Nat → List tV → List (Nat × tV)
  | _, [] => []
  | i, v :: vs => (i, v) :: tl_args (if tv_2 v then i + 2 else i + 1) vs
theorem tl_args_eq : ∀ (vs : List tV) (i : Nat), lv_args i (vs.map tv_v) = (tl_args i vs).map fun q => (q.1, tv_v q.2)
  | [], _ => rfl
  | v :: vs, i => by
    show (i, tv_v v) :: lv_args (if (tv_v v).category = 2 then i + 2 else i + 1) (vs.map tv_v) = (i, tv_v v) :: (tl_args (if tv_2 v then i + 2 else i + 1) vs).map fun q => (q.1, tv_v q.2)
    rw [← tl_args_eq vs, tv_cat]
    cases tv_2 v <;> rfl
theorem tl_len : ∀ (vs : List tV), (lg_sl (vs.map tv_v)).length = (vs.map fun v => if tv_2 v then 2 else 1).sum
  | [] => rfl
  | v :: vs => by
    have h := tl_len vs
    show (lg_sl (tv_v v :: vs.map tv_v)).length = _
    unfold lg_sl at h ⊢
    rw [List.flatMap_cons, List.length_append, h, List.map_cons, List.sum_cons, tv_cat]
    cases tv_2 v <;> rfl
/-! what an instruction asks of the world, and what goes on behind it -/
def gfI (G : tG) (r : Option Nat) (ci k : Nat) (P : Int32 → Prop) : Prop := ∃ (a : Nat) (fs : List Value) (x : Int32), r = some a ∧ G a = some (.inr (ci, fs)) ∧ fs[k]? = some (.int x) ∧ P x
def gfL (G : tG) (r : Option Nat) (ci k : Nat) (P : Int64 → Prop) : Prop := ∃ (a : Nat) (fs : List Value) (x : Int64), r = some a ∧ G a = some (.inr (ci, fs)) ∧ fs[k]? = some (.long x) ∧ P x
def gfR (G : tG) (r : Option Nat) (ci k : Nat) (P : Option Nat → Prop) : Prop := ∃ (a : Nat) (fs : List Value) (x : Option Nat), r = some a ∧ G a = some (.inr (ci, fs)) ∧ fs[k]? = some (va_rf x) ∧ P x
def gsV (K : tK) (G : tG) (r : Option Nat) (ci : Nat) (P : Option Nat → Prop) : Prop := gfR G r ci 0 P ∨ ∃ a v : Nat, r = some a ∧ K.1 a = some v ∧ P (some v)
def gsC (K : tK) (G : tG) (r : Option Nat) (ci : Nat) (P : Int32 → Prop) : Prop := gfI G r ci 1 P ∨ ∃ a v : Nat, r = some a ∧ K.1 a = some v ∧ P 0
def pfV (G : tG) (r : Option Nat) (ci k : Nat) (v : Value) (P : tG → Prop) : Prop := ∃ (a : Nat) (fs : List Value), r = some a ∧ G a = some (.inr (ci, fs)) ∧ k < fs.length ∧ P (tg_up G a (.inr (ci, fs.set k v)))
def alI (G : tG) (r : Option Nat) (i : Int32) (ty : FieldType) (P : Int32 → Prop) : Prop := ∃ (a n : Nat) (f : Nat → Int32) (j : Nat), r = some a ∧ G a = some (.inl (ty, n, .inl f)) ∧ i.toInt = (j : Int) ∧ j < n ∧ P (f j)
def alR (G : tG) (r : Option Nat) (i : Int32) (ty : FieldType) (P : Option Nat → Prop) : Prop := ∃ (a n : Nat) (f : Nat → Option Nat) (j : Nat), r = some a ∧ G a = some (.inl (ty, n, .inr (.inr (.inr (.inr f))))) ∧ i.toInt = (j : Int) ∧ j < n ∧ P (f j)
def alK (K : tK) (r : Option Nat) (i : Int32) (P : Int32 → Prop) : Prop := ∃ (a n : Nat) (f : Nat → Int32) (j : Nat), r = some a ∧ K.2.1 a = some (n, f) ∧ i.toInt = (j : Int) ∧ j < n ∧ P (f j)
def asI (G : tG) (r : Option Nat) (i : Int32) (ty : FieldType) (x : Int32) (P : tG → Prop) : Prop := ∃ (a n : Nat) (f : Nat → Int32) (j : Nat), r = some a ∧ G a = some (.inl (ty, n, .inl f)) ∧ i.toInt = (j : Int) ∧ j < n ∧ P (tg_up G a (.inl (ty, n, .inl (upd f j x))))
def asR (G : tG) (r : Option Nat) (i : Int32) (ty : FieldType) (v : Option Nat) (ok : tE → Prop) (P : tG → Prop) : Prop := ∃ (a n : Nat) (f : Nat → Option Nat) (j : Nat), r = some a ∧ G a = some (.inl (ty, n, .inr (.inr (.inr (.inr f))))) ∧ i.toInt = (j : Int) ∧ j < n ∧ (v = none ∨ ∃ (b : Nat) (e : tE), v = some b ∧ G b = some e ∧ ok e) ∧ P (tg_up G a (.inl (ty, n, .inr (.inr (.inr (.inr (va_up f j v)))))))
def okO (ci : Nat) (e : tE) : Prop := ∃ fs, e = .inr (ci, fs)
def okI (e : tE) : Prop := ∃ x, e = .inl (.int, x)
def lenA (G : tG) (r : Option Nat) (P : Int32 → Prop) : Prop := ∃ (a : Nat) (ty : FieldType) (x : vp_A), r = some a ∧ G a = some (.inl (ty, x)) ∧ P (Int32.ofNat x.1)
def lenK (K : tK) (G : tG) (r : Option Nat) (P : Int32 → Prop) : Prop := lenA G r P ∨ ∃ (a n : Nat) (f : Nat → Int32), r = some a ∧ K.2.1 a = some (n, f) ∧ P (Int32.ofNat n)
def nwO (G : tG) (ci : Nat) (fs : List Value) (P : Option Nat → tG → Prop) : Prop := ∀ q : Nat, G q = none → P (some q) (tg_up G q (.inr (ci, fs)))
def nwA (G : tG) (ty : FieldType) (n : Int32) (lim : Nat) (z : (Nat → Int32) ⊕ (Nat → Int64) ⊕ (Nat → UInt32) ⊕ (Nat → UInt64) ⊕ (Nat → Option Nat)) (P : Option Nat → tG → Prop) : Prop := ∃ N : Nat, n.toInt = (N : Int) ∧ N ≤ lim ∧ ∀ q : Nat, G q = none → P (some q) (tg_up G q (.inl (ty, N, z)))
def rcv (G : tG) (r : Option Nat) (ci : Nat) (P : Prop) : Prop := ∃ (a : Nat) (fs : List Value), r = some a ∧ G a = some (.inr (ci, fs)) ∧ P
def rcvS (K : tK) (G : tG) (r : Option Nat) (ci : Nat) (P : Prop) : Prop := ∃ (a : Nat), r = some a ∧ ((∃ fs, G a = some (.inr (ci, fs))) ∨ ∃ v, K.1 a = some v) ∧ P
/-- System.arraycopy of bytes out of the own world, or out of a constant -/
def cpB (K : tK) (G : tG) (r : Option Nat) (sp : Int32) (r2 : Option Nat) (dp n : Int32) (P : tG → Prop) : Prop := ∃ (a n0 : Nat) (f : Nat → Int32) (b n1 : Nat) (g : Nat → Int32) (sp' dp' n' : Nat), r = some a ∧ (G a = some (.inl (.byte, n0, .inl f)) ∨ K.2.1 a = some (n0, f)) ∧ r2 = some b ∧ G b = some (.inl (.byte, n1, .inl g)) ∧
  sp.toInt = (sp' : Int) ∧ dp.toInt = (dp' : Int) ∧ n.toInt = (n' : Int) ∧ sp' + n' ≤ n0 ∧ dp' + n' ≤ n1 ∧ (∀ i, i < n' → fits .byte (.int (f (sp' + i))) = true) ∧ P (tg_up G b (.inl (.byte, n1, .inl (va_cpy f g sp' dp' n'))))
/-- a copy of a whole byte array -/
def clB (G : tG) (r : Option Nat) (lim : Nat) (P : Option Nat → tG → Prop) : Prop := ∃ (a n : Nat) (f : Nat → Int32), r = some a ∧ G a = some (.inl (.byte, n, .inl f)) ∧ n ≤ lim ∧ (∀ i, i < n → fits .byte (.int (f i)) = true) ∧ ∀ q : Nat, G q = none → P (some q) (tg_up G q (.inl (.byte, n, .inl f)))
def isB (G : tG) (r : Option Nat) (P : Prop) : Prop := ∃ (a : Nat) (x : vp_A), r = some a ∧ G a = some (.inl (.byte, x)) ∧ P
/-- a piece of the room -/
def bud (nc ns MC MS : Nat) (P : Nat → Nat → Prop) : Prop := ∃ mc ms : Nat, nc + mc ≤ MC ∧ ns + ms ≤ MS ∧ P mc ms
/-- an int of the law's script -/
def sld (xL : Nat) (xs : Nat → Int32) (i : Int32) (P : Int32 → Prop) : Prop := ∃ j : Nat, i.toInt = (j : Int) ∧ j < xL ∧ P (xs j)
