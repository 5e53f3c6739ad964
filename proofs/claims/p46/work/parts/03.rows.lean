/-! THE ROWS over the world as a map -/
/-- what stands fast inside a method's body -/
def tc_B (p : Program) (l : Launch) (s : State) (m : MethodId) (args : Array Value) (meth : Method) (c : Code) (D : va_G) (K : tK) (A : Nat → Prop) (Ts : List Cond) (own : String) (cc : ByteArray) (nL : Nat) : Prop :=
  (p.tables.exec = Jvm.exec ∧ c.code = cc ∧ c.maxLocals = nL ∧ s.vm.findClass own = some m.cls ∧ ∀ w ∈ Ts, w.before args s = true) ∧ meth.locks = false ∧ va_K D vwCl [] s ∧ tk_C K A s s.heap ∧ (∀ q : Nat, s.heap.size ≤ q → A q) ∧ l.stackTraces = false
section TRA
variable {p : Program} {l : Launch} {e : Env} {R : Room} {s : State} {m : MethodId} {args : Array Value} {below : List Frame} {meth : Method} {c : Code} {H : Heap} {locs : List Loc} {cells slots : Nat} {Q : State → Prop}
variable {D : va_G} {K : tK} {A : Nat → Prop} {Ts : List Cond} {own : String} {cc : ByteArray} {nL : Nat} {pc : Nat} {ls : Array Slot} {rest : List Value} {G : tG}
/-! locals and the stack -/
theorem tr_iload_n (C : tc_B p l s m args meth c D K A Ts own cc nL) {lv : List (Nat × tV)} (hl : tl ls nL lv) {k : Fin 4} (j : Nat) {x : Int32} (hj : lv[j]? = some ((k : Nat), .inl x)) (hdg : decode cc pc = .ok (.iload_n k, 1))
    (kk : W p l e R s m args below meth c H locs cells slots Q (F0 m (pc + 1) ls (.int x :: rest))) : W p l e R s m args below meth c H locs cells slots Q (F0 m pc ls rest) := lv_iload_n C.1.1 C.1.2.1 hdg rfl (tl_at hl j hj) kk
theorem tr_iload (C : tc_B p l s m args meth c D K A Ts own cc nL) {lv : List (Nat × tV)} (hl : tl ls nL lv) {i : Nat} (j : Nat) {x : Int32} (hj : lv[j]? = some (i, .inl x)) (hdg : decode cc pc = .ok (.iload i, 2))
    (kk : W p l e R s m args below meth c H locs cells slots Q (F0 m (pc + 2) ls (.int x :: rest))) : W p l e R s m args below meth c H locs cells slots Q (F0 m pc ls rest) := lv_iload C.1.1 C.1.2.1 hdg (tl_at hl j hj) kk
theorem tr_lload_n (C : tc_B p l s m args meth c D K A Ts own cc nL) {lv : List (Nat × tV)} (hl : tl ls nL lv) {k : Fin 4} (j : Nat) {x : Int64} (hj : lv[j]? = some ((k : Nat), .inr (.inl x))) (hdg : decode cc pc = .ok (.lload_n k, 1))
    (kk : W p l e R s m args below meth c H locs cells slots Q (F0 m (pc + 1) ls (.long x :: rest))) : W p l e R s m args below meth c H locs cells slots Q (F0 m pc ls rest) := lv_lload_n C.1.1 C.1.2.1 hdg rfl (tl_at hl j hj) kk
theorem tr_lload (C : tc_B p l s m args meth c D K A Ts own cc nL) {lv : List (Nat × tV)} (hl : tl ls nL lv) {i : Nat} (j : Nat) {x : Int64} (hj : lv[j]? = some (i, .inr (.inl x))) (hdg : decode cc pc = .ok (.lload i, 2))
    (kk : W p l e R s m args below meth c H locs cells slots Q (F0 m (pc + 2) ls (.long x :: rest))) : W p l e R s m args below meth c H locs cells slots Q (F0 m pc ls rest) := lv_lload C.1.1 C.1.2.1 hdg (tl_at hl j hj) kk
theorem tr_aload_n (C : tc_B p l s m args meth c D K A Ts own cc nL) {lv : List (Nat × tV)} (hl : tl ls nL lv) {k : Fin 4} (j : Nat) {x : Option Nat} (hj : lv[j]? = some ((k : Nat), .inr (.inr x))) (hdg : decode cc pc = .ok (.aload_n k, 1))
    (kk : W p l e R s m args below meth c H locs cells slots Q (F0 m (pc + 1) ls (va_rf x :: rest))) : W p l e R s m args below meth c H locs cells slots Q (F0 m pc ls rest) := by
  have h := tl_at hl j hj
  cases x with
  | none => exact lv_aload_nN C.1.1 C.1.2.1 hdg rfl h kk
  | some a => exact lv_aload_n C.1.1 C.1.2.1 hdg rfl h kk
theorem tr_aload (C : tc_B p l s m args meth c D K A Ts own cc nL) {lv : List (Nat × tV)} (hl : tl ls nL lv) {i : Nat} (j : Nat) {x : Option Nat} (hj : lv[j]? = some (i, .inr (.inr x))) (hdg : decode cc pc = .ok (.aload i, 2))
    (kk : W p l e R s m args below meth c H locs cells slots Q (F0 m (pc + 2) ls (va_rf x :: rest))) : W p l e R s m args below meth c H locs cells slots Q (F0 m pc ls rest) := by
  have h := tl_at hl j hj
  cases x with
  | none => exact lv_aloadN C.1.1 C.1.2.1 hdg h kk
  | some a => exact lv_aload C.1.1 C.1.2.1 hdg h kk
theorem tr_istore_n (C : tc_B p l s m args meth c D K A Ts own cc nL) {lv : List (Nat × tV)} (hl : tl ls nL lv) {k : Fin 4} (lv' : List (Nat × tV)) {x : Int32} (hn : (k : Nat) < nL) (hp : tl_put lv (k : Nat) (.inl x) = lv') (hdg : decode cc pc = .ok (.istore_n k, 1))
    (kk : ∀ ls : Array Slot, tl ls nL lv' → W p l e R s m args below meth c H locs cells slots Q (F0 m (pc + 1) ls rest)) : W p l e R s m args below meth c H locs cells slots Q (F0 m pc ls (.int x :: rest)) := by
  subst hp
  exact lv_istore_n C.1.1 C.1.2.1 hdg rfl hl hn (tl_put_eq lv _ (.inl x)) kk
theorem tr_istore (C : tc_B p l s m args meth c D K A Ts own cc nL) {lv : List (Nat × tV)} (hl : tl ls nL lv) {i : Nat} (lv' : List (Nat × tV)) {x : Int32} (hn : i < nL) (hp : tl_put lv i (.inl x) = lv') (hdg : decode cc pc = .ok (.istore i, 2))
    (kk : ∀ ls : Array Slot, tl ls nL lv' → W p l e R s m args below meth c H locs cells slots Q (F0 m (pc + 2) ls rest)) : W p l e R s m args below meth c H locs cells slots Q (F0 m pc ls (.int x :: rest)) := by
  subst hp
  exact lv_istore C.1.1 C.1.2.1 hdg hl hn (tl_put_eq lv _ (.inl x)) kk
theorem tr_lstore_n (C : tc_B p l s m args meth c D K A Ts own cc nL) {lv : List (Nat × tV)} (hl : tl ls nL lv) {k : Fin 4} (lv' : List (Nat × tV)) {x : Int64} (hn : (k : Nat) + 1 < nL) (hp : tl_put2 lv (k : Nat) (.inr (.inl x)) = lv') (hdg : decode cc pc = .ok (.lstore_n k, 1))
    (kk : ∀ ls : Array Slot, tl ls nL lv' → W p l e R s m args below meth c H locs cells slots Q (F0 m (pc + 1) ls rest)) : W p l e R s m args below meth c H locs cells slots Q (F0 m pc ls (.long x :: rest)) := by
  subst hp
  exact lv_lstore_n C.1.1 C.1.2.1 hdg rfl hl hn (tl_put2_eq lv _ (.inr (.inl x))) kk
theorem tr_lstore (C : tc_B p l s m args meth c D K A Ts own cc nL) {lv : List (Nat × tV)} (hl : tl ls nL lv) {i : Nat} (lv' : List (Nat × tV)) {x : Int64} (hn : i + 1 < nL) (hp : tl_put2 lv i (.inr (.inl x)) = lv') (hdg : decode cc pc = .ok (.lstore i, 2))
    (kk : ∀ ls : Array Slot, tl ls nL lv' → W p l e R s m args below meth c H locs cells slots Q (F0 m (pc + 2) ls rest)) : W p l e R s m args below meth c H locs cells slots Q (F0 m pc ls (.long x :: rest)) := by
  subst hp
  exact lv_lstore C.1.1 C.1.2.1 hdg hl hn (tl_put2_eq lv _ (.inr (.inl x))) kk
theorem tr_astore_n (C : tc_B p l s m args meth c D K A Ts own cc nL) {lv : List (Nat × tV)} (hl : tl ls nL lv) {k : Fin 4} (lv' : List (Nat × tV)) {x : Option Nat} (hn : (k : Nat) < nL) (hp : tl_put lv (k : Nat) (.inr (.inr x)) = lv') (hdg : decode cc pc = .ok (.astore_n k, 1))
    (kk : ∀ ls : Array Slot, tl ls nL lv' → W p l e R s m args below meth c H locs cells slots Q (F0 m (pc + 1) ls rest)) : W p l e R s m args below meth c H locs cells slots Q (F0 m pc ls (va_rf x :: rest)) := by
  subst hp
  cases x with
  | none => exact lv_astore_nN C.1.1 C.1.2.1 hdg rfl hl hn (tl_put_eq lv _ (.inr (.inr none))) kk
  | some a => exact lv_astore_n C.1.1 C.1.2.1 hdg rfl hl hn (tl_put_eq lv _ (.inr (.inr (some a)))) kk
theorem tr_astore (C : tc_B p l s m args meth c D K A Ts own cc nL) {lv : List (Nat × tV)} (hl : tl ls nL lv) {i : Nat} (lv' : List (Nat × tV)) {x : Option Nat} (hn : i < nL) (hp : tl_put lv i (.inr (.inr x)) = lv') (hdg : decode cc pc = .ok (.astore i, 2))
    (kk : ∀ ls : Array Slot, tl ls nL lv' → W p l e R s m args below meth c H locs cells slots Q (F0 m (pc + 2) ls rest)) : W p l e R s m args below meth c H locs cells slots Q (F0 m pc ls (va_rf x :: rest)) := by
  subst hp
  cases x with
  | none => exact lv_astoreN C.1.1 C.1.2.1 hdg hl hn (tl_put_eq lv _ (.inr (.inr none))) kk
  | some a => exact lv_astore C.1.1 C.1.2.1 hdg hl hn (tl_put_eq lv _ (.inr (.inr (some a)))) kk
theorem tr_iinc (C : tc_B p l s m args meth c D K A Ts own cc nL) {lv : List (Nat × tV)} (hl : tl ls nL lv) {i : Nat} {n : Int} (j : Nat) {x : Int32} (v : Int32) (lv' : List (Nat × tV)) (hj : lv[j]? = some (i, .inl x)) (hv : x + Int32.ofInt n = v) (hn : i < nL) (hp : tl_put lv i (.inl v) = lv') (hdg : decode cc pc = .ok (.iinc i n, 3))
    (kk : ∀ ls : Array Slot, tl ls nL lv' → W p l e R s m args below meth c H locs cells slots Q (F0 m (pc + 3) ls rest)) : W p l e R s m args below meth c H locs cells slots Q (F0 m pc ls rest) := by
  subst hp
  exact lv_iinc C.1.1 C.1.2.1 hdg hl (k := j) (by rw [List.getElem?_map, hj]; rfl) hv hn (tl_put_eq lv _ (.inl v)) kk
theorem tr_null (C : tc_B p l s m args meth c D K A Ts own cc nL) (hdg : decode cc pc = .ok (.aconst_null, 1)) (kk : W p l e R s m args below meth c H locs cells slots Q (F0 m (pc + 1) ls (va_rf none :: rest))) : W p l e R s m args below meth c H locs cells slots Q (F0 m pc ls rest) := lv_null C.1.1 C.1.2.1 hdg kk
theorem tr_ifnull (C : tc_B p l s m args meth c D K A Ts own cc nL) {r : Option Nat} {off : Int} {tgt : Nat} (hdg : decode cc pc = .ok (.ifnull off, 3)) (ht : (pc : Int) + off = (tgt : Int)) (k1 : r = none → W p l e R s m args below meth c H locs cells slots Q (F0 m tgt ls rest)) (k2 : ¬ r = none → W p l e R s m args below meth c H locs cells slots Q (F0 m (pc + 3) ls rest)) : W p l e R s m args below meth c H locs cells slots Q (F0 m pc ls (va_rf r :: rest)) := by
  cases r with
  | none => exact lv_ifnullN C.1.1 C.1.2.1 hdg ht (k1 rfl)
  | some a => exact lv_ifnull C.1.1 C.1.2.1 hdg (k2 (fun h => by cases h))
theorem tr_ifnonnull (C : tc_B p l s m args meth c D K A Ts own cc nL) {r : Option Nat} {off : Int} {tgt : Nat} (hdg : decode cc pc = .ok (.ifnonnull off, 3)) (ht : (pc : Int) + off = (tgt : Int)) (k1 : ¬ r = none → W p l e R s m args below meth c H locs cells slots Q (F0 m tgt ls rest)) (k2 : r = none → W p l e R s m args below meth c H locs cells slots Q (F0 m (pc + 3) ls rest)) : W p l e R s m args below meth c H locs cells slots Q (F0 m pc ls (va_rf r :: rest)) := by
  cases r with
  | none => exact lv_ifnonnullN C.1.1 C.1.2.1 hdg (k2 rfl)
  | some a => exact lv_ifnonnull C.1.1 C.1.2.1 hdg ht (k1 (fun h => by cases h))
/-! fields -/
theorem tr_gfI (C : tc_B p l s m args meth c D K A Ts own cc nL) {ref C0 : String} {T : u_T} {N ci index : Nat} (hin : ∀ w ∈ u_ws C0 T N, w ∈ Ts) (hc : vwCl[ci]? = some (C0, T, N)) {k : Nat} (hk : k < N) (hlink : Cond.fieldLink own index ref (T k).2.1 (T k).2.2.1 ∈ Ts) (href : (T k).1 = ref) (hdg : decode cc pc = .ok (.getfield index, 3)) (hW : tg_W D A s H G)
    {r : Option Nat} {P : Int32 → Prop} (hw : gfI G r ci k P) (kk : ∀ x : Int32, P x → W p l e R s m args below meth c H locs cells slots Q (F0 m (pc + 3) ls (.int x :: rest))) : W p l e R s m args below meth c H locs cells slots Q (F0 m pc ls (va_rf r :: rest)) := by
  obtain ⟨a, fs, x, rfl, hG, hx, hP⟩ := hw
  have hp : va_P D vwCl [(a, .inr (ci, fs))] H := fun k q hk => by
    cases k with
    | zero => cases hk; exact (hW a _ hG).2
    | succ k => simp at hk
  exact va_get C.1.1 C.1.2.1 C.1.2.2.2.2 hin C.1.2.2.2.1 C.2.2.1 hp 0 rfl hc k hk (C.1.2.2.2.2 _ hlink) (fun _ h => by rw [← href]; exact h) hx hdg (kk x hP)
theorem tr_gfL (C : tc_B p l s m args meth c D K A Ts own cc nL) {ref C0 : String} {T : u_T} {N ci index : Nat} (hin : ∀ w ∈ u_ws C0 T N, w ∈ Ts) (hc : vwCl[ci]? = some (C0, T, N)) {k : Nat} (hk : k < N) (hlink : Cond.fieldLink own index ref (T k).2.1 (T k).2.2.1 ∈ Ts) (href : (T k).1 = ref) (hdg : decode cc pc = .ok (.getfield index, 3)) (hW : tg_W D A s H G)
    {r : Option Nat} {P : Int64 → Prop} (hw : gfL G r ci k P) (kk : ∀ x : Int64, P x → W p l e R s m args below meth c H locs cells slots Q (F0 m (pc + 3) ls (.long x :: rest))) : W p l e R s m args below meth c H locs cells slots Q (F0 m pc ls (va_rf r :: rest)) := by
  obtain ⟨a, fs, x, rfl, hG, hx, hP⟩ := hw
  have hp : va_P D vwCl [(a, .inr (ci, fs))] H := fun k q hk => by
    cases k with
    | zero => cases hk; exact (hW a _ hG).2
    | succ k => simp at hk
  exact va_get C.1.1 C.1.2.1 C.1.2.2.2.2 hin C.1.2.2.2.1 C.2.2.1 hp 0 rfl hc k hk (C.1.2.2.2.2 _ hlink) (fun _ h => by rw [← href]; exact h) hx hdg (kk x hP)
theorem tr_gfR (C : tc_B p l s m args meth c D K A Ts own cc nL) {ref C0 : String} {T : u_T} {N ci index : Nat} (hin : ∀ w ∈ u_ws C0 T N, w ∈ Ts) (hc : vwCl[ci]? = some (C0, T, N)) {k : Nat} (hk : k < N) (hlink : Cond.fieldLink own index ref (T k).2.1 (T k).2.2.1 ∈ Ts) (href : (T k).1 = ref) (hdg : decode cc pc = .ok (.getfield index, 3)) (hW : tg_W D A s H G)
    {r : Option Nat} {P : Option Nat → Prop} (hw : gfR G r ci k P) (kk : ∀ x : Option Nat, P x → W p l e R s m args below meth c H locs cells slots Q (F0 m (pc + 3) ls (va_rf x :: rest))) : W p l e R s m args below meth c H locs cells slots Q (F0 m pc ls (va_rf r :: rest)) := by
  obtain ⟨a, fs, x, rfl, hG, hx, hP⟩ := hw
  have hp : va_P D vwCl [(a, .inr (ci, fs))] H := fun k q hk => by
    cases k with
    | zero => cases hk; exact (hW a _ hG).2
    | succ k => simp at hk
  exact va_get C.1.1 C.1.2.1 C.1.2.2.2.2 hin C.1.2.2.2.1 C.2.2.1 hp 0 rfl hc k hk (C.1.2.2.2.2 _ hlink) (fun _ h => by rw [← href]; exact h) hx hdg (kk x hP)
/-- String.value, of an own String or of a constant -/
theorem tr_gsV (C : tc_B p l s m args meth c D K A Ts own cc nL) {N ci index : Nat} {T : u_T} (hin : ∀ w ∈ u_ws "java/lang/String" T N, w ∈ Ts) (hc : vwCl[ci]? = some ("java/lang/String", T, N)) (hk : 0 < N) (hlink : Cond.fieldLink own index "java/lang/String" (T 0).2.1 (T 0).2.2.1 ∈ Ts) (h1 : (T 0).1 = "java/lang/String") (h2 : (T 0).2.1 = "value") (h3 : (T 0).2.2.1 = "[B") (hdg : decode cc pc = .ok (.getfield index, 3)) (hW : tg_W D A s H G) (hS : va_S A s.heap H locs)
    {r : Option Nat} {P : Option Nat → Prop} (hw : gsV K G r ci P) (kk : ∀ x : Option Nat, P x → W p l e R s m args below meth c H locs cells slots Q (F0 m (pc + 3) ls (va_rf x :: rest))) : W p l e R s m args below meth c H locs cells slots Q (F0 m pc ls (va_rf r :: rest)) := by
  rcases hw with hw | ⟨a, v, rfl, hK, hP⟩
  · exact tr_gfR C hin hc hk hlink h1 hdg hW hw kk
  · have hE := (C.2.2.2.1.2.2.2.2.2.1 a v hK).2.2
    have hlk := C.1.2.2.2.2 _ hlink
    rw [h2, h3] at hlk
    exact vk_getf (v := .ref v) C.1.1 C.1.2.1 hE hS C.1.2.2.2.1 hlk (fun _ h => h) hdg (kk (some v) hP)
theorem tr_gsC (C : tc_B p l s m args meth c D K A Ts own cc nL) {N ci index : Nat} {T : u_T} (hin : ∀ w ∈ u_ws "java/lang/String" T N, w ∈ Ts) (hc : vwCl[ci]? = some ("java/lang/String", T, N)) (hk : 1 < N) (hlink : Cond.fieldLink own index "java/lang/String" (T 1).2.1 (T 1).2.2.1 ∈ Ts) (h1 : (T 1).1 = "java/lang/String") (h2 : (T 1).2.1 = "coder") (h3 : (T 1).2.2.1 = "B") (hdg : decode cc pc = .ok (.getfield index, 3)) (hW : tg_W D A s H G) (hS : va_S A s.heap H locs)
    {r : Option Nat} {P : Int32 → Prop} (hw : gsC K G r ci P) (kk : ∀ x : Int32, P x → W p l e R s m args below meth c H locs cells slots Q (F0 m (pc + 3) ls (.int x :: rest))) : W p l e R s m args below meth c H locs cells slots Q (F0 m pc ls (va_rf r :: rest)) := by
  rcases hw with hw | ⟨a, v, rfl, hK, hP⟩
  · exact tr_gfI C hin hc hk hlink h1 hdg hW hw kk
  · have hE := (C.2.2.2.1.2.2.2.2.2.1 a v hK).2.1
    have hlk := C.1.2.2.2.2 _ hlink
    rw [h2, h3] at hlk
    exact vk_getf (v := .int 0) C.1.1 C.1.2.1 hE hS C.1.2.2.2.1 hlk (fun _ h => h) hdg (kk 0 hP)
theorem ts_set {A : Nat → Prop} {H0 H H1 : Heap} {locs : List Loc} {a k : Nat} (h : va_S A H0 H locs) (z : H1.size = H.size) (oq : ∀ q : Nat, q ≠ a → H1[q]? = H[q]?) (ha : A a) : va_S A H0 H1 (locs ++ [⟨a, k⟩]) := h.put z oq ha
theorem tr_pf (C : tc_B p l s m args meth c D K A Ts own cc nL) {ref C0 : String} {T : u_T} {N ci index : Nat} (hin : ∀ w ∈ u_ws C0 T N, w ∈ Ts) (ty0 : Nat → FieldType) (hty : ∀ k, k < N → parseFieldDescriptor (T k).2.2.1 = some (ty0 k)) (hnm : ∀ a, a < N → ∀ b, b < N → a ≠ b → (T a).2.1 ≠ (T b).2.1) (hc : vwCl[ci]? = some (C0, T, N)) {k : Nat} (hk : k < N) (hlink : Cond.fieldLink own index ref (T k).2.1 (T k).2.2.1 ∈ Ts) (href : (T k).1 = ref) (hfin : (T k).2.2.2 = false) {ty : FieldType} {v : Value} (hd : parseFieldDescriptor (T k).2.2.1 = some ty) (hn : narrow ty v = v) (hfit : fits ty v = true) (hdg : decode cc pc = .ok (.putfield index, 3)) (hW : tg_W D A s H G) (hS : va_S A s.heap H locs)
    {r : Option Nat} {P : tG → Prop} (hw : pfV G r ci k v P) (kk : ∀ (G : tG) (H : Heap) (locs : List Loc), P G → tg_W D A s H G → va_S A s.heap H locs → W p l e R s m args below meth c H locs cells slots Q (F0 m (pc + 3) ls rest)) : W p l e R s m args below meth c H locs cells slots Q (F0 m pc ls (v :: va_rf r :: rest)) := by
  obtain ⟨a, fs, rfl, hG, hl, hP⟩ := hw
  obtain ⟨hA, ha⟩ := hW a _ hG
  have hap := va_apart (own := own) C.1.2.2.2.2 hin ty0 hty hnm C.2.2.1 hc
  obtain ⟨r, h1, cell, q1, q2, q3, q4⟩ := ha
  have hr : r = (C0, T, N) := Option.some.inj (h1.symm.trans hc)
  subst hr
  obtain ⟨hS2, hfc, kC, hkC, hkind⟩ := C.2.2.1.1 ci _ hc
  obtain ⟨cf, kf, fi, f, hi, hsl⟩ := hS2 k hk
  have hlay := C.1.2.2.2.2 _ (hin _ (u_in_lay hk))
  unfold u_lay at hlay
  rw [if_neg (by rw [hfin]; decide)] at hlay
  have hst := (u_facts hfc hkC (u_lays C.1.2.2.2.2 hin hk) hi).1
  have h6 := u_store hfc hkC hkind hlay hi hd hn hfit
  have hi2 : s.fieldFound? ref (T k).2.1 (T k).2.2.1 = some (cf, kf, fi, f) := by rw [← href]; exact hi
  refine W.putK C.1.1 C.1.2.1 (f := f) ⟨C.1.2.2.2.1, C.1.2.2.2.2 _ hlink, ⟨_, _, _, hi2⟩, hst⟩ (by rw [q2]; exact h6) q1 q3 (by rw [hsl]; exact k2_hasslot (q4 k hk)) rfl rfl hdg fun H' e1 e2 e3 => ?_
  rw [hsl] at e1 ⊢
  exact kk _ H' _ hP (hW.put hA ⟨_, hc, t_OB.to (V := updV (vp_V fs) k v) ⟨_, e1, q2, q3, t_set q4 hap hk v⟩ (fun j _ => vp_updV_set hl v j)⟩ e3) (hS.put e2 e3 hA)
theorem tr_pfF (C : tc_B p l s m args meth c D K A Ts own cc nL) {ref C0 : String} {T : u_T} {N ci index : Nat} (hin : ∀ w ∈ u_ws C0 T N, w ∈ Ts) (ty0 : Nat → FieldType) (hty : ∀ k, k < N → parseFieldDescriptor (T k).2.2.1 = some (ty0 k)) (hnm : ∀ a, a < N → ∀ b, b < N → a ≠ b → (T a).2.1 ≠ (T b).2.1) (hc : vwCl[ci]? = some (C0, T, N)) {k : Nat} (hk : k < N) (hlink : Cond.fieldLink own index ref (T k).2.1 (T k).2.2.1 ∈ Ts) (href : (T k).1 = ref) (hfin : (T k).2.2.2 = true) (hin2 : meth.name = "<init>") (hdecl : (T k).1 = own) {ty : FieldType} {v : Value} (hd : parseFieldDescriptor (T k).2.2.1 = some ty) (hn : narrow ty v = v) (hfit : fits ty v = true) (hdg : decode cc pc = .ok (.putfield index, 3)) (hW : tg_W D A s H G) (hS : va_S A s.heap H locs)
    {r : Option Nat} {P : tG → Prop} (hw : pfV G r ci k v P) (kk : ∀ (G : tG) (H : Heap) (locs : List Loc), P G → tg_W D A s H G → va_S A s.heap H locs → W p l e R s m args below meth c H locs cells slots Q (F0 m (pc + 3) ls rest)) : W p l e R s m args below meth c H locs cells slots Q (F0 m pc ls (v :: va_rf r :: rest)) := by
  obtain ⟨a, fs, rfl, hG, hl, hP⟩ := hw
  obtain ⟨hA, ha⟩ := hW a _ hG
  have hap := va_apart (own := own) C.1.2.2.2.2 hin ty0 hty hnm C.2.2.1 hc
  obtain ⟨r, h1, cell, q1, q2, q3, q4⟩ := ha
  have hr : r = (C0, T, N) := Option.some.inj (h1.symm.trans hc)
  subst hr
  obtain ⟨hS2, hfc, kC, hkC, hkind⟩ := C.2.2.1.1 ci _ hc
  obtain ⟨cf, kf, fi, f, hi, hsl⟩ := hS2 k hk
  have hlay := C.1.2.2.2.2 _ (hin _ (u_in_lay hk))
  unfold u_lay at hlay
  rw [if_pos hfin] at hlay
  have hst := (u_facts hfc hkC (u_lays C.1.2.2.2.2 hin hk) hi).1
  have hcf : m.cls = cf := by
    obtain ⟨_, _, c', _, _, _, -, -, hf', -, -, -, hown2, -⟩ := Cond.laysFinal_spec hlay
    have e1 : c' = cf := by have := hi.symm.trans hf'; simp at this; exact this.1.symm
    rw [hdecl] at hown2
    rw [← e1]; exact Option.some.inj (C.1.2.2.2.1.symm.trans hown2)
  have h6 := u_fits hfc hkC hkind (Or.inr hlay) hi hd hn hfit
  have hi2 : s.fieldFound? ref (T k).2.1 (T k).2.2.1 = some (cf, kf, fi, f) := by rw [← href]; exact hi
  refine W.putFinK C.1.1 C.1.2.1 C.1.2.2.2.1 (C.1.2.2.2.2 _ hlink) hi2 hst hcf hin2 (by rw [q2]; exact h6) q1 q3 (by rw [hsl]; exact k2_hasslot (q4 k hk)) rfl rfl hdg fun H' e1 e2 e3 => ?_
  rw [hsl] at e1 ⊢
  exact kk _ H' _ hP (hW.put hA ⟨_, hc, t_OB.to (V := updV (vp_V fs) k v) ⟨_, e1, q2, q3, t_set q4 hap hk v⟩ (fun j _ => vp_updV_set hl v j)⟩ e3) (hS.put e2 e3 hA)
/-! arrays -/
theorem ti_in {i : Int32} {j n : Nat} (h : i.toInt = (j : Int)) (hj : j < n) : vp_in i n ∧ i.toNatClampNeg = j := by
  have e : i.toNatClampNeg = j := by
    show i.toInt.toNat = j
    rw [h]; rfl
  refine ⟨?_, e⟩
  rintro (h1 | h1)
  · have := Int32.lt_iff_toInt_lt.mp h1
    rw [h] at this
    have h0 : (0 : Int32).toInt = 0 := by decide
    rw [h0] at this
    omega
  · rw [e] at h1
    omega
theorem tr_alI (C : tc_B p l s m args meth c D K A Ts own cc nL) (hdg : decode cc pc = .ok (.iaload, 1)) (hW : tg_W D A s H G) {r : Option Nat} {i : Int32} {P : Int32 → Prop} (hw : alI G r i .int P) (kk : ∀ x : Int32, P x → W p l e R s m args below meth c H locs cells slots Q (F0 m (pc + 1) ls (.int x :: rest))) : W p l e R s m args below meth c H locs cells slots Q (F0 m pc ls (.int i :: va_rf r :: rest)) := by
  obtain ⟨a, n, f, j, rfl, hG, hi, hj, hP⟩ := hw
  obtain ⟨-, cA, hty, hcell⟩ := hW a _ hG
  obtain ⟨hin, he⟩ := ti_in hi hj
  exact W.iald (v := .int (f j)) C.1.1 C.1.2.1 hcell (hty.1 n (fun j => .int (f j))) (fun q => by cases q) (by show ¬ (i < 0 ∨ (arrV _ _ _).slots.size ≤ _); rw [arrV_size]; exact hin) (by show (arrV _ _ _).slots[_]? = _; rw [he, arrV_read _ _ hj]) rfl rfl hdg (kk _ hP)
theorem tr_alB (C : tc_B p l s m args meth c D K A Ts own cc nL) (hdg : decode cc pc = .ok (.baload, 1)) (hW : tg_W D A s H G) {r : Option Nat} {i : Int32} {P : Int32 → Prop} (hw : alI G r i .byte P) (kk : ∀ x : Int32, P x → W p l e R s m args below meth c H locs cells slots Q (F0 m (pc + 1) ls (.int x :: rest))) : W p l e R s m args below meth c H locs cells slots Q (F0 m pc ls (.int i :: va_rf r :: rest)) := by
  obtain ⟨a, n, f, j, rfl, hG, hi, hj, hP⟩ := hw
  obtain ⟨-, cA, hty, hcell⟩ := hW a _ hG
  obtain ⟨hin, he⟩ := ti_in hi hj
  exact W.bald (v := .int (f j)) C.1.1 C.1.2.1 hcell (hty.1 n (fun j => .int (f j))) (fun q => by cases q) (by show ¬ (i < 0 ∨ (arrV _ _ _).slots.size ≤ _); rw [arrV_size]; exact hin) (by show (arrV _ _ _).slots[_]? = _; rw [he, arrV_read _ _ hj]) rfl rfl hdg (kk _ hP)
theorem tr_alK (C : tc_B p l s m args meth c D K A Ts own cc nL) (hdg : decode cc pc = .ok (.baload, 1)) (hS : va_S A s.heap H locs) {r : Option Nat} {i : Int32} {P : Int32 → Prop} (hw : alK K r i P) (kk : ∀ x : Int32, P x → W p l e R s m args below meth c H locs cells slots Q (F0 m (pc + 1) ls (.int x :: rest))) : W p l e R s m args below meth c H locs cells slots Q (F0 m pc ls (.int i :: va_rf r :: rest)) := by
  obtain ⟨a, n, f, j, rfl, hK, hi, hj, hP⟩ := hw
  obtain ⟨cell, h1, h2, h3, h4, h5, h6, h7⟩ := (C.2.2.2.1.2.2.2.2.2.2.1 a n f hK).1
  obtain ⟨hin, he⟩ := ti_in hi (Nat.lt_of_lt_of_le hj h4)
  exact W.bald (v := .int (f j)) C.1.1 C.1.2.1 (by rw [hS.2.1 a (Array.getElem?_eq_some_iff.mp h1).1 h7]; exact h1) h2 h3 hin (by rw [he, h6 j hj]) rfl rfl hdg (kk _ hP)
theorem tr_alR (C : tc_B p l s m args meth c D K A Ts own cc nL) (hdg : decode cc pc = .ok (.aaload, 1)) (hW : tg_W D A s H G) {ty : FieldType} (hty : ty.isReference = true) {r : Option Nat} {i : Int32} {P : Option Nat → Prop} (hw : alR G r i ty P) (kk : ∀ x : Option Nat, P x → W p l e R s m args below meth c H locs cells slots Q (F0 m (pc + 1) ls (va_rf x :: rest))) : W p l e R s m args below meth c H locs cells slots Q (F0 m pc ls (.int i :: va_rf r :: rest)) := by
  obtain ⟨a, n, f, j, rfl, hG, hi, hj, hP⟩ := hw
  obtain ⟨-, cA, ht, hcell⟩ := hW a _ hG
  obtain ⟨hin, he⟩ := ti_in hi hj
  exact W.aald (v := va_rf (f j)) (ty := ty) C.1.1 C.1.2.1 hcell (ht.1 n (fun j => va_rf (f j))) hty (fun q => by cases q) (by show ¬ (i < 0 ∨ (arrV _ _ _).slots.size ≤ _); rw [arrV_size]; exact hin) (by show (arrV _ _ _).slots[_]? = _; rw [he, arrV_read _ _ hj]) rfl rfl hdg (kk _ hP)
theorem upd_updV (f : Nat → Int32) (j : Nat) (x : Int32) : updV (fun q => Value.int (f q)) j (.int x) = fun q => Value.int (upd f j x q) := by
  funext q
  by_cases hq : q = j
  · subst hq
    simp [updV, upd]
  · simp [updV, upd, hq]
theorem upR_updV (f : Nat → Option Nat) (j : Nat) (x : Option Nat) : updV (fun q => va_rf (f q)) j (va_rf x) = fun q => va_rf (va_up f j x q) := by
  funext q
  by_cases hq : q = j
  · subst hq
    simp [updV, va_up]
  · simp [updV, va_up, hq]
theorem tr_asI (C : tc_B p l s m args meth c D K A Ts own cc nL) (hdg : decode cc pc = .ok (.iastore, 1)) (hW : tg_W D A s H G) (hS : va_S A s.heap H locs) {r : Option Nat} {i x : Int32} {P : tG → Prop} (hw : asI G r i .int x P) (kk : ∀ (G : tG) (H : Heap) (locs : List Loc), P G → tg_W D A s H G → va_S A s.heap H locs → W p l e R s m args below meth c H locs cells slots Q (F0 m (pc + 1) ls rest)) : W p l e R s m args below meth c H locs cells slots Q (F0 m pc ls (.int x :: .int i :: va_rf r :: rest)) := by
  obtain ⟨a, n, f, j, rfl, hG, hi, hj, hP⟩ := hw
  obtain ⟨hA, cA, hty, hcell⟩ := hW a _ hG
  obtain ⟨hin, he⟩ := ti_in hi hj
  refine W.iast C.1.1 C.1.2.1 hcell (hty.1 n (fun j => .int (f j))) (fun q => by cases q) (by show ¬ (i < 0 ∨ (arrV _ _ _).slots.size ≤ _); rw [arrV_size]; exact hin) rfl rfl hdg fun H1 e1 z oq => ?_
  refine kk _ H1 _ hP (hW.put hA ⟨cA, hty, ?_⟩ oq) (hS.put z oq hA)
  rw [e1, vp_cell_i, vp_cell_i, arrV_store, he, upd_updV]
theorem tr_asB (C : tc_B p l s m args meth c D K A Ts own cc nL) (hdg : decode cc pc = .ok (.bastore, 1)) (hW : tg_W D A s H G) (hS : va_S A s.heap H locs) {r : Option Nat} {i x : Int32} {P : tG → Prop} (hw : asI G r i .byte (vp_nar .byte x) P) (kk : ∀ (G : tG) (H : Heap) (locs : List Loc), P G → tg_W D A s H G → va_S A s.heap H locs → W p l e R s m args below meth c H locs cells slots Q (F0 m (pc + 1) ls rest)) : W p l e R s m args below meth c H locs cells slots Q (F0 m pc ls (.int x :: .int i :: va_rf r :: rest)) := by
  obtain ⟨a, n, f, j, rfl, hG, hi, hj, hP⟩ := hw
  obtain ⟨hA, cA, hty, hcell⟩ := hW a _ hG
  obtain ⟨hin, he⟩ := ti_in hi hj
  refine W.bast C.1.1 C.1.2.1 hcell (hty.1 n (fun j => .int (f j))) (fun q => by cases q) (by show ¬ (i < 0 ∨ (arrV _ _ _).slots.size ≤ _); rw [arrV_size]; exact hin) rfl rfl hdg fun H1 e1 z oq => ?_
  refine kk _ H1 _ hP (hW.put hA ⟨cA, hty, ?_⟩ oq) (hS.put z oq hA)
  rw [e1, vp_cell_i, vp_cell_i, arrV_store, he, ← upd_updV]
  rfl
theorem tr_asR (C : tc_B p l s m args meth c D K A Ts own cc nL) (hdg : decode cc pc = .ok (.aastore, 1)) (hW : tg_W D A s H G) (hS : va_S A s.heap H locs) {C0 : String} {T : u_T} {N ci : Nat} (hc : vwCl[ci]? = some (C0, T, N)) {r v : Option Nat} {i : Int32} {P : tG → Prop} (hw : asR G r i (.object C0) v (okO ci) P) (kk : ∀ (G : tG) (H : Heap) (locs : List Loc), P G → tg_W D A s H G → va_S A s.heap H locs → W p l e R s m args below meth c H locs cells slots Q (F0 m (pc + 1) ls rest)) : W p l e R s m args below meth c H locs cells slots Q (F0 m pc ls (va_rf v :: .int i :: va_rf r :: rest)) := by
  obtain ⟨a, n, f, j, rfl, hG, hi, hj, hv, hP⟩ := hw
  obtain ⟨hA, cA, hty, hcell⟩ := hW a _ hG
  obtain ⟨hin, he⟩ := ti_in hi hj
  have h0 : ¬ i < 0 := fun q => hin (Or.inl q)
  rcases hv with rfl | ⟨b, e2, rfl, hb, fs, rfl⟩
  · refine va_WaastN (C := C0) C.1.1 C.1.2.1 hcell (hty.1 n (fun j => va_rf (f j))) (fun h => by cases h) (by show ¬ (i < 0 ∨ (arrV _ _ _).slots.size ≤ _); rw [arrV_size]; exact hin) rfl rfl hdg fun H1 e1 z oq => ?_
    refine kk _ H1 _ hP (hW.put hA ⟨cA, hty, ?_⟩ oq) (hS.put z oq hA)
    rw [e1, vp_cell_q, vp_cell_q, arrV_store, he, ← upR_updV]
    rfl
  · obtain ⟨-, r', hr', cellV, g1, g2, g3, -⟩ := hW b _ hb
    have hr : r' = (C0, T, N) := Option.some.inj (hr'.symm.trans hc)
    subst hr
    have hcls := (C.2.2.1.1 ci _ hc).2
    obtain ⟨kA, comp, k1, k2, k3, -⟩ := hty.2
    have hcomp : comp = D.1 ci := Option.some.inj (k3.symm.trans hcls.1)
    subst hcomp
    obtain ⟨kC, hkC, -⟩ := hcls.2
    refine W.aast C.1.1 C.1.2.1 hcell (fun q h => by cases h) (fun h => by cases h) k1 k2 rfl hkC ⟨h0, by show _ < (arrV _ _ _).slots.size; rw [arrV_size, he]; exact hj⟩ g1 (fun q h => by rw [g3] at h; cases h) (by rw [g2]; exact hkC) (by rw [g2]; exact va_asg _ _) rfl rfl hdg fun H1 e1 z oq => ?_
    refine kk _ H1 _ hP (hW.put hA ⟨cA, hty, ?_⟩ oq) (hS.put z oq hA)
    rw [e1, vp_cell_q, vp_cell_q, arrV_store, he, ← upR_updV]
    rfl
/-- an int array laid into an array of int arrays -/
theorem tr_asA (C : tc_B p l s m args meth c D K A Ts own cc nL) (hdg : decode cc pc = .ok (.aastore, 1)) (hW : tg_W D A s H G) (hS : va_S A s.heap H locs) {r v : Option Nat} {i : Int32} {P : tG → Prop} (hw : asR G r i (.array .int) v okI P) (hv0 : v ≠ none) (kk : ∀ (G : tG) (H : Heap) (locs : List Loc), P G → tg_W D A s H G → va_S A s.heap H locs → W p l e R s m args below meth c H locs cells slots Q (F0 m (pc + 1) ls rest)) : W p l e R s m args below meth c H locs cells slots Q (F0 m pc ls (va_rf v :: .int i :: va_rf r :: rest)) := by
  obtain ⟨a, n, f, j, rfl, hG, hi, hj, hv, hP⟩ := hw
  obtain ⟨hA, cA, hty, hcell⟩ := hW a _ hG
  obtain ⟨hin, he⟩ := ti_in hi hj
  have h0 : ¬ i < 0 := fun q => hin (Or.inl q)
  rcases hv with rfl | ⟨b, e2, rfl, hb, ⟨nb, gb⟩, rfl⟩
  · exact absurd rfl hv0
  · obtain ⟨-, cB, htB, hcB⟩ := hW b _ hb
    obtain ⟨comp, cx, kx, a1, a2, a3, a4, a5⟩ := arrayOverA_spec C.2.2.2.1.2.2.2.1
    have hcx : cx = cA := Option.some.inj (a5.symm.trans hty.2)
    subst hcx
    have hcb : comp = cB := Option.some.inj (a1.symm.trans htB.2)
    subst hcb
    obtain ⟨kB, hkB, -⟩ := Vm.findClass_spec a1
    have hcls : (vp_cell comp (nb, gb)).cls = comp := by
      rcases gb with g | g | g | g | g <;> rfl
    have hvmn : (vp_cell comp (nb, gb)).vm = .none := by
      rcases gb with g | g | g | g | g <;> rfl
    refine W.aast C.1.1 C.1.2.1 hcell (fun q h => by cases h) (fun h => by cases h) a3 a4 rfl hkB ⟨h0, by show _ < (arrV _ _ _).slots.size; rw [arrV_size, he]; exact hj⟩ hcB (fun q h => by rw [hvmn] at h; cases h) (by rw [hcls]; exact hkB) (by rw [hcls]; exact va_asg _ _) rfl rfl hdg fun H1 e1 z oq => ?_
    refine kk _ H1 _ hP (hW.put hA ⟨cx, hty, ?_⟩ oq) (hS.put z oq hA)
    rw [e1, vp_cell_q, vp_cell_q, arrV_store, he, ← upR_updV]
    rfl
theorem tr_len (C : tc_B p l s m args meth c D K A Ts own cc nL) (hdg : decode cc pc = .ok (.arraylength, 1)) (hW : tg_W D A s H G) {r : Option Nat} {P : Int32 → Prop} (hw : lenA G r P) (kk : ∀ x : Int32, P x → W p l e R s m args below meth c H locs cells slots Q (F0 m (pc + 1) ls (.int x :: rest))) : W p l e R s m args below meth c H locs cells slots Q (F0 m pc ls (va_rf r :: rest)) := by
  obtain ⟨a, ty, ⟨n, f⟩, rfl, hG, hP⟩ := hw
  obtain ⟨-, cA, hty, hcell⟩ := hW a _ hG
  rcases f with f | f | f | f | f
  · exact W.alen (n := Int32.ofNat n) C.1.1 C.1.2.1 hcell (hty.1 n (fun j => .int (f j))) (by rw [vp_cell_i, arrV_size] <;> rfl) rfl rfl hdg (kk _ hP)
  · exact W.alen (n := Int32.ofNat n) C.1.1 C.1.2.1 hcell (hty.1 n (fun j => .long (f j))) (by rw [vp_cell_l, arrV_size] <;> rfl) rfl rfl hdg (kk _ hP)
  · exact W.alen (n := Int32.ofNat n) C.1.1 C.1.2.1 hcell (hty.1 n (fun j => .float (f j))) (by rw [vp_cell_f, arrV_size] <;> rfl) rfl rfl hdg (kk _ hP)
  · exact W.alen (n := Int32.ofNat n) C.1.1 C.1.2.1 hcell (hty.1 n (fun j => .double (f j))) (by rw [vp_cell_d, arrV_size] <;> rfl) rfl rfl hdg (kk _ hP)
  · exact W.alen (n := Int32.ofNat n) C.1.1 C.1.2.1 hcell (hty.1 n (fun j => va_rf (f j))) (by rw [vp_cell_q, arrV_size] <;> rfl) rfl rfl hdg (kk _ hP)
theorem tr_lenK (C : tc_B p l s m args meth c D K A Ts own cc nL) (hdg : decode cc pc = .ok (.arraylength, 1)) (hW : tg_W D A s H G) (hS : va_S A s.heap H locs) {r : Option Nat} {P : Int32 → Prop} (hw : lenK K G r P) (kk : ∀ x : Int32, P x → W p l e R s m args below meth c H locs cells slots Q (F0 m (pc + 1) ls (.int x :: rest))) : W p l e R s m args below meth c H locs cells slots Q (F0 m pc ls (va_rf r :: rest)) := by
  rcases hw with hw | ⟨a, n, f, rfl, hK, hP⟩
  · exact tr_len C hdg hW hw kk
  · exact va_tlen C.1.1 C.1.2.1 (C.2.2.2.1.2.2.2.2.2.2.1 a n f hK).1 hS rfl hdg (kk _ hP)
/-! making -/
theorem tr_new (C : tc_B p l s m args meth c D K A Ts own cc nL) {C0 : String} {T : u_T} {N ci index : Nat} (hin : ∀ w ∈ u_ws C0 T N, w ∈ Ts) (ty : Nat → FieldType) (hty : ∀ k, k < N → parseFieldDescriptor (T k).2.2.1 = some (ty k)) (hcl : Cond.classLink own index C0 ∈ Ts) (hinst : Cond.instantiable C0 N ∈ Ts) (hini : Cond.initialized C0 ∈ Ts) (hc : vwCl[ci]? = some (C0, T, N)) {fs : List Value} (hfs : ∀ j, j < N → defaultValue (ty j) = vp_V fs j) (hcells : cells + 1 ≤ R.cells) (hslots : slots + N ≤ R.slots) (hdg : decode cc pc = .ok (.new index, 3)) (hW : tg_W D A s H G) (hS : va_S A s.heap H locs) {P : Option Nat → tG → Prop} (hw : nwO G ci fs P)
    (kk : ∀ (r : Option Nat) (G : tG) (H : Heap), P r G → tg_W D A s H G → va_S A s.heap H locs → W p l e R s m args below meth c H locs (cells + 1) (slots + N) Q (F0 m (pc + 3) ls (va_rf r :: rest))) : W p l e R s m args below meth c H locs cells slots Q (F0 m pc ls rest) := by
  have hKn := C.2.2.1.1 ci _ hc
  refine W.newcK C.1.1 C.1.2.1 C.1.2.2.2.1 (C.1.2.2.2.2 _ hcl) (C.1.2.2.2.2 _ hinst) (C.1.2.2.2.2 _ hini) rfl hdg hcells hslots hKn.2.1 rfl fun H1 kC hkC e1 z1 o1 => ?_
  exact kk (some H.size) _ H1 (hw _ hW.fresh) (hW.make (C.2.2.2.2.1 _ hS.1) ⟨_, hc, (u_born ty C.1.2.2.2.2 hin hKn hkC e1 hty).to hfs⟩ o1) (ts_make hS z1 o1)
theorem tr_newarr (C : tc_B p l s m args meth c D K A Ts own cc nL) {atype : ArrayType} (harr : Cond.arrayClass (newarray.typeOf atype) ∈ Ts) {ty : FieldType} (hty : newarray.typeOf atype = ty) (hra : ∀ (cA : ClassId), s.vm.findClass ("[" ++ ty.toString) = some cA → va_RA s cA ty) {lim : Nat} {z : (Nat → Int32) ⊕ (Nat → Int64) ⊕ (Nat → UInt32) ⊕ (Nat → UInt64) ⊕ (Nat → Option Nat)} (ha : ∀ (cA : ClassId) (N : Nat), vp_cell cA (N, z) = arrV cA N (fun _ => defaultValue ty)) (hbytes : lim * componentBytes ty ≤ 536870912) (hcells : cells + 1 ≤ R.cells) (hslots : slots + lim ≤ R.slots) (hdg : decode cc pc = .ok (.newarray atype, 2)) (hW : tg_W D A s H G) (hS : va_S A s.heap H locs) {n : Int32} {P : Option Nat → tG → Prop} (hw : nwA G ty n lim z P)
    (kk : ∀ (r : Option Nat) (G : tG) (H : Heap), P r G → tg_W D A s H G → va_S A s.heap H locs → W p l e R s m args below meth c H locs (cells + 1) (slots + lim) Q (F0 m (pc + 2) ls (va_rf r :: rest))) : W p l e R s m args below meth c H locs cells slots Q (F0 m pc ls (.int n :: rest)) := by
  subst hty
  obtain ⟨N, hn, hN, hP⟩ := hw
  have e0 : n.toNatClampNeg = N := by show n.toInt.toNat = N; rw [hn]; rfl
  have h0 : ¬ n < 0 := fun h => by
    have h1 := Int32.lt_iff_toInt_lt.mp h
    rw [hn] at h1
    have h2 : (0 : Int32).toInt = 0 := by decide
    rw [h2] at h1
    omega
  refine va_newaK C.1.1 C.1.2.1 (C.1.2.2.2.2 _ harr) rfl hdg rfl h0 e0 (Nat.le_trans (Nat.mul_le_mul_right _ hN) hbytes) hcells (by omega) rfl fun H1 cA e1 z1 o1 hAr hNm => ?_
  refine W.widen (Nat.le_refl _) (by omega : slots + N ≤ slots + lim) ?_
  refine kk (some H.size) _ H1 (hP _ hW.fresh) (hW.make (C.2.2.2.2.1 _ hS.1) ⟨cA, ⟨hAr, hra cA hNm⟩, ?_⟩ o1) (ts_make hS z1 o1)
  rw [ha]
  exact e1
theorem tr_anew (C : tc_B p l s m args meth c D K A Ts own cc nL) {index : Nat} (hclink : Cond.classLink own index "Twinrow$RowList" ∈ Ts) {lim : Nat} (hbytes : lim * 4 ≤ 536870912) (hcells : cells + 1 ≤ R.cells) (hslots : slots + lim ≤ R.slots) (hdg : decode cc pc = .ok (.anewarray index, 3)) (hW : tg_W D A s H G) (hS : va_S A s.heap H locs) {n : Int32} {P : Option Nat → tG → Prop} (hw : nwA G (.object "Twinrow$RowList") n lim (.inr (.inr (.inr (.inr (fun _ => none))))) P)
    (kk : ∀ (r : Option Nat) (G : tG) (H : Heap), P r G → tg_W D A s H G → va_S A s.heap H locs → W p l e R s m args below meth c H locs (cells + 1) (slots + lim) Q (F0 m (pc + 3) ls (va_rf r :: rest))) : W p l e R s m args below meth c H locs cells slots Q (F0 m pc ls (.int n :: rest)) := by
  obtain ⟨N, hn, hN, hP⟩ := hw
  have e0 : n.toNatClampNeg = N := by show n.toInt.toNat = N; rw [hn]; rfl
  subst e0
  have h0 : ¬ n < 0 := fun h => by
    have h1 := Int32.lt_iff_toInt_lt.mp h
    rw [hn] at h1
    have h2 : (0 : Int32).toInt = 0 := by decide
    rw [h2] at h1
    omega
  refine W.anew C.1.1 C.1.2.1 C.1.2.2.2.1 (C.1.2.2.2.2 _ hclink) (va_AO.use C.2.2.2.1.2.2.1) rfl hdg rfl h0 (by omega) hcells (by omega) fun cA kA comp f1 f2 f3 f4 => ?_
  refine W.widen (Nat.le_refl _) (by omega : slots + n.toNatClampNeg ≤ slots + lim) ?_
  generalize hH1 : H.push ({ cls := cA, slots := Array.replicate n.toNatClampNeg .null, vm := .none } : Cell) = H1
  have z1 : H1.size = H.size + 1 := by rw [← hH1, Array.size_push]
  have e1 : H1[H.size]? = some (arrV cA n.toNatClampNeg (fun _ => .null)) := by rw [← hH1, Array.getElem?_push_size, ← arrV_new]
  have o1 : ∀ q : Nat, q < H.size → H1[q]? = H[q]? := fun q hq => by rw [← hH1, Array.getElem?_push, if_neg (Nat.ne_of_lt hq)]
  refine kk (some H.size) _ H1 (hP _ hW.fresh) (hW.make (C.2.2.2.2.1 _ hS.1) ⟨cA, ⟨fun N z => ⟨(fun k h => by cases h), kA, f2, comp, f3⟩, kA, comp, f2, f3, f4, f1⟩, ?_⟩ o1) (ts_make hS z1 o1)
  rw [vp_cell_q]
  exact e1
theorem tr_anewA (C : tc_B p l s m args meth c D K A Ts own cc nL) {index : Nat} {cs : String} (hcs : (FieldType.array .int).toString = cs) (hclink0 : Cond.classLink own index cs ∈ Ts) {lim : Nat} (hbytes : lim * 4 ≤ 536870912) (hcells : cells + 1 ≤ R.cells) (hslots : slots + lim ≤ R.slots) (hdg : decode cc pc = .ok (.anewarray index, 3)) (hW : tg_W D A s H G) (hS : va_S A s.heap H locs) {n : Int32} {P : Option Nat → tG → Prop} (hw : nwA G (.array .int) n lim (.inr (.inr (.inr (.inr (fun _ => none))))) P)
    (kk : ∀ (r : Option Nat) (G : tG) (H : Heap), P r G → tg_W D A s H G → va_S A s.heap H locs → W p l e R s m args below meth c H locs (cells + 1) (slots + lim) Q (F0 m (pc + 3) ls (va_rf r :: rest))) : W p l e R s m args below meth c H locs cells slots Q (F0 m pc ls (.int n :: rest)) := by
  obtain ⟨N, hn, hN, hP⟩ := hw
  have e0 : n.toNatClampNeg = N := by show n.toInt.toNat = N; rw [hn]; rfl
  subst e0
  have h0 : ¬ n < 0 := fun h => by
    have h1 := Int32.lt_iff_toInt_lt.mp h
    rw [hn] at h1
    have h2 : (0 : Int32).toInt = 0 := by decide
    rw [h2] at h1
    omega
  have hclink : Cond.classLink own index (FieldType.array .int).toString ∈ Ts := by rw [hcs]; exact hclink0
  refine W.anewA (t := .int) C.1.1 C.1.2.1 C.1.2.2.2.1 (C.1.2.2.2.2 _ hclink) C.2.2.2.1.2.2.2.1 rfl hdg rfl h0 (by omega) hcells (by omega) fun cA kA comp f1 f2 f3 f4 => ?_
  refine W.widen (Nat.le_refl _) (by omega : slots + n.toNatClampNeg ≤ slots + lim) ?_
  generalize hH1 : H.push ({ cls := cA, slots := Array.replicate n.toNatClampNeg .null, vm := .none } : Cell) = H1
  have z1 : H1.size = H.size + 1 := by rw [← hH1, Array.size_push]
  have e1 : H1[H.size]? = some (arrV cA n.toNatClampNeg (fun _ => .null)) := by rw [← hH1, Array.getElem?_push_size, ← arrV_new]
  have o1 : ∀ q : Nat, q < H.size → H1[q]? = H[q]? := fun q hq => by rw [← hH1, Array.getElem?_push, if_neg (Nat.ne_of_lt hq)]
  refine kk (some H.size) _ H1 (hP _ hW.fresh) (hW.make (C.2.2.2.2.1 _ hS.1) ⟨cA, ⟨fun N z => ⟨(fun k h => by cases h), kA, f2, comp, f3⟩, f1⟩, ?_⟩ o1) (ts_make hS z1 o1)
  rw [vp_cell_q]
  exact e1
end TRA
