/-! THE START: what the launch gives of the constants -/
section START
variable {s : State} {A : Nat → Prop} {args : Array Value}
def st_S (A : Nat → Prop) (s : State) (a v : Nat) : Prop := va_O "java/lang/String" a A s s.heap ∧ va_OF "java/lang/String" "coder" "B" (.int 0) a A s s.heap ∧ va_OF "java/lang/String" "value" "[B" (.ref v) a A s s.heap
def st_T (A : Nat → Prop) (s : State) (v n : Nat) (f : Nat → Int32) : Prop := va_T .byte v n (fun j => .int (f j)) A s s.heap ∧ (∀ j, fits .byte (.int (f j)) = true) ∧ n < 2 ^ 31
noncomputable def st_k1 (A : Nat → Prop) (s : State) (a : Nat) : Option Nat := @dite _ (∃ v, st_S A s a v) (Classical.propDecidable _) (fun h => some h.choose) (fun _ => none)
noncomputable def st_k2 (A : Nat → Prop) (s : State) (v : Nat) : Option (Nat × (Nat → Int32)) := @dite _ (∃ q : Nat × (Nat → Int32), st_T A s v q.1 q.2) (Classical.propDecidable _) (fun h => some h.choose) (fun _ => none)
theorem st_OF_inj {o n d : String} {v w : Value} {t : Nat} {U : State} {H : Heap} (h1 : va_OF o n d v t A U H) (h2 : va_OF o n d w t A U H) : v = w := by
  obtain ⟨cf, k, i, f, cell, a1, a2, a3, a4, a5, a6⟩ := h1
  obtain ⟨cf', k', i', f', cell', b1, b2, b3, b4, b5, b6⟩ := h2
  cases a1.symm.trans b1
  cases a3.symm.trans b3
  exact Option.some.inj (a5.symm.trans b5)
theorem st_T_inj {ty : FieldType} {t n k : Nat} {f g : Nat → Value} {U : State} {H : Heap} (hn : n < 2 ^ 31) (hk : k < 2 ^ 31) (h1 : va_T ty t n f A U H) (h2 : va_T ty t k g A U H) : n = k := by
  obtain ⟨cell, a1, a2, a3, a4, a5, a6⟩ := h1
  obtain ⟨cell', b1, b2, b3, b4, b5, b6⟩ := h2
  cases a1.symm.trans b1
  have e : Int32.ofNat n = Int32.ofNat k := a5.symm.trans b5
  have e1 := congrArg Int32.toInt e
  rw [Int32.toInt_ofNat_of_lt hn, Int32.toInt_ofNat_of_lt hk] at e1
  omega
theorem st_k1_of {a v : Nat} (h : st_S A s a v) : st_k1 A s a = some v := by
  have hx : ∃ v, st_S A s a v := ⟨v, h⟩
  unfold st_k1
  rw [dif_pos hx]
  have := st_OF_inj hx.choose_spec.2.2 h.2.2
  rw [Value.ref.inj this]
theorem st_k1_spec {a v : Nat} (h : st_k1 A s a = some v) : st_S A s a v := by
  unfold st_k1 at h
  by_cases hx : ∃ v, st_S A s a v
  · rw [dif_pos hx] at h
    have := hx.choose_spec
    rw [Option.some.inj h] at this
    exact this
  · rw [dif_neg hx] at h
    cases h
theorem st_k2_spec {v n : Nat} {f : Nat → Int32} (h : st_k2 A s v = some (n, f)) : st_T A s v n f := by
  unfold st_k2 at h
  by_cases hx : ∃ q : Nat × (Nat → Int32), st_T A s v q.1 q.2
  · rw [dif_pos hx] at h
    have := hx.choose_spec
    rw [Option.some.inj h] at this
    exact this
  · rw [dif_neg hx] at h
    cases h
theorem st_k2_of {v n : Nat} {f : Nat → Int32} (h : st_T A s v n f) : ∃ g, st_k2 A s v = some (n, g) ∧ ∀ j, fits .byte (.int (g j)) = true := by
  have hx : ∃ q : Nat × (Nat → Int32), st_T A s v q.1 q.2 := ⟨(n, f), h⟩
  have h1 := hx.choose_spec
  have h2 : st_k2 A s v = some hx.choose := by unfold st_k2; rw [dif_pos hx]
  have h3 := st_T_inj h1.2.2 h.2.2 h1.1 h.1
  refine ⟨hx.choose.2, ?_, h1.2.1⟩
  rw [h2, ← h3]
theorem st_ref {own : String} {k : Nat} (hex : (Cond.exactly (.string own k) "java/lang/String").before args s = true) : ∃ a, (Term.string own k).eval args s none [] s = some (.ref a) := by
  obtain ⟨a, c, cA, kA, q1, q2, q3, q4, q5, q6, -⟩ := Cond.exactly_spec (args := args) (first := s) (o := none) (s := s) (idx := []) (t := .string own k) (cls := "java/lang/String") hex
  exact ⟨a, q1⟩
theorem st_str {own : String} {k : Nat} (n : Nat) (f : Nat → Int32) (hn : n < 2 ^ 31) (hf : ∀ j, fits .byte (.int (f j)) = true) (hex : (Cond.exactly (.string own k) "java/lang/String").before args s = true) (hco : (Cond.eq (.field (.string own k) "java/lang/String" "coder" "B") (.int 0)).before args s = true)
    (har : (Cond.arrayOf (.field (.string own k) "java/lang/String" "value" "[B") .byte).before args s = true) (hle : (Cond.eq (.length (.field (.string own k) "java/lang/String" "value" "[B")) (.int (Int32.ofNat n))).before args s = true)
    (hel : ∀ j, j < n → (Cond.eq (.elem (.field (.string own k) "java/lang/String" "value" "[B") (.int (Int32.ofNat j))) (.int (f j))).before args s = true) (hA : ∀ a : Nat, a < s.heap.size → ¬ A a) :
    ∃ a, (Term.string own k).eval args s none [] s = some (.ref a) ∧ ∃ w g, st_k1 A s a = some w ∧ st_k2 A s w = some (n, g) ∧ ∀ j, fits .byte (.int (g j)) = true := by
  obtain ⟨a, c, cA, kA, q1, q2, q3, q4, q5, q6, -⟩ := Cond.exactly_spec (args := args) (first := s) (o := none) (s := s) (idx := []) (t := .string own k) (cls := "java/lang/String") hex
  obtain ⟨t, ht, hT⟩ := va_Tof (f := fun j => .int (f j)) (A := A) hn har (va_eqt hle) (fun j hj => va_eqt (hel j hj)) hA
  obtain ⟨g, g1, g2⟩ := st_k2_of (A := A) (s := s) ⟨hT, hf, hn⟩
  exact ⟨a, q1, t, g, st_k1_of ⟨⟨cA, q3, q5, by rw [q6]; exact q2, hA a (Array.getElem?_eq_some_iff.mp q3).1⟩, vk_OFof q1 (va_eqt hco) hA, vk_OFof q1 ht hA⟩, g1, g2⟩
def st_f1 (x : Int32) (_ : Nat) : Int32 := x
theorem st_one {own : String} {k : Nat} (x : Int32) (hx : fits .byte (.int x) = true) (hex : (Cond.exactly (.string own k) "java/lang/String").before args s = true) (hco : (Cond.eq (.field (.string own k) "java/lang/String" "coder" "B") (.int 0)).before args s = true)
    (har : (Cond.arrayOf (.field (.string own k) "java/lang/String" "value" "[B") .byte).before args s = true) (hle : (Cond.eq (.length (.field (.string own k) "java/lang/String" "value" "[B")) (.int 1)).before args s = true)
    (hel : (Cond.eq (.elem (.field (.string own k) "java/lang/String" "value" "[B") (.int 0)) (.int x)).before args s = true) (hA : ∀ a : Nat, a < s.heap.size → ¬ A a) :
    ∃ a, (Term.string own k).eval args s none [] s = some (.ref a) ∧ ∃ w g, st_k1 A s a = some w ∧ st_k2 A s w = some (1, g) ∧ ∀ j, fits .byte (.int (g j)) = true :=
  st_str 1 (st_f1 x) (by decide) (fun _ => hx) hex hco har hle (fun j hj => by
    obtain rfl : j = 0 := by omega
    exact hel) hA
def st_oT (j : Nat) : Int32 := Int32.ofNat (48 + (j % 100) / 10)
def st_oO (j : Nat) : Int32 := Int32.ofNat (48 + j % 10)
theorem st_oT_f (j : Nat) : fits .byte (.int (st_oT j)) = true := by
  have h : ∀ r, r < 100 → fits .byte (.int (Int32.ofNat (48 + r / 10))) = true := by decide
  exact h (j % 100) (Nat.mod_lt _ (by decide))
theorem st_oO_f (j : Nat) : fits .byte (.int (st_oO j)) = true := by
  have h : ∀ r, r < 10 → fits .byte (.int (Int32.ofNat (48 + r))) = true := by decide
  exact h (j % 10) (Nat.mod_lt _ (by decide))
theorem st_in (j : Nat) (hj : j < 100) : Cond.eq (.elem (.static "java/lang/Integer" "DigitTens" "[B") (.int (Int32.ofNat j))) (.int (st_oT j)) ∈ flatC (Jvm.Cond.and given_1 narrow_1) :=
  va_run (L := flatC (Jvm.Cond.and given_1 narrow_1)) (N := 100) (p := 117) (f := fun j => Cond.eq (.elem (.static "java/lang/Integer" "DigitTens" "[B") (.int (Int32.ofNat j))) (.int (st_oT j))) (by decide +kernel) j hj
theorem st_on (j : Nat) (hj : j < 100) : Cond.eq (.elem (.static "java/lang/Integer" "DigitOnes" "[B") (.int (Int32.ofNat j))) (.int (st_oO j)) ∈ flatC (Jvm.Cond.and given_1 narrow_1) :=
  va_run (L := flatC (Jvm.Cond.and given_1 narrow_1)) (N := 100) (p := 14) (f := fun j => Cond.eq (.elem (.static "java/lang/Integer" "DigitOnes" "[B") (.int (Int32.ofNat j))) (.int (st_oO j))) (by decide +kernel) j hj
theorem st_tab {n : String} (f : Nat → Int32) (hf : ∀ j, fits .byte (.int (f j)) = true) (hl : (Cond.laysStatic "java/lang/Integer" n "[B").before args s = true) (hi : (Cond.initialized "java/lang/Integer").before args s = true) (har : (Cond.arrayOf (.static "java/lang/Integer" n "[B") .byte).before args s = true) (hle : (Cond.eq (.length (.static "java/lang/Integer" n "[B")) (.int 100)).before args s = true)
    (hel : ∀ j, j < 100 → (Cond.eq (.elem (.static "java/lang/Integer" n "[B") (.int (Int32.ofNat j))) (.int (f j))).before args s = true) (hA : ∀ a : Nat, a < s.heap.size → ¬ A a) : ∃ t, va_Z "java/lang/Integer" n "[B" (.ref t) A s s.heap ∧ ∃ g, st_k2 A s t = some (100, g) := by
  obtain ⟨t, ht, hT⟩ := va_Tof (f := fun j => .int (f j)) (N := 100) (A := A) (by decide) har (va_eqt hle) (fun j hj => va_eqt (hel j hj)) hA
  obtain ⟨g, g1, -⟩ := st_k2_of (A := A) (s := s) ⟨hT, hf, by decide⟩
  exact ⟨t, va_Zof hl hi ht hA, g, g1⟩
def st_ad (a0 a1 a2 a3 a4 a5 a6 a7 a8 tT tO : Nat) : Nat → Nat
  | 0 => a0
  | 1 => a1
  | 2 => a2
  | 3 => a3
  | 4 => a4
  | 5 => a5
  | 6 => a6
  | 7 => a7
  | 8 => a8
  | 20 => tT
  | _ => tO
set_option maxRecDepth 100000 in
set_option maxHeartbeats 4000000 in
theorem st_C {b : Nat} (hA : ∀ a : Nat, a < s.heap.size → ¬ A a) (hts : ∀ w ∈ lw_tbl, w.before #[Value.ref b] s = true) (hgv : (Jvm.Cond.and given_1 narrow_1).before #[Value.ref b] s = true) : ∃ K : tK, tk_C K A s s.heap ∧ KOK K := by
  have hs := flat_of_before _ hgv
  obtain ⟨a0, e0⟩ := st_ref (hs (Cond.exactly (.string "Twinrow" 190) "java/lang/String") (by decide +kernel))
  obtain ⟨a1, e1⟩ := st_ref (hs (Cond.exactly (.string "Twinrow" 195) "java/lang/String") (by decide +kernel))
  obtain ⟨a2, e2⟩ := st_ref (hs (Cond.exactly (.string "Twinrow" 197) "java/lang/String") (by decide +kernel))
  obtain ⟨a3, e3⟩ := st_ref (hs (Cond.exactly (.string "Twinrow" 203) "java/lang/String") (by decide +kernel))
  obtain ⟨a4, e4⟩ := st_ref (hs (Cond.exactly (.string "Twinrow" 207) "java/lang/String") (by decide +kernel))
  obtain ⟨a5, e5, k5⟩ := st_one (own := "TwinrowModel") (k := 63) (A := A) 45 (by decide) (hs _ (by decide +kernel)) (hs _ (by decide +kernel)) (hs _ (by decide +kernel)) (hs _ (by decide +kernel)) (hs _ (by decide +kernel)) hA
  obtain ⟨a6, e6, k6⟩ := st_str (own := "TwinrowModel") (k := 68) (A := A) 0 (st_f1 0) (by decide) (fun _ => show fits .byte (.int (0 : Int32)) = true by decide) (hs _ (by decide +kernel)) (hs _ (by decide +kernel)) (hs _ (by decide +kernel)) (hs _ (by decide +kernel)) (fun j hj => absurd hj (Nat.not_lt_zero j)) hA
  obtain ⟨a7, e7, k7⟩ := st_one (own := "TwinrowModel") (k := 109) (A := A) 32 (by decide) (hs _ (by decide +kernel)) (hs _ (by decide +kernel)) (hs _ (by decide +kernel)) (hs _ (by decide +kernel)) (hs _ (by decide +kernel)) hA
  obtain ⟨a8, e8, k8⟩ := st_one (own := "TwinrowModel") (k := 138) (A := A) 58 (by decide) (hs _ (by decide +kernel)) (hs _ (by decide +kernel)) (hs _ (by decide +kernel)) (hs _ (by decide +kernel)) (hs _ (by decide +kernel)) hA
  obtain ⟨tT, zT, gT, kT⟩ := st_tab (n := "DigitTens") (A := A) st_oT st_oT_f (hts _ (by decide +kernel)) (hts _ (by decide +kernel)) (hs _ (by decide +kernel)) (hs _ (by decide +kernel)) (fun j hj => hs _ (st_in j hj)) hA
  obtain ⟨tO, zO, gO, kO⟩ := st_tab (n := "DigitOnes") (A := A) st_oO st_oO_f (hts _ (by decide +kernel)) (hts _ (by decide +kernel)) (hs _ (by decide +kernel)) (hs _ (by decide +kernel)) (fun j hj => hs _ (st_on j hj)) hA
  refine ⟨(st_k1 A s, st_k2 A s, st_ad a0 a1 a2 a3 a4 a5 a6 a7 a8 tT tO), ⟨?_, ?_, ?_, ?_, ?_, ?_, ?_, ?_, zT, zO, ?_⟩, ?_⟩
  · exact vx_Zqof (hts _ (by decide +kernel)) (hts _ (by decide +kernel)) (hs _ (by decide +kernel)) hA
  · exact vx_Zqof (hts _ (by decide +kernel)) (hts _ (by decide +kernel)) (hs _ (by decide +kernel)) hA
  · exact va_AO.of (hts _ (by decide +kernel))
  · exact hts (Cond.arrayOver (.array .int)) (by decide +kernel)
  · intro q hq
    unfold tk_strs at hq
    rcases List.mem_cons.mp hq with rfl | hq
    · exact vk_R.of (hts _ (by decide +kernel)) e0
    rcases List.mem_cons.mp hq with rfl | hq
    · exact vk_R.of (hts _ (by decide +kernel)) e1
    rcases List.mem_cons.mp hq with rfl | hq
    · exact vk_R.of (hts _ (by decide +kernel)) e2
    rcases List.mem_cons.mp hq with rfl | hq
    · exact vk_R.of (hts _ (by decide +kernel)) e3
    rcases List.mem_cons.mp hq with rfl | hq
    · exact vk_R.of (hts _ (by decide +kernel)) e4
    rcases List.mem_cons.mp hq with rfl | hq
    · exact vk_R.of (hts _ (by decide +kernel)) e5
    rcases List.mem_cons.mp hq with rfl | hq
    · exact vk_R.of (hts _ (by decide +kernel)) e6
    rcases List.mem_cons.mp hq with rfl | hq
    · exact vk_R.of (hts _ (by decide +kernel)) e7
    rcases List.mem_cons.mp hq with rfl | hq
    · exact vk_R.of (hts _ (by decide +kernel)) e8
    · exact absurd hq List.not_mem_nil
  · exact fun a v hv => st_k1_spec hv
  · exact fun v n f hv => ⟨(st_k2_spec hv).1, (st_k2_spec hv).2.1⟩
  · exact va_Zof (hts _ (by decide +kernel)) (hts _ (by decide +kernel)) (va_eqi (hs _ (by decide +kernel))) hA
  · refine ⟨va_Nw.of rfl (hts _ (by decide +kernel)), va_Nw.of rfl (hts _ (by decide +kernel)), va_Nw.of rfl (hts _ (by decide +kernel)), va_Nw.of rfl (hts _ (by decide +kernel)), va_Nc.of (hs _ (by decide +kernel)), va_Nw.of rfl (hts _ (by decide +kernel)), va_Nw.of rfl (hts _ (by decide +kernel)), va_Nw.of rfl (hts _ (by decide +kernel)), va_Nw.of rfl (hts _ (by decide +kernel))⟩
  · obtain ⟨w5, g5, x5, y5, z5⟩ := k5
    obtain ⟨w6, g6, x6, y6, z6⟩ := k6
    obtain ⟨w7, g7, x7, y7, z7⟩ := k7
    obtain ⟨w8, g8, x8, y8, z8⟩ := k8
    exact ⟨⟨w5, g5, x5, y5, fun i _ => z5 i⟩, ⟨w6, g6, x6, y6, fun i _ => z6 i⟩, ⟨w7, g7, x7, y7, fun i _ => z7 i⟩, ⟨w8, g8, x8, y8, fun i _ => z8 i⟩, ⟨gT, kT⟩, ⟨gO, kO⟩⟩
end START
