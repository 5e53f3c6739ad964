abbrev dlRd (α : Type) := Jvm.ClassFile.Reader Jvm.ClassFile.DecodeError α
def dlS (k : Nat) (a b : ByteArray) : Prop := k + b.size ≤ a.size ∧ ∀ (j : Nat) (h : j < b.size) (h' : k + j < a.size), a[k + j] = b[j]
def dlR {α : Type} (k : Nat) (a b : ByteArray) (r r' : dlRd α) : Prop := ∀ (p : Nat) (x : α) (q : Nat), r.runAt b p = .ok (x, q) → r'.runAt a (k + p) = .ok (x, k + q)
theorem dl_run_bind {α β : Type} (g : dlRd α) (c : α → dlRd β) (z : ByteArray) (s : Nat) : (g >>= c).runAt z s = Except.bind (g.runAt z s) (fun v => (c v.1).runAt z v.2) := rfl
theorem dl_pure {k : Nat} {a b : ByteArray} {α : Type} (x : α) : dlR k a b (pure x : dlRd α) (pure x) := by
  intro p y q h
  have h' : (Except.ok (x, p) : Except Jvm.ClassFile.DecodeError (α × Nat)) = .ok (y, q) := h
  cases h'; rfl
theorem dl_bind {k : Nat} {a b : ByteArray} {α β : Type} {r r' : dlRd α} {f f' : α → dlRd β} (h1 : dlR k a b r r') (h2 : ∀ x, dlR k a b (f x) (f' x)) : dlR k a b (r >>= f) (r' >>= f') := by
  intro p y q h
  rw [dl_run_bind] at h ⊢
  cases hr : r.runAt b p with
  | error e => rw [hr] at h; cases h
  | ok v =>
    obtain ⟨x, t⟩ := v
    rw [hr] at h
    rw [h1 p x t hr]
    exact h2 x t y q h
theorem dl_map {k : Nat} {a b : ByteArray} {α β : Type} {r r' : dlRd α} {f : α → β} (h1 : dlR k a b r r') : dlR k a b (f <$> r) (f <$> r') := by
  have e : ∀ (g : dlRd α) (z : ByteArray) (s : Nat), (f <$> g).runAt z s = Except.bind (g.runAt z s) (fun v => .ok (f v.1, v.2)) := fun _ _ _ => rfl
  intro p y q h
  rw [e] at h ⊢
  cases hr : r.runAt b p with
  | error e => rw [hr] at h; cases h
  | ok v =>
    obtain ⟨x, t⟩ := v
    rw [hr] at h
    rw [h1 p x t hr]
    have h' : (Except.ok (f x, t) : Except Jvm.ClassFile.DecodeError (β × Nat)) = .ok (y, q) := h
    cases h'; rfl
theorem dl_run_u1 (z : ByteArray) (s : Nat) : (Jvm.ClassFile.Reader.u1 : dlRd Nat).runAt z s = if h : s < z.size then .ok ((z[s]'h).toNat, s + 1) else .error (.truncated s) := by
  have e : (Jvm.ClassFile.Reader.u1 : dlRd Nat).runAt z s = (dite (s < z.size) (fun h => (do set (s + 1); pure (z[s]'h).toNat : dlRd Nat)) (fun _ => throw (.truncated s))).runAt z s := rfl
  rw [e]
  by_cases h : s < z.size
  · rw [dif_pos h, dif_pos h]; rfl
  · rw [dif_neg h, dif_neg h]; rfl
theorem dl_u1 {k : Nat} {a b : ByteArray} (hS : dlS k a b) : dlR k a b (Jvm.ClassFile.Reader.u1 : dlRd Nat) Jvm.ClassFile.Reader.u1 := by
  intro p x q h
  rw [dl_run_u1] at h ⊢
  by_cases hp : p < b.size
  · rw [dif_pos hp] at h
    have hk : k + p < a.size := by have := hS.1; omega
    rw [dif_pos hk, hS.2 p hp hk]
    cases h; rfl
  · rw [dif_neg hp] at h; cases h
theorem dl_u2 {k : Nat} {a b : ByteArray} (hS : dlS k a b) : dlR k a b (Jvm.ClassFile.Reader.u2 : dlRd Nat) Jvm.ClassFile.Reader.u2 :=
  show dlR k a b (Jvm.ClassFile.Reader.u1 >>= fun hi => Jvm.ClassFile.Reader.u1 >>= fun lo => pure (hi * 256 + lo)) (Jvm.ClassFile.Reader.u1 >>= fun hi => Jvm.ClassFile.Reader.u1 >>= fun lo => pure (hi * 256 + lo)) from
  dl_bind (dl_u1 hS) (fun _ => dl_bind (dl_u1 hS) (fun _ => dl_pure _))
theorem dl_s1 {k : Nat} {a b : ByteArray} (hS : dlS k a b) : dlR k a b (Jvm.ClassFile.Reader.s1 : dlRd Int) Jvm.ClassFile.Reader.s1 :=
  show dlR k a b (Jvm.ClassFile.Reader.signed 8 <$> Jvm.ClassFile.Reader.u1) (Jvm.ClassFile.Reader.signed 8 <$> Jvm.ClassFile.Reader.u1) from dl_map (dl_u1 hS)
theorem dl_s2 {k : Nat} {a b : ByteArray} (hS : dlS k a b) : dlR k a b (Jvm.ClassFile.Reader.s2 : dlRd Int) Jvm.ClassFile.Reader.s2 :=
  show dlR k a b (Jvm.ClassFile.Reader.signed 16 <$> Jvm.ClassFile.Reader.u2) (Jvm.ClassFile.Reader.signed 16 <$> Jvm.ClassFile.Reader.u2) from dl_map (dl_u2 hS)
def dlX (pc : Nat) : { f : Nat → dlRd Jvm.ClassFile.Instr // Jvm.ClassFile.Decoder.instr pc = (Jvm.ClassFile.Reader.u1 >>= f) } := ⟨_, rfl⟩
def dlC (pc : Nat) : Nat → dlRd Jvm.ClassFile.Instr := (dlX pc).1
theorem dlC_eq (pc : Nat) : Jvm.ClassFile.Decoder.instr pc = (Jvm.ClassFile.Reader.u1 >>= dlC pc) := (dlX pc).2
theorem dlo_3 {k : Nat} {a b : ByteArray} (hS : dlS k a b) (pc pc' : Nat) : dlR k a b (dlC pc 3) (dlC pc' 3) := by
  have e : ∀ pc, dlC pc 3 = (pure (.iconst 0) : dlRd Jvm.ClassFile.Instr) := fun _ => rfl
  rw [e, e]
  exact dl_pure _
theorem dlo_4 {k : Nat} {a b : ByteArray} (hS : dlS k a b) (pc pc' : Nat) : dlR k a b (dlC pc 4) (dlC pc' 4) := by
  have e : ∀ pc, dlC pc 4 = (pure (.iconst 1) : dlRd Jvm.ClassFile.Instr) := fun _ => rfl
  rw [e, e]
  exact dl_pure _
theorem dlo_5 {k : Nat} {a b : ByteArray} (hS : dlS k a b) (pc pc' : Nat) : dlR k a b (dlC pc 5) (dlC pc' 5) := by
  have e : ∀ pc, dlC pc 5 = (pure (.iconst 2) : dlRd Jvm.ClassFile.Instr) := fun _ => rfl
  rw [e, e]
  exact dl_pure _
theorem dlo_6 {k : Nat} {a b : ByteArray} (hS : dlS k a b) (pc pc' : Nat) : dlR k a b (dlC pc 6) (dlC pc' 6) := by
  have e : ∀ pc, dlC pc 6 = (pure (.iconst 3) : dlRd Jvm.ClassFile.Instr) := fun _ => rfl
  rw [e, e]
  exact dl_pure _
theorem dlo_7 {k : Nat} {a b : ByteArray} (hS : dlS k a b) (pc pc' : Nat) : dlR k a b (dlC pc 7) (dlC pc' 7) := by
  have e : ∀ pc, dlC pc 7 = (pure (.iconst 4) : dlRd Jvm.ClassFile.Instr) := fun _ => rfl
  rw [e, e]
  exact dl_pure _
theorem dlo_8 {k : Nat} {a b : ByteArray} (hS : dlS k a b) (pc pc' : Nat) : dlR k a b (dlC pc 8) (dlC pc' 8) := by
  have e : ∀ pc, dlC pc 8 = (pure (.iconst 5) : dlRd Jvm.ClassFile.Instr) := fun _ => rfl
  rw [e, e]
  exact dl_pure _
theorem dlo_16 {k : Nat} {a b : ByteArray} (hS : dlS k a b) (pc pc' : Nat) : dlR k a b (dlC pc 16) (dlC pc' 16) := by
  have e : ∀ pc, dlC pc 16 = ((Jvm.ClassFile.Reader.s1 >>= fun n => pure (.bipush n)) : dlRd Jvm.ClassFile.Instr) := fun _ => rfl
  rw [e, e]
  exact dl_bind (dl_s1 hS) (fun _ => dl_pure _)
theorem dlo_21 {k : Nat} {a b : ByteArray} (hS : dlS k a b) (pc pc' : Nat) : dlR k a b (dlC pc 21) (dlC pc' 21) := by
  have e : ∀ pc, dlC pc 21 = ((Jvm.ClassFile.Reader.u1 >>= fun n => pure (.iload n)) : dlRd Jvm.ClassFile.Instr) := fun _ => rfl
  rw [e, e]
  exact dl_bind (dl_u1 hS) (fun _ => dl_pure _)
theorem dlo_42 {k : Nat} {a b : ByteArray} (hS : dlS k a b) (pc pc' : Nat) : dlR k a b (dlC pc 42) (dlC pc' 42) := by
  have e : ∀ pc, dlC pc 42 = (pure (.aload_n 0) : dlRd Jvm.ClassFile.Instr) := fun _ => rfl
  rw [e, e]
  exact dl_pure _
theorem dlo_43 {k : Nat} {a b : ByteArray} (hS : dlS k a b) (pc pc' : Nat) : dlR k a b (dlC pc 43) (dlC pc' 43) := by
  have e : ∀ pc, dlC pc 43 = (pure (.aload_n 1) : dlRd Jvm.ClassFile.Instr) := fun _ => rfl
  rw [e, e]
  exact dl_pure _
theorem dlo_44 {k : Nat} {a b : ByteArray} (hS : dlS k a b) (pc pc' : Nat) : dlR k a b (dlC pc 44) (dlC pc' 44) := by
  have e : ∀ pc, dlC pc 44 = (pure (.aload_n 2) : dlRd Jvm.ClassFile.Instr) := fun _ => rfl
  rw [e, e]
  exact dl_pure _
theorem dlo_45 {k : Nat} {a b : ByteArray} (hS : dlS k a b) (pc pc' : Nat) : dlR k a b (dlC pc 45) (dlC pc' 45) := by
  have e : ∀ pc, dlC pc 45 = (pure (.aload_n 3) : dlRd Jvm.ClassFile.Instr) := fun _ => rfl
  rw [e, e]
  exact dl_pure _
theorem dlo_46 {k : Nat} {a b : ByteArray} (hS : dlS k a b) (pc pc' : Nat) : dlR k a b (dlC pc 46) (dlC pc' 46) := by
  have e : ∀ pc, dlC pc 46 = (pure (.iaload) : dlRd Jvm.ClassFile.Instr) := fun _ => rfl
  rw [e, e]
  exact dl_pure _
theorem dlo_54 {k : Nat} {a b : ByteArray} (hS : dlS k a b) (pc pc' : Nat) : dlR k a b (dlC pc 54) (dlC pc' 54) := by
  have e : ∀ pc, dlC pc 54 = ((Jvm.ClassFile.Reader.u1 >>= fun n => pure (.istore n)) : dlRd Jvm.ClassFile.Instr) := fun _ => rfl
  rw [e, e]
  exact dl_bind (dl_u1 hS) (fun _ => dl_pure _)
theorem dlo_58 {k : Nat} {a b : ByteArray} (hS : dlS k a b) (pc pc' : Nat) : dlR k a b (dlC pc 58) (dlC pc' 58) := by
  have e : ∀ pc, dlC pc 58 = ((Jvm.ClassFile.Reader.u1 >>= fun n => pure (.astore n)) : dlRd Jvm.ClassFile.Instr) := fun _ => rfl
  rw [e, e]
  exact dl_bind (dl_u1 hS) (fun _ => dl_pure _)
theorem dlo_76 {k : Nat} {a b : ByteArray} (hS : dlS k a b) (pc pc' : Nat) : dlR k a b (dlC pc 76) (dlC pc' 76) := by
  have e : ∀ pc, dlC pc 76 = (pure (.astore_n 1) : dlRd Jvm.ClassFile.Instr) := fun _ => rfl
  rw [e, e]
  exact dl_pure _
theorem dlo_77 {k : Nat} {a b : ByteArray} (hS : dlS k a b) (pc pc' : Nat) : dlR k a b (dlC pc 77) (dlC pc' 77) := by
  have e : ∀ pc, dlC pc 77 = (pure (.astore_n 2) : dlRd Jvm.ClassFile.Instr) := fun _ => rfl
  rw [e, e]
  exact dl_pure _
theorem dlo_78 {k : Nat} {a b : ByteArray} (hS : dlS k a b) (pc pc' : Nat) : dlR k a b (dlC pc 78) (dlC pc' 78) := by
  have e : ∀ pc, dlC pc 78 = (pure (.astore_n 3) : dlRd Jvm.ClassFile.Instr) := fun _ => rfl
  rw [e, e]
  exact dl_pure _
theorem dlo_87 {k : Nat} {a b : ByteArray} (hS : dlS k a b) (pc pc' : Nat) : dlR k a b (dlC pc 87) (dlC pc' 87) := by
  have e : ∀ pc, dlC pc 87 = (pure (.pop) : dlRd Jvm.ClassFile.Instr) := fun _ => rfl
  rw [e, e]
  exact dl_pure _
theorem dlo_88 {k : Nat} {a b : ByteArray} (hS : dlS k a b) (pc pc' : Nat) : dlR k a b (dlC pc 88) (dlC pc' 88) := by
  have e : ∀ pc, dlC pc 88 = (pure (.pop2) : dlRd Jvm.ClassFile.Instr) := fun _ => rfl
  rw [e, e]
  exact dl_pure _
theorem dlo_89 {k : Nat} {a b : ByteArray} (hS : dlS k a b) (pc pc' : Nat) : dlR k a b (dlC pc 89) (dlC pc' 89) := by
  have e : ∀ pc, dlC pc 89 = (pure (.dup) : dlRd Jvm.ClassFile.Instr) := fun _ => rfl
  rw [e, e]
  exact dl_pure _
theorem dlo_96 {k : Nat} {a b : ByteArray} (hS : dlS k a b) (pc pc' : Nat) : dlR k a b (dlC pc 96) (dlC pc' 96) := by
  have e : ∀ pc, dlC pc 96 = (pure (.iadd) : dlRd Jvm.ClassFile.Instr) := fun _ => rfl
  rw [e, e]
  exact dl_pure _
theorem dlo_100 {k : Nat} {a b : ByteArray} (hS : dlS k a b) (pc pc' : Nat) : dlR k a b (dlC pc 100) (dlC pc' 100) := by
  have e : ∀ pc, dlC pc 100 = (pure (.isub) : dlRd Jvm.ClassFile.Instr) := fun _ => rfl
  rw [e, e]
  exact dl_pure _
theorem dlo_126 {k : Nat} {a b : ByteArray} (hS : dlS k a b) (pc pc' : Nat) : dlR k a b (dlC pc 126) (dlC pc' 126) := by
  have e : ∀ pc, dlC pc 126 = (pure (.iand) : dlRd Jvm.ClassFile.Instr) := fun _ => rfl
  rw [e, e]
  exact dl_pure _
theorem dlo_132 {k : Nat} {a b : ByteArray} (hS : dlS k a b) (pc pc' : Nat) : dlR k a b (dlC pc 132) (dlC pc' 132) := by
  have e : ∀ pc, dlC pc 132 = ((Jvm.ClassFile.Reader.u1 >>= fun n => Jvm.ClassFile.Reader.s1 >>= fun d => pure (.iinc n d)) : dlRd Jvm.ClassFile.Instr) := fun _ => rfl
  rw [e, e]
  exact dl_bind (dl_u1 hS) (fun _ => dl_bind (dl_s1 hS) (fun _ => dl_pure _))
theorem dlo_133 {k : Nat} {a b : ByteArray} (hS : dlS k a b) (pc pc' : Nat) : dlR k a b (dlC pc 133) (dlC pc' 133) := by
  have e : ∀ pc, dlC pc 133 = (pure (.i2l) : dlRd Jvm.ClassFile.Instr) := fun _ => rfl
  rw [e, e]
  exact dl_pure _
theorem dlo_148 {k : Nat} {a b : ByteArray} (hS : dlS k a b) (pc pc' : Nat) : dlR k a b (dlC pc 148) (dlC pc' 148) := by
  have e : ∀ pc, dlC pc 148 = (pure (.lcmp) : dlRd Jvm.ClassFile.Instr) := fun _ => rfl
  rw [e, e]
  exact dl_pure _
theorem dlo_153 {k : Nat} {a b : ByteArray} (hS : dlS k a b) (pc pc' : Nat) : dlR k a b (dlC pc 153) (dlC pc' 153) := by
  have e : ∀ pc, dlC pc 153 = ((Jvm.ClassFile.Reader.s2 >>= fun n => pure (.ifCond .eq n)) : dlRd Jvm.ClassFile.Instr) := fun _ => rfl
  rw [e, e]
  exact dl_bind (dl_s2 hS) (fun _ => dl_pure _)
theorem dlo_154 {k : Nat} {a b : ByteArray} (hS : dlS k a b) (pc pc' : Nat) : dlR k a b (dlC pc 154) (dlC pc' 154) := by
  have e : ∀ pc, dlC pc 154 = ((Jvm.ClassFile.Reader.s2 >>= fun n => pure (.ifCond .ne n)) : dlRd Jvm.ClassFile.Instr) := fun _ => rfl
  rw [e, e]
  exact dl_bind (dl_s2 hS) (fun _ => dl_pure _)
theorem dlo_159 {k : Nat} {a b : ByteArray} (hS : dlS k a b) (pc pc' : Nat) : dlR k a b (dlC pc 159) (dlC pc' 159) := by
  have e : ∀ pc, dlC pc 159 = ((Jvm.ClassFile.Reader.s2 >>= fun n => pure (.if_icmp .eq n)) : dlRd Jvm.ClassFile.Instr) := fun _ => rfl
  rw [e, e]
  exact dl_bind (dl_s2 hS) (fun _ => dl_pure _)
theorem dlo_163 {k : Nat} {a b : ByteArray} (hS : dlS k a b) (pc pc' : Nat) : dlR k a b (dlC pc 163) (dlC pc' 163) := by
  have e : ∀ pc, dlC pc 163 = ((Jvm.ClassFile.Reader.s2 >>= fun n => pure (.if_icmp .gt n)) : dlRd Jvm.ClassFile.Instr) := fun _ => rfl
  rw [e, e]
  exact dl_bind (dl_s2 hS) (fun _ => dl_pure _)
theorem dlo_167 {k : Nat} {a b : ByteArray} (hS : dlS k a b) (pc pc' : Nat) : dlR k a b (dlC pc 167) (dlC pc' 167) := by
  have e : ∀ pc, dlC pc 167 = ((Jvm.ClassFile.Reader.s2 >>= fun n => pure (.goto n)) : dlRd Jvm.ClassFile.Instr) := fun _ => rfl
  rw [e, e]
  exact dl_bind (dl_s2 hS) (fun _ => dl_pure _)
theorem dlo_172 {k : Nat} {a b : ByteArray} (hS : dlS k a b) (pc pc' : Nat) : dlR k a b (dlC pc 172) (dlC pc' 172) := by
  have e : ∀ pc, dlC pc 172 = (pure (.ireturn) : dlRd Jvm.ClassFile.Instr) := fun _ => rfl
  rw [e, e]
  exact dl_pure _
theorem dlo_180 {k : Nat} {a b : ByteArray} (hS : dlS k a b) (pc pc' : Nat) : dlR k a b (dlC pc 180) (dlC pc' 180) := by
  have e : ∀ pc, dlC pc 180 = ((Jvm.ClassFile.Reader.u2 >>= fun n => pure (.getfield n)) : dlRd Jvm.ClassFile.Instr) := fun _ => rfl
  rw [e, e]
  exact dl_bind (dl_u2 hS) (fun _ => dl_pure _)
theorem dlo_182 {k : Nat} {a b : ByteArray} (hS : dlS k a b) (pc pc' : Nat) : dlR k a b (dlC pc 182) (dlC pc' 182) := by
  have e : ∀ pc, dlC pc 182 = ((Jvm.ClassFile.Reader.u2 >>= fun n => pure (.invokevirtual n)) : dlRd Jvm.ClassFile.Instr) := fun _ => rfl
  rw [e, e]
  exact dl_bind (dl_u2 hS) (fun _ => dl_pure _)
theorem dlo_183 {k : Nat} {a b : ByteArray} (hS : dlS k a b) (pc pc' : Nat) : dlR k a b (dlC pc 183) (dlC pc' 183) := by
  have e : ∀ pc, dlC pc 183 = ((Jvm.ClassFile.Reader.u2 >>= fun n => pure (.invokespecial n)) : dlRd Jvm.ClassFile.Instr) := fun _ => rfl
  rw [e, e]
  exact dl_bind (dl_u2 hS) (fun _ => dl_pure _)
theorem dlo_184 {k : Nat} {a b : ByteArray} (hS : dlS k a b) (pc pc' : Nat) : dlR k a b (dlC pc 184) (dlC pc' 184) := by
  have e : ∀ pc, dlC pc 184 = ((Jvm.ClassFile.Reader.u2 >>= fun n => pure (.invokestatic n)) : dlRd Jvm.ClassFile.Instr) := fun _ => rfl
  rw [e, e]
  exact dl_bind (dl_u2 hS) (fun _ => dl_pure _)
theorem dlo_187 {k : Nat} {a b : ByteArray} (hS : dlS k a b) (pc pc' : Nat) : dlR k a b (dlC pc 187) (dlC pc' 187) := by
  have e : ∀ pc, dlC pc 187 = ((Jvm.ClassFile.Reader.u2 >>= fun n => pure (.new n)) : dlRd Jvm.ClassFile.Instr) := fun _ => rfl
  rw [e, e]
  exact dl_bind (dl_u2 hS) (fun _ => dl_pure _)
theorem dlo_190 {k : Nat} {a b : ByteArray} (hS : dlS k a b) (pc pc' : Nat) : dlR k a b (dlC pc 190) (dlC pc' 190) := by
  have e : ∀ pc, dlC pc 190 = (pure (.arraylength) : dlRd Jvm.ClassFile.Instr) := fun _ => rfl
  rw [e, e]
  exact dl_pure _
def dlO : List Nat := [3, 4, 5, 6, 7, 8, 16, 21, 42, 43, 44, 45, 46, 54, 58, 76, 77, 78, 87, 88, 89, 96, 100, 126, 132, 133, 148, 153, 154, 159, 163, 167, 172, 180, 182, 183, 184, 187, 190]
theorem dl_ops {k : Nat} {a b : ByteArray} (hS : dlS k a b) (pc pc' : Nat) : ∀ c ∈ dlO, dlR k a b (dlC pc c) (dlC pc' c) := by
  intro c hc
  simp only [dlO, List.mem_cons, List.not_mem_nil, or_false] at hc
  rcases hc with rfl | rfl | rfl | rfl | rfl | rfl | rfl | rfl | rfl | rfl | rfl | rfl | rfl | rfl | rfl | rfl | rfl | rfl | rfl | rfl | rfl | rfl | rfl | rfl | rfl | rfl | rfl | rfl | rfl | rfl | rfl | rfl | rfl | rfl | rfl | rfl | rfl | rfl | rfl
  · exact dlo_3 hS pc pc'
  · exact dlo_4 hS pc pc'
  · exact dlo_5 hS pc pc'
  · exact dlo_6 hS pc pc'
  · exact dlo_7 hS pc pc'
  · exact dlo_8 hS pc pc'
  · exact dlo_16 hS pc pc'
  · exact dlo_21 hS pc pc'
  · exact dlo_42 hS pc pc'
  · exact dlo_43 hS pc pc'
  · exact dlo_44 hS pc pc'
  · exact dlo_45 hS pc pc'
  · exact dlo_46 hS pc pc'
  · exact dlo_54 hS pc pc'
  · exact dlo_58 hS pc pc'
  · exact dlo_76 hS pc pc'
  · exact dlo_77 hS pc pc'
  · exact dlo_78 hS pc pc'
  · exact dlo_87 hS pc pc'
  · exact dlo_88 hS pc pc'
  · exact dlo_89 hS pc pc'
  · exact dlo_96 hS pc pc'
  · exact dlo_100 hS pc pc'
  · exact dlo_126 hS pc pc'
  · exact dlo_132 hS pc pc'
  · exact dlo_133 hS pc pc'
  · exact dlo_148 hS pc pc'
  · exact dlo_153 hS pc pc'
  · exact dlo_154 hS pc pc'
  · exact dlo_159 hS pc pc'
  · exact dlo_163 hS pc pc'
  · exact dlo_167 hS pc pc'
  · exact dlo_172 hS pc pc'
  · exact dlo_180 hS pc pc'
  · exact dlo_182 hS pc pc'
  · exact dlo_183 hS pc pc'
  · exact dlo_184 hS pc pc'
  · exact dlo_187 hS pc pc'
  · exact dlo_190 hS pc pc'
def dlop (b : ByteArray) (p : Nat) : Bool := if h : p < b.size then dlO.contains (b[p]'h).toNat else false
theorem dl_fin {k : Nat} {a b : ByteArray} (hS : dlS k a b) {p i n} (hh : decode b p = .ok (i, n) ∧ dlop b p = true) : decode a (k + p) = .ok (i, n) := by
  obtain ⟨h, ho⟩ := hh
  have e : ∀ z s, decode z s = Except.bind ((Jvm.ClassFile.Decoder.instr s).runAt z s) (fun v => .ok (v.1, v.2 - s)) := fun z s => rfl
  unfold dlop at ho
  by_cases hp : p < b.size
  · rw [dif_pos hp] at ho
    have ho' : (b[p]'hp).toNat ∈ dlO := by simpa using ho
    have hk : k + p < a.size := by have := hS.1; omega
    rw [e, dlC_eq, dl_run_bind, dl_run_u1, dif_pos hp] at h
    rw [e, dlC_eq, dl_run_bind, dl_run_u1, dif_pos hk, hS.2 p hp hk]
    have h2 : Except.bind ((dlC p (b[p]'hp).toNat).runAt b (p + 1)) (fun v => .ok (v.1, v.2 - p)) = .ok (i, n) := h
    show Except.bind ((dlC (k + p) (b[p]'hp).toNat).runAt a (k + (p + 1))) (fun v => .ok (v.1, v.2 - (k + p))) = .ok (i, n)
    cases hr : (dlC p (b[p]'hp).toNat).runAt b (p + 1) with
    | error e => rw [hr] at h2; cases h2
    | ok v =>
      obtain ⟨x, q⟩ := v
      rw [hr] at h2
      rw [dl_ops hS p (k + p) _ ho' (p + 1) x q hr]
      have h3 : (Except.ok (x, q - p) : Except Jvm.ClassFile.DecodeError (Jvm.ClassFile.Instr × Nat)) = .ok (i, n) := h2
      show (Except.ok (x, k + q - (k + p)) : Except Jvm.ClassFile.DecodeError (Jvm.ClassFile.Instr × Nat)) = .ok (i, n)
      rw [Nat.add_sub_add_left]; exact h3
  · rw [dif_neg hp] at ho; cases ho
def dlk (a : ByteArray) (k m : Nat) : ByteArray := ⟨((a.data.toList.drop k).take m).toArray⟩
theorem dl_S (a : ByteArray) (k m : Nat) (h : k ≤ a.size) : dlS k a (dlk a k m) := by
  cases a with | mk d => cases d with | mk l =>
  have h0 : k ≤ l.length := h
  refine ⟨?_, ?_⟩
  · show k + ((l.drop k).take m).length ≤ l.length
    rw [List.length_take, List.length_drop]; omega
  · intro j h1 h2
    have g1 : j < ((l.drop k).take m).length := h1
    have g2 : k + j < l.length := h2
    have g : l[k + j]'g2 = ((l.drop k).take m)[j]'g1 := by rw [List.getElem_take, List.getElem_drop]
    exact g
