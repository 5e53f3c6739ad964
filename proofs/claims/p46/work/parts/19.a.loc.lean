abbrev dlRd (α : Type) := Jvm.ClassFile.Reader Jvm.ClassFile.DecodeError α
def dlS (k : Nat) (a b : ByteArray) : Prop := k + b.size ≤ a.size ∧ ∀ (j : Nat) (h : j < b.size) (h' : k + j < a.size), a[k + j] = b[j]
def dlR {α : Type} (k : Nat) (a b : ByteArray) (r r' : dlRd α) : Prop := ∀ (p : Nat) (x : α) (q : Nat), r.runAt b p = .ok (x, q) → r'.runAt a (k + p) = .ok (x, k + q)
theorem dl_run_bind {α β : Type} (g : dlRd α) (c : α → dlRd β) (z : ByteArray) (s : Nat) : (g >>= c).runAt z s = Except.bind (g.runAt z s) (fun v => (c v.1).runAt z v.2) := rfl
theorem dl_pure {k : Nat} {a b : ByteArray} {α : Type} (x : α) : dlR k a b (pure x : dlRd α) (pure x) := by
  intro p y q h
  have h' : (Except.ok (x, p) : Except Jvm.ClassFile.DecodeError (α × Nat)) = .ok (y, q) := h
  cases h'; rfl
theorem dl_bind {k : Nat} {a b : ByteArray} {α β : Type} {r r' : dlRd α} {f f' : α → dlRd β} (h1 : dlR k a b r r') (h2 : ∀ x, dlR k a b (f x) (f' x)) : dlR k a b (r >>= f) (r' >>= f') := by
  intro p y q h
  rw [dl_run_bind] at h ⊢
  cases hr : r.runAt b p with
  | error e => rw [hr] at h; cases h
  | ok v =>
    obtain ⟨x, t⟩ := v
    rw [hr] at h
    rw [h1 p x t hr]
    exact h2 x t y q h
theorem dl_map {k : Nat} {a b : ByteArray} {α β : Type} {r r' : dlRd α} {f : α → β} (h1 : dlR k a b r r') : dlR k a b (f <$> r) (f <$> r') := by
  have e : ∀ (g : dlRd α) (z : ByteArray) (s : Nat), (f <$> g).runAt z s = Except.bind (g.runAt z s) (fun v => .ok (f v.1, v.2)) := fun _ _ _ => rfl
  intro p y q h
  rw [e] at h ⊢
  cases hr : r.runAt b p with
  | error e => rw [hr] at h; cases h
  | ok v =>
    obtain ⟨x, t⟩ := v
    rw [hr] at h
    rw [h1 p x t hr]
    have h' : (Except.ok (f x, t) : Except Jvm.ClassFile.DecodeError (β × Nat)) = .ok (y, q) := h
    cases h'; rfl
theorem dl_run_u1 (z : ByteArray) (s : Nat) : (Jvm.ClassFile.Reader.u1 : dlRd Nat).runAt z s = if h : s < z.size then .ok ((z[s]'h).toNat, s + 1) else .error (.truncated s) := by
  have e : (Jvm.ClassFile.Reader.u1 : dlRd Nat).runAt z s = (dite (s < z.size) (fun h => (do set (s + 1); pure (z[s]'h).toNat : dlRd Nat)) (fun _ => throw (.truncated s))).runAt z s := rfl
  rw [e]
  by_cases h : s < z.size
  · rw [dif_pos h, dif_pos h]; rfl
  · rw [dif_neg h, dif_neg h]; rfl
theorem dl_u1 {k : Nat} {a b : ByteArray} (hS : dlS k a b) : dlR k a b (Jvm.ClassFile.Reader.u1 : dlRd Nat) Jvm.ClassFile.Reader.u1 := by
  intro p x q h
  rw [dl_run_u1] at h ⊢
  by_cases hp : p < b.size
  · rw [dif_pos hp] at h
    have hk : k + p < a.size := by have := hS.1; omega
    rw [dif_pos hk, hS.2 p hp hk]
    cases h; rfl
  · rw [dif_neg hp] at h; cases h
theorem dl_u2 {k : Nat} {a b : ByteArray} (hS : dlS k a b) : dlR k a b (Jvm.ClassFile.Reader.u2 : dlRd Nat) Jvm.ClassFile.Reader.u2 :=
  show dlR k a b (Jvm.ClassFile.Reader.u1 >>= fun hi => Jvm.ClassFile.Reader.u1 >>= fun lo => pure (hi * 256 + lo)) (Jvm.ClassFile.Reader.u1 >>= fun hi => Jvm.ClassFile.Reader.u1 >>= fun lo => pure (hi * 256 + lo)) from
  dl_bind (dl_u1 hS) (fun _ => dl_bind (dl_u1 hS) (fun _ => dl_pure _))
theorem dl_s1 {k : Nat} {a b : ByteArray} (hS : dlS k a b) : dlR k a b (Jvm.ClassFile.Reader.s1 : dlRd Int) Jvm.ClassFile.Reader.s1 :=
  show dlR k a b (Jvm.ClassFile.Reader.signed 8 <$> Jvm.ClassFile.Reader.u1) (Jvm.ClassFile.Reader.signed 8 <$> Jvm.ClassFile.Reader.u1) from dl_map (dl_u1 hS)
theorem dl_s2 {k : Nat} {a b : ByteArray} (hS : dlS k a b) : dlR k a b (Jvm.ClassFile.Reader.s2 : dlRd Int) Jvm.ClassFile.Reader.s2 :=
  show dlR k a b (Jvm.ClassFile.Reader.signed 16 <$> Jvm.ClassFile.Reader.u2) (Jvm.ClassFile.Reader.signed 16 <$> Jvm.ClassFile.Reader.u2) from dl_map (dl_u2 hS)
def dlX (pc : Nat) : { f : Nat → dlRd Jvm.ClassFile.Instr // Jvm.ClassFile.Decoder.instr pc = (Jvm.ClassFile.Reader.u1 >>= f) } := ⟨_, rfl⟩
def dlC (pc : Nat) : Nat → dlRd Jvm.ClassFile.Instr := (dlX pc).1
theorem dlC_eq (pc : Nat) : Jvm.ClassFile.Decoder.instr pc = (Jvm.ClassFile.Reader.u1 >>= dlC pc) := (dlX pc).2
def fdN (k c : Nat) (x y : dlRd Jvm.ClassFile.Instr) : dlRd Jvm.ClassFile.Instr := if Nat.blt c k = true then x else y
def fdL (k c : Nat) (x : dlRd Jvm.ClassFile.Instr) : dlRd Jvm.ClassFile.Instr := if Nat.beq c k = true then x else throw (.truncated 0)
def fdP (c : Nat) (x : dlRd Jvm.ClassFile.Instr) : Prop := ∀ (pc : Nat) (b : ByteArray) (s : Nat) (v : Jvm.ClassFile.Instr × Nat), x.runAt b s = .ok v → (dlC pc c).runAt b s = .ok v
theorem fdP_N {k c : Nat} {x y : dlRd Jvm.ClassFile.Instr} (hx : fdP c x) (hy : fdP c y) : fdP c (fdN k c x y) := by
  unfold fdN; split
  · exact hx
  · exact hy
theorem fdP_L {k c : Nat} {x : dlRd Jvm.ClassFile.Instr} (hx : ∀ pc, dlC pc k = x) : fdP c (fdL k c x) := by
  intro pc b s v h
  unfold fdL at h
  split at h
  · rename_i hc
    rw [Nat.eq_of_beq_eq_true hc, hx pc]; exact h
  · cases (show (Except.error (.truncated 0) : Except Jvm.ClassFile.DecodeError (Jvm.ClassFile.Instr × Nat)) = .ok v from h)
theorem fdR_N {k0 : Nat} {a b : ByteArray} {k c : Nat} {x y : dlRd Jvm.ClassFile.Instr} (hx : dlR k0 a b x x) (hy : dlR k0 a b y y) : dlR k0 a b (fdN k c x y) (fdN k c x y) := by
  unfold fdN; split
  · exact hx
  · exact hy
theorem fdR_L {k0 : Nat} {a b : ByteArray} {k c : Nat} {x : dlRd Jvm.ClassFile.Instr} (hx : dlR k0 a b x x) : dlR k0 a b (fdL k c x) (fdL k c x) := by
  unfold fdL; split
  · exact hx
  · intro p y q h
    cases (show (Except.error (.truncated 0) : Except Jvm.ClassFile.DecodeError (Jvm.ClassFile.Instr × Nat)) = .ok (y, q) from h)
def fb_1 : dlRd Jvm.ClassFile.Instr := pure (.aconst_null)
theorem fc_1 : ∀ pc, dlC pc 1 = fb_1 := fun _ => rfl
theorem fr_1 {k : Nat} {a b : ByteArray} (hS : dlS k a b) : dlR k a b fb_1 fb_1 := dl_pure _
def fb_2 : dlRd Jvm.ClassFile.Instr := pure (.iconst (-1))
theorem fc_2 : ∀ pc, dlC pc 2 = fb_2 := fun _ => rfl
theorem fr_2 {k : Nat} {a b : ByteArray} (hS : dlS k a b) : dlR k a b fb_2 fb_2 := dl_pure _
def fb_3 : dlRd Jvm.ClassFile.Instr := pure (.iconst 0)
theorem fc_3 : ∀ pc, dlC pc 3 = fb_3 := fun _ => rfl
theorem fr_3 {k : Nat} {a b : ByteArray} (hS : dlS k a b) : dlR k a b fb_3 fb_3 := dl_pure _
def fb_4 : dlRd Jvm.ClassFile.Instr := pure (.iconst 1)
theorem fc_4 : ∀ pc, dlC pc 4 = fb_4 := fun _ => rfl
theorem fr_4 {k : Nat} {a b : ByteArray} (hS : dlS k a b) : dlR k a b fb_4 fb_4 := dl_pure _
def fb_5 : dlRd Jvm.ClassFile.Instr := pure (.iconst 2)
theorem fc_5 : ∀ pc, dlC pc 5 = fb_5 := fun _ => rfl
theorem fr_5 {k : Nat} {a b : ByteArray} (hS : dlS k a b) : dlR k a b fb_5 fb_5 := dl_pure _
def fb_6 : dlRd Jvm.ClassFile.Instr := pure (.iconst 3)
theorem fc_6 : ∀ pc, dlC pc 6 = fb_6 := fun _ => rfl
theorem fr_6 {k : Nat} {a b : ByteArray} (hS : dlS k a b) : dlR k a b fb_6 fb_6 := dl_pure _
def fb_7 : dlRd Jvm.ClassFile.Instr := pure (.iconst 4)
theorem fc_7 : ∀ pc, dlC pc 7 = fb_7 := fun _ => rfl
theorem fr_7 {k : Nat} {a b : ByteArray} (hS : dlS k a b) : dlR k a b fb_7 fb_7 := dl_pure _
def fb_8 : dlRd Jvm.ClassFile.Instr := pure (.iconst 5)
theorem fc_8 : ∀ pc, dlC pc 8 = fb_8 := fun _ => rfl
theorem fr_8 {k : Nat} {a b : ByteArray} (hS : dlS k a b) : dlR k a b fb_8 fb_8 := dl_pure _
def fb_9 : dlRd Jvm.ClassFile.Instr := pure (.lconst 0)
theorem fc_9 : ∀ pc, dlC pc 9 = fb_9 := fun _ => rfl
theorem fr_9 {k : Nat} {a b : ByteArray} (hS : dlS k a b) : dlR k a b fb_9 fb_9 := dl_pure _
def fb_10 : dlRd Jvm.ClassFile.Instr := pure (.lconst 1)
theorem fc_10 : ∀ pc, dlC pc 10 = fb_10 := fun _ => rfl
theorem fr_10 {k : Nat} {a b : ByteArray} (hS : dlS k a b) : dlR k a b fb_10 fb_10 := dl_pure _
def fb_16 : dlRd Jvm.ClassFile.Instr := Jvm.ClassFile.Reader.s1 >>= fun n => pure (.bipush n)
theorem fc_16 : ∀ pc, dlC pc 16 = fb_16 := fun _ => rfl
theorem fr_16 {k : Nat} {a b : ByteArray} (hS : dlS k a b) : dlR k a b fb_16 fb_16 := dl_bind (dl_s1 hS) (fun _ => dl_pure _)
def fb_17 : dlRd Jvm.ClassFile.Instr := Jvm.ClassFile.Reader.s2 >>= fun n => pure (.sipush n)
theorem fc_17 : ∀ pc, dlC pc 17 = fb_17 := fun _ => rfl
theorem fr_17 {k : Nat} {a b : ByteArray} (hS : dlS k a b) : dlR k a b fb_17 fb_17 := dl_bind (dl_s2 hS) (fun _ => dl_pure _)
def fb_18 : dlRd Jvm.ClassFile.Instr := Jvm.ClassFile.Reader.u1 >>= fun n => pure (.ldc n)
theorem fc_18 : ∀ pc, dlC pc 18 = fb_18 := fun _ => rfl
theorem fr_18 {k : Nat} {a b : ByteArray} (hS : dlS k a b) : dlR k a b fb_18 fb_18 := dl_bind (dl_u1 hS) (fun _ => dl_pure _)
def fb_20 : dlRd Jvm.ClassFile.Instr := Jvm.ClassFile.Reader.u2 >>= fun n => pure (.ldc2_w n)
theorem fc_20 : ∀ pc, dlC pc 20 = fb_20 := fun _ => rfl
theorem fr_20 {k : Nat} {a b : ByteArray} (hS : dlS k a b) : dlR k a b fb_20 fb_20 := dl_bind (dl_u2 hS) (fun _ => dl_pure _)
def fb_21 : dlRd Jvm.ClassFile.Instr := Jvm.ClassFile.Reader.u1 >>= fun n => pure (.iload n)
theorem fc_21 : ∀ pc, dlC pc 21 = fb_21 := fun _ => rfl
theorem fr_21 {k : Nat} {a b : ByteArray} (hS : dlS k a b) : dlR k a b fb_21 fb_21 := dl_bind (dl_u1 hS) (fun _ => dl_pure _)
def fb_22 : dlRd Jvm.ClassFile.Instr := Jvm.ClassFile.Reader.u1 >>= fun n => pure (.lload n)
theorem fc_22 : ∀ pc, dlC pc 22 = fb_22 := fun _ => rfl
theorem fr_22 {k : Nat} {a b : ByteArray} (hS : dlS k a b) : dlR k a b fb_22 fb_22 := dl_bind (dl_u1 hS) (fun _ => dl_pure _)
def fb_25 : dlRd Jvm.ClassFile.Instr := Jvm.ClassFile.Reader.u1 >>= fun n => pure (.aload n)
theorem fc_25 : ∀ pc, dlC pc 25 = fb_25 := fun _ => rfl
theorem fr_25 {k : Nat} {a b : ByteArray} (hS : dlS k a b) : dlR k a b fb_25 fb_25 := dl_bind (dl_u1 hS) (fun _ => dl_pure _)
def fb_26 : dlRd Jvm.ClassFile.Instr := pure (.iload_n 0)
theorem fc_26 : ∀ pc, dlC pc 26 = fb_26 := fun _ => rfl
theorem fr_26 {k : Nat} {a b : ByteArray} (hS : dlS k a b) : dlR k a b fb_26 fb_26 := dl_pure _
def fb_27 : dlRd Jvm.ClassFile.Instr := pure (.iload_n 1)
theorem fc_27 : ∀ pc, dlC pc 27 = fb_27 := fun _ => rfl
theorem fr_27 {k : Nat} {a b : ByteArray} (hS : dlS k a b) : dlR k a b fb_27 fb_27 := dl_pure _
def fb_28 : dlRd Jvm.ClassFile.Instr := pure (.iload_n 2)
theorem fc_28 : ∀ pc, dlC pc 28 = fb_28 := fun _ => rfl
theorem fr_28 {k : Nat} {a b : ByteArray} (hS : dlS k a b) : dlR k a b fb_28 fb_28 := dl_pure _
def fb_29 : dlRd Jvm.ClassFile.Instr := pure (.iload_n 3)
theorem fc_29 : ∀ pc, dlC pc 29 = fb_29 := fun _ => rfl
theorem fr_29 {k : Nat} {a b : ByteArray} (hS : dlS k a b) : dlR k a b fb_29 fb_29 := dl_pure _
def fb_30 : dlRd Jvm.ClassFile.Instr := pure (.lload_n 0)
theorem fc_30 : ∀ pc, dlC pc 30 = fb_30 := fun _ => rfl
theorem fr_30 {k : Nat} {a b : ByteArray} (hS : dlS k a b) : dlR k a b fb_30 fb_30 := dl_pure _
def fb_31 : dlRd Jvm.ClassFile.Instr := pure (.lload_n 1)
theorem fc_31 : ∀ pc, dlC pc 31 = fb_31 := fun _ => rfl
theorem fr_31 {k : Nat} {a b : ByteArray} (hS : dlS k a b) : dlR k a b fb_31 fb_31 := dl_pure _
def fb_32 : dlRd Jvm.ClassFile.Instr := pure (.lload_n 2)
theorem fc_32 : ∀ pc, dlC pc 32 = fb_32 := fun _ => rfl
theorem fr_32 {k : Nat} {a b : ByteArray} (hS : dlS k a b) : dlR k a b fb_32 fb_32 := dl_pure _
def fb_42 : dlRd Jvm.ClassFile.Instr := pure (.aload_n 0)
theorem fc_42 : ∀ pc, dlC pc 42 = fb_42 := fun _ => rfl
theorem fr_42 {k : Nat} {a b : ByteArray} (hS : dlS k a b) : dlR k a b fb_42 fb_42 := dl_pure _
def fb_43 : dlRd Jvm.ClassFile.Instr := pure (.aload_n 1)
theorem fc_43 : ∀ pc, dlC pc 43 = fb_43 := fun _ => rfl
theorem fr_43 {k : Nat} {a b : ByteArray} (hS : dlS k a b) : dlR k a b fb_43 fb_43 := dl_pure _
def fb_44 : dlRd Jvm.ClassFile.Instr := pure (.aload_n 2)
theorem fc_44 : ∀ pc, dlC pc 44 = fb_44 := fun _ => rfl
theorem fr_44 {k : Nat} {a b : ByteArray} (hS : dlS k a b) : dlR k a b fb_44 fb_44 := dl_pure _
def fb_45 : dlRd Jvm.ClassFile.Instr := pure (.aload_n 3)
theorem fc_45 : ∀ pc, dlC pc 45 = fb_45 := fun _ => rfl
theorem fr_45 {k : Nat} {a b : ByteArray} (hS : dlS k a b) : dlR k a b fb_45 fb_45 := dl_pure _
def fb_46 : dlRd Jvm.ClassFile.Instr := pure (.iaload)
theorem fc_46 : ∀ pc, dlC pc 46 = fb_46 := fun _ => rfl
theorem fr_46 {k : Nat} {a b : ByteArray} (hS : dlS k a b) : dlR k a b fb_46 fb_46 := dl_pure _
def fb_50 : dlRd Jvm.ClassFile.Instr := pure (.aaload)
theorem fc_50 : ∀ pc, dlC pc 50 = fb_50 := fun _ => rfl
theorem fr_50 {k : Nat} {a b : ByteArray} (hS : dlS k a b) : dlR k a b fb_50 fb_50 := dl_pure _
def fb_51 : dlRd Jvm.ClassFile.Instr := pure (.baload)
theorem fc_51 : ∀ pc, dlC pc 51 = fb_51 := fun _ => rfl
theorem fr_51 {k : Nat} {a b : ByteArray} (hS : dlS k a b) : dlR k a b fb_51 fb_51 := dl_pure _
def fb_54 : dlRd Jvm.ClassFile.Instr := Jvm.ClassFile.Reader.u1 >>= fun n => pure (.istore n)
theorem fc_54 : ∀ pc, dlC pc 54 = fb_54 := fun _ => rfl
theorem fr_54 {k : Nat} {a b : ByteArray} (hS : dlS k a b) : dlR k a b fb_54 fb_54 := dl_bind (dl_u1 hS) (fun _ => dl_pure _)
def fb_55 : dlRd Jvm.ClassFile.Instr := Jvm.ClassFile.Reader.u1 >>= fun n => pure (.lstore n)
theorem fc_55 : ∀ pc, dlC pc 55 = fb_55 := fun _ => rfl
theorem fr_55 {k : Nat} {a b : ByteArray} (hS : dlS k a b) : dlR k a b fb_55 fb_55 := dl_bind (dl_u1 hS) (fun _ => dl_pure _)
def fb_58 : dlRd Jvm.ClassFile.Instr := Jvm.ClassFile.Reader.u1 >>= fun n => pure (.astore n)
theorem fc_58 : ∀ pc, dlC pc 58 = fb_58 := fun _ => rfl
theorem fr_58 {k : Nat} {a b : ByteArray} (hS : dlS k a b) : dlR k a b fb_58 fb_58 := dl_bind (dl_u1 hS) (fun _ => dl_pure _)
def fb_59 : dlRd Jvm.ClassFile.Instr := pure (.istore_n 0)
theorem fc_59 : ∀ pc, dlC pc 59 = fb_59 := fun _ => rfl
theorem fr_59 {k : Nat} {a b : ByteArray} (hS : dlS k a b) : dlR k a b fb_59 fb_59 := dl_pure _
def fb_60 : dlRd Jvm.ClassFile.Instr := pure (.istore_n 1)
theorem fc_60 : ∀ pc, dlC pc 60 = fb_60 := fun _ => rfl
theorem fr_60 {k : Nat} {a b : ByteArray} (hS : dlS k a b) : dlR k a b fb_60 fb_60 := dl_pure _
def fb_61 : dlRd Jvm.ClassFile.Instr := pure (.istore_n 2)
theorem fc_61 : ∀ pc, dlC pc 61 = fb_61 := fun _ => rfl
theorem fr_61 {k : Nat} {a b : ByteArray} (hS : dlS k a b) : dlR k a b fb_61 fb_61 := dl_pure _
def fb_62 : dlRd Jvm.ClassFile.Instr := pure (.istore_n 3)
theorem fc_62 : ∀ pc, dlC pc 62 = fb_62 := fun _ => rfl
theorem fr_62 {k : Nat} {a b : ByteArray} (hS : dlS k a b) : dlR k a b fb_62 fb_62 := dl_pure _
def fb_64 : dlRd Jvm.ClassFile.Instr := pure (.lstore_n 1)
theorem fc_64 : ∀ pc, dlC pc 64 = fb_64 := fun _ => rfl
theorem fr_64 {k : Nat} {a b : ByteArray} (hS : dlS k a b) : dlR k a b fb_64 fb_64 := dl_pure _
def fb_76 : dlRd Jvm.ClassFile.Instr := pure (.astore_n 1)
theorem fc_76 : ∀ pc, dlC pc 76 = fb_76 := fun _ => rfl
theorem fr_76 {k : Nat} {a b : ByteArray} (hS : dlS k a b) : dlR k a b fb_76 fb_76 := dl_pure _
def fb_77 : dlRd Jvm.ClassFile.Instr := pure (.astore_n 2)
theorem fc_77 : ∀ pc, dlC pc 77 = fb_77 := fun _ => rfl
theorem fr_77 {k : Nat} {a b : ByteArray} (hS : dlS k a b) : dlR k a b fb_77 fb_77 := dl_pure _
def fb_78 : dlRd Jvm.ClassFile.Instr := pure (.astore_n 3)
theorem fc_78 : ∀ pc, dlC pc 78 = fb_78 := fun _ => rfl
theorem fr_78 {k : Nat} {a b : ByteArray} (hS : dlS k a b) : dlR k a b fb_78 fb_78 := dl_pure _
def fb_79 : dlRd Jvm.ClassFile.Instr := pure (.iastore)
theorem fc_79 : ∀ pc, dlC pc 79 = fb_79 := fun _ => rfl
theorem fr_79 {k : Nat} {a b : ByteArray} (hS : dlS k a b) : dlR k a b fb_79 fb_79 := dl_pure _
def fb_83 : dlRd Jvm.ClassFile.Instr := pure (.aastore)
theorem fc_83 : ∀ pc, dlC pc 83 = fb_83 := fun _ => rfl
theorem fr_83 {k : Nat} {a b : ByteArray} (hS : dlS k a b) : dlR k a b fb_83 fb_83 := dl_pure _
def fb_84 : dlRd Jvm.ClassFile.Instr := pure (.bastore)
theorem fc_84 : ∀ pc, dlC pc 84 = fb_84 := fun _ => rfl
theorem fr_84 {k : Nat} {a b : ByteArray} (hS : dlS k a b) : dlR k a b fb_84 fb_84 := dl_pure _
def fb_87 : dlRd Jvm.ClassFile.Instr := pure (.pop)
theorem fc_87 : ∀ pc, dlC pc 87 = fb_87 := fun _ => rfl
theorem fr_87 {k : Nat} {a b : ByteArray} (hS : dlS k a b) : dlR k a b fb_87 fb_87 := dl_pure _
def fb_89 : dlRd Jvm.ClassFile.Instr := pure (.dup)
theorem fc_89 : ∀ pc, dlC pc 89 = fb_89 := fun _ => rfl
theorem fr_89 {k : Nat} {a b : ByteArray} (hS : dlS k a b) : dlR k a b fb_89 fb_89 := dl_pure _
def fb_90 : dlRd Jvm.ClassFile.Instr := pure (.dup_x1)
theorem fc_90 : ∀ pc, dlC pc 90 = fb_90 := fun _ => rfl
theorem fr_90 {k : Nat} {a b : ByteArray} (hS : dlS k a b) : dlR k a b fb_90 fb_90 := dl_pure _
def fb_96 : dlRd Jvm.ClassFile.Instr := pure (.iadd)
theorem fc_96 : ∀ pc, dlC pc 96 = fb_96 := fun _ => rfl
theorem fr_96 {k : Nat} {a b : ByteArray} (hS : dlS k a b) : dlR k a b fb_96 fb_96 := dl_pure _
def fb_97 : dlRd Jvm.ClassFile.Instr := pure (.ladd)
theorem fc_97 : ∀ pc, dlC pc 97 = fb_97 := fun _ => rfl
theorem fr_97 {k : Nat} {a b : ByteArray} (hS : dlS k a b) : dlR k a b fb_97 fb_97 := dl_pure _
def fb_100 : dlRd Jvm.ClassFile.Instr := pure (.isub)
theorem fc_100 : ∀ pc, dlC pc 100 = fb_100 := fun _ => rfl
theorem fr_100 {k : Nat} {a b : ByteArray} (hS : dlS k a b) : dlR k a b fb_100 fb_100 := dl_pure _
def fb_104 : dlRd Jvm.ClassFile.Instr := pure (.imul)
theorem fc_104 : ∀ pc, dlC pc 104 = fb_104 := fun _ => rfl
theorem fr_104 {k : Nat} {a b : ByteArray} (hS : dlS k a b) : dlR k a b fb_104 fb_104 := dl_pure _
def fb_105 : dlRd Jvm.ClassFile.Instr := pure (.lmul)
theorem fc_105 : ∀ pc, dlC pc 105 = fb_105 := fun _ => rfl
theorem fr_105 {k : Nat} {a b : ByteArray} (hS : dlS k a b) : dlR k a b fb_105 fb_105 := dl_pure _
def fb_108 : dlRd Jvm.ClassFile.Instr := pure (.idiv)
theorem fc_108 : ∀ pc, dlC pc 108 = fb_108 := fun _ => rfl
theorem fr_108 {k : Nat} {a b : ByteArray} (hS : dlS k a b) : dlR k a b fb_108 fb_108 := dl_pure _
def fb_112 : dlRd Jvm.ClassFile.Instr := pure (.irem)
theorem fc_112 : ∀ pc, dlC pc 112 = fb_112 := fun _ => rfl
theorem fr_112 {k : Nat} {a b : ByteArray} (hS : dlS k a b) : dlR k a b fb_112 fb_112 := dl_pure _
def fb_116 : dlRd Jvm.ClassFile.Instr := pure (.ineg)
theorem fc_116 : ∀ pc, dlC pc 116 = fb_116 := fun _ => rfl
theorem fr_116 {k : Nat} {a b : ByteArray} (hS : dlS k a b) : dlR k a b fb_116 fb_116 := dl_pure _
def fb_120 : dlRd Jvm.ClassFile.Instr := pure (.ishl)
theorem fc_120 : ∀ pc, dlC pc 120 = fb_120 := fun _ => rfl
theorem fr_120 {k : Nat} {a b : ByteArray} (hS : dlS k a b) : dlR k a b fb_120 fb_120 := dl_pure _
def fb_122 : dlRd Jvm.ClassFile.Instr := pure (.ishr)
theorem fc_122 : ∀ pc, dlC pc 122 = fb_122 := fun _ => rfl
theorem fr_122 {k : Nat} {a b : ByteArray} (hS : dlS k a b) : dlR k a b fb_122 fb_122 := dl_pure _
def fb_126 : dlRd Jvm.ClassFile.Instr := pure (.iand)
theorem fc_126 : ∀ pc, dlC pc 126 = fb_126 := fun _ => rfl
theorem fr_126 {k : Nat} {a b : ByteArray} (hS : dlS k a b) : dlR k a b fb_126 fb_126 := dl_pure _
def fb_128 : dlRd Jvm.ClassFile.Instr := pure (.ior)
theorem fc_128 : ∀ pc, dlC pc 128 = fb_128 := fun _ => rfl
theorem fr_128 {k : Nat} {a b : ByteArray} (hS : dlS k a b) : dlR k a b fb_128 fb_128 := dl_pure _
def fb_130 : dlRd Jvm.ClassFile.Instr := pure (.ixor)
theorem fc_130 : ∀ pc, dlC pc 130 = fb_130 := fun _ => rfl
theorem fr_130 {k : Nat} {a b : ByteArray} (hS : dlS k a b) : dlR k a b fb_130 fb_130 := dl_pure _
def fb_132 : dlRd Jvm.ClassFile.Instr := Jvm.ClassFile.Reader.u1 >>= fun n => Jvm.ClassFile.Reader.s1 >>= fun d => pure (.iinc n d)
theorem fc_132 : ∀ pc, dlC pc 132 = fb_132 := fun _ => rfl
theorem fr_132 {k : Nat} {a b : ByteArray} (hS : dlS k a b) : dlR k a b fb_132 fb_132 := dl_bind (dl_u1 hS) (fun _ => dl_bind (dl_s1 hS) (fun _ => dl_pure _))
def fb_133 : dlRd Jvm.ClassFile.Instr := pure (.i2l)
theorem fc_133 : ∀ pc, dlC pc 133 = fb_133 := fun _ => rfl
theorem fr_133 {k : Nat} {a b : ByteArray} (hS : dlS k a b) : dlR k a b fb_133 fb_133 := dl_pure _
def fb_145 : dlRd Jvm.ClassFile.Instr := pure (.i2b)
theorem fc_145 : ∀ pc, dlC pc 145 = fb_145 := fun _ => rfl
theorem fr_145 {k : Nat} {a b : ByteArray} (hS : dlS k a b) : dlR k a b fb_145 fb_145 := dl_pure _
def fb_148 : dlRd Jvm.ClassFile.Instr := pure (.lcmp)
theorem fc_148 : ∀ pc, dlC pc 148 = fb_148 := fun _ => rfl
theorem fr_148 {k : Nat} {a b : ByteArray} (hS : dlS k a b) : dlR k a b fb_148 fb_148 := dl_pure _
def fb_153 : dlRd Jvm.ClassFile.Instr := Jvm.ClassFile.Reader.s2 >>= fun n => pure (.ifCond .eq n)
theorem fc_153 : ∀ pc, dlC pc 153 = fb_153 := fun _ => rfl
theorem fr_153 {k : Nat} {a b : ByteArray} (hS : dlS k a b) : dlR k a b fb_153 fb_153 := dl_bind (dl_s2 hS) (fun _ => dl_pure _)
def fb_154 : dlRd Jvm.ClassFile.Instr := Jvm.ClassFile.Reader.s2 >>= fun n => pure (.ifCond .ne n)
theorem fc_154 : ∀ pc, dlC pc 154 = fb_154 := fun _ => rfl
theorem fr_154 {k : Nat} {a b : ByteArray} (hS : dlS k a b) : dlR k a b fb_154 fb_154 := dl_bind (dl_s2 hS) (fun _ => dl_pure _)
def fb_155 : dlRd Jvm.ClassFile.Instr := Jvm.ClassFile.Reader.s2 >>= fun n => pure (.ifCond .lt n)
theorem fc_155 : ∀ pc, dlC pc 155 = fb_155 := fun _ => rfl
theorem fr_155 {k : Nat} {a b : ByteArray} (hS : dlS k a b) : dlR k a b fb_155 fb_155 := dl_bind (dl_s2 hS) (fun _ => dl_pure _)
def fb_156 : dlRd Jvm.ClassFile.Instr := Jvm.ClassFile.Reader.s2 >>= fun n => pure (.ifCond .ge n)
theorem fc_156 : ∀ pc, dlC pc 156 = fb_156 := fun _ => rfl
theorem fr_156 {k : Nat} {a b : ByteArray} (hS : dlS k a b) : dlR k a b fb_156 fb_156 := dl_bind (dl_s2 hS) (fun _ => dl_pure _)
def fb_157 : dlRd Jvm.ClassFile.Instr := Jvm.ClassFile.Reader.s2 >>= fun n => pure (.ifCond .gt n)
theorem fc_157 : ∀ pc, dlC pc 157 = fb_157 := fun _ => rfl
theorem fr_157 {k : Nat} {a b : ByteArray} (hS : dlS k a b) : dlR k a b fb_157 fb_157 := dl_bind (dl_s2 hS) (fun _ => dl_pure _)
def fb_158 : dlRd Jvm.ClassFile.Instr := Jvm.ClassFile.Reader.s2 >>= fun n => pure (.ifCond .le n)
theorem fc_158 : ∀ pc, dlC pc 158 = fb_158 := fun _ => rfl
theorem fr_158 {k : Nat} {a b : ByteArray} (hS : dlS k a b) : dlR k a b fb_158 fb_158 := dl_bind (dl_s2 hS) (fun _ => dl_pure _)
def fb_159 : dlRd Jvm.ClassFile.Instr := Jvm.ClassFile.Reader.s2 >>= fun n => pure (.if_icmp .eq n)
theorem fc_159 : ∀ pc, dlC pc 159 = fb_159 := fun _ => rfl
theorem fr_159 {k : Nat} {a b : ByteArray} (hS : dlS k a b) : dlR k a b fb_159 fb_159 := dl_bind (dl_s2 hS) (fun _ => dl_pure _)
def fb_160 : dlRd Jvm.ClassFile.Instr := Jvm.ClassFile.Reader.s2 >>= fun n => pure (.if_icmp .ne n)
theorem fc_160 : ∀ pc, dlC pc 160 = fb_160 := fun _ => rfl
theorem fr_160 {k : Nat} {a b : ByteArray} (hS : dlS k a b) : dlR k a b fb_160 fb_160 := dl_bind (dl_s2 hS) (fun _ => dl_pure _)
def fb_161 : dlRd Jvm.ClassFile.Instr := Jvm.ClassFile.Reader.s2 >>= fun n => pure (.if_icmp .lt n)
theorem fc_161 : ∀ pc, dlC pc 161 = fb_161 := fun _ => rfl
theorem fr_161 {k : Nat} {a b : ByteArray} (hS : dlS k a b) : dlR k a b fb_161 fb_161 := dl_bind (dl_s2 hS) (fun _ => dl_pure _)
def fb_162 : dlRd Jvm.ClassFile.Instr := Jvm.ClassFile.Reader.s2 >>= fun n => pure (.if_icmp .ge n)
theorem fc_162 : ∀ pc, dlC pc 162 = fb_162 := fun _ => rfl
theorem fr_162 {k : Nat} {a b : ByteArray} (hS : dlS k a b) : dlR k a b fb_162 fb_162 := dl_bind (dl_s2 hS) (fun _ => dl_pure _)
def fb_163 : dlRd Jvm.ClassFile.Instr := Jvm.ClassFile.Reader.s2 >>= fun n => pure (.if_icmp .gt n)
theorem fc_163 : ∀ pc, dlC pc 163 = fb_163 := fun _ => rfl
theorem fr_163 {k : Nat} {a b : ByteArray} (hS : dlS k a b) : dlR k a b fb_163 fb_163 := dl_bind (dl_s2 hS) (fun _ => dl_pure _)
def fb_164 : dlRd Jvm.ClassFile.Instr := Jvm.ClassFile.Reader.s2 >>= fun n => pure (.if_icmp .le n)
theorem fc_164 : ∀ pc, dlC pc 164 = fb_164 := fun _ => rfl
theorem fr_164 {k : Nat} {a b : ByteArray} (hS : dlS k a b) : dlR k a b fb_164 fb_164 := dl_bind (dl_s2 hS) (fun _ => dl_pure _)
def fb_167 : dlRd Jvm.ClassFile.Instr := Jvm.ClassFile.Reader.s2 >>= fun n => pure (.goto n)
theorem fc_167 : ∀ pc, dlC pc 167 = fb_167 := fun _ => rfl
theorem fr_167 {k : Nat} {a b : ByteArray} (hS : dlS k a b) : dlR k a b fb_167 fb_167 := dl_bind (dl_s2 hS) (fun _ => dl_pure _)
def fb_172 : dlRd Jvm.ClassFile.Instr := pure (.ireturn)
theorem fc_172 : ∀ pc, dlC pc 172 = fb_172 := fun _ => rfl
theorem fr_172 {k : Nat} {a b : ByteArray} (hS : dlS k a b) : dlR k a b fb_172 fb_172 := dl_pure _
def fb_173 : dlRd Jvm.ClassFile.Instr := pure (.lreturn)
theorem fc_173 : ∀ pc, dlC pc 173 = fb_173 := fun _ => rfl
theorem fr_173 {k : Nat} {a b : ByteArray} (hS : dlS k a b) : dlR k a b fb_173 fb_173 := dl_pure _
def fb_176 : dlRd Jvm.ClassFile.Instr := pure (.areturn)
theorem fc_176 : ∀ pc, dlC pc 176 = fb_176 := fun _ => rfl
theorem fr_176 {k : Nat} {a b : ByteArray} (hS : dlS k a b) : dlR k a b fb_176 fb_176 := dl_pure _
def fb_177 : dlRd Jvm.ClassFile.Instr := pure (.return_)
theorem fc_177 : ∀ pc, dlC pc 177 = fb_177 := fun _ => rfl
theorem fr_177 {k : Nat} {a b : ByteArray} (hS : dlS k a b) : dlR k a b fb_177 fb_177 := dl_pure _
def fb_178 : dlRd Jvm.ClassFile.Instr := Jvm.ClassFile.Reader.u2 >>= fun n => pure (.getstatic n)
theorem fc_178 : ∀ pc, dlC pc 178 = fb_178 := fun _ => rfl
theorem fr_178 {k : Nat} {a b : ByteArray} (hS : dlS k a b) : dlR k a b fb_178 fb_178 := dl_bind (dl_u2 hS) (fun _ => dl_pure _)
def fb_180 : dlRd Jvm.ClassFile.Instr := Jvm.ClassFile.Reader.u2 >>= fun n => pure (.getfield n)
theorem fc_180 : ∀ pc, dlC pc 180 = fb_180 := fun _ => rfl
theorem fr_180 {k : Nat} {a b : ByteArray} (hS : dlS k a b) : dlR k a b fb_180 fb_180 := dl_bind (dl_u2 hS) (fun _ => dl_pure _)
def fb_181 : dlRd Jvm.ClassFile.Instr := Jvm.ClassFile.Reader.u2 >>= fun n => pure (.putfield n)
theorem fc_181 : ∀ pc, dlC pc 181 = fb_181 := fun _ => rfl
theorem fr_181 {k : Nat} {a b : ByteArray} (hS : dlS k a b) : dlR k a b fb_181 fb_181 := dl_bind (dl_u2 hS) (fun _ => dl_pure _)
def fb_182 : dlRd Jvm.ClassFile.Instr := Jvm.ClassFile.Reader.u2 >>= fun n => pure (.invokevirtual n)
theorem fc_182 : ∀ pc, dlC pc 182 = fb_182 := fun _ => rfl
theorem fr_182 {k : Nat} {a b : ByteArray} (hS : dlS k a b) : dlR k a b fb_182 fb_182 := dl_bind (dl_u2 hS) (fun _ => dl_pure _)
def fb_183 : dlRd Jvm.ClassFile.Instr := Jvm.ClassFile.Reader.u2 >>= fun n => pure (.invokespecial n)
theorem fc_183 : ∀ pc, dlC pc 183 = fb_183 := fun _ => rfl
theorem fr_183 {k : Nat} {a b : ByteArray} (hS : dlS k a b) : dlR k a b fb_183 fb_183 := dl_bind (dl_u2 hS) (fun _ => dl_pure _)
def fb_184 : dlRd Jvm.ClassFile.Instr := Jvm.ClassFile.Reader.u2 >>= fun n => pure (.invokestatic n)
theorem fc_184 : ∀ pc, dlC pc 184 = fb_184 := fun _ => rfl
theorem fr_184 {k : Nat} {a b : ByteArray} (hS : dlS k a b) : dlR k a b fb_184 fb_184 := dl_bind (dl_u2 hS) (fun _ => dl_pure _)
def fb_187 : dlRd Jvm.ClassFile.Instr := Jvm.ClassFile.Reader.u2 >>= fun n => pure (.new n)
theorem fc_187 : ∀ pc, dlC pc 187 = fb_187 := fun _ => rfl
theorem fr_187 {k : Nat} {a b : ByteArray} (hS : dlS k a b) : dlR k a b fb_187 fb_187 := dl_bind (dl_u2 hS) (fun _ => dl_pure _)
def fb_189 : dlRd Jvm.ClassFile.Instr := Jvm.ClassFile.Reader.u2 >>= fun n => pure (.anewarray n)
theorem fc_189 : ∀ pc, dlC pc 189 = fb_189 := fun _ => rfl
theorem fr_189 {k : Nat} {a b : ByteArray} (hS : dlS k a b) : dlR k a b fb_189 fb_189 := dl_bind (dl_u2 hS) (fun _ => dl_pure _)
def fb_190 : dlRd Jvm.ClassFile.Instr := pure (.arraylength)
theorem fc_190 : ∀ pc, dlC pc 190 = fb_190 := fun _ => rfl
theorem fr_190 {k : Nat} {a b : ByteArray} (hS : dlS k a b) : dlR k a b fb_190 fb_190 := dl_pure _
def fb_191 : dlRd Jvm.ClassFile.Instr := pure (.athrow)
theorem fc_191 : ∀ pc, dlC pc 191 = fb_191 := fun _ => rfl
theorem fr_191 {k : Nat} {a b : ByteArray} (hS : dlS k a b) : dlR k a b fb_191 fb_191 := dl_pure _
def fb_192 : dlRd Jvm.ClassFile.Instr := Jvm.ClassFile.Reader.u2 >>= fun n => pure (.checkcast n)
theorem fc_192 : ∀ pc, dlC pc 192 = fb_192 := fun _ => rfl
theorem fr_192 {k : Nat} {a b : ByteArray} (hS : dlS k a b) : dlR k a b fb_192 fb_192 := dl_bind (dl_u2 hS) (fun _ => dl_pure _)
def fb_198 : dlRd Jvm.ClassFile.Instr := Jvm.ClassFile.Reader.s2 >>= fun n => pure (.ifnull n)
theorem fc_198 : ∀ pc, dlC pc 198 = fb_198 := fun _ => rfl
theorem fr_198 {k : Nat} {a b : ByteArray} (hS : dlS k a b) : dlR k a b fb_198 fb_198 := dl_bind (dl_s2 hS) (fun _ => dl_pure _)
def fb_199 : dlRd Jvm.ClassFile.Instr := Jvm.ClassFile.Reader.s2 >>= fun n => pure (.ifnonnull n)
theorem fc_199 : ∀ pc, dlC pc 199 = fb_199 := fun _ => rfl
theorem fr_199 {k : Nat} {a b : ByteArray} (hS : dlS k a b) : dlR k a b fb_199 fb_199 := dl_bind (dl_s2 hS) (fun _ => dl_pure _)
def fdC (c : Nat) : dlRd Jvm.ClassFile.Instr := (fdN 90 c (fdN 32 c (fdN 17 c (fdN 6 c (fdN 3 c (fdN 2 c (fdL 1 c fb_1) (fdL 2 c fb_2)) (fdN 4 c (fdL 3 c fb_3) (fdN 5 c (fdL 4 c fb_4) (fdL 5 c fb_5)))) (fdN 9 c (fdN 7 c (fdL 6 c fb_6) (fdN 8 c (fdL 7 c fb_7) (fdL 8 c fb_8))) (fdN 10 c (fdL 9 c fb_9) (fdN 16 c (fdL 10 c fb_10) (fdL 16 c fb_16))))) (fdN 26 c (fdN 21 c (fdN 18 c (fdL 17 c fb_17) (fdN 20 c (fdL 18 c fb_18) (fdL 20 c fb_20))) (fdN 22 c (fdL 21 c fb_21) (fdN 25 c (fdL 22 c fb_22) (fdL 25 c fb_25)))) (fdN 29 c (fdN 27 c (fdL 26 c fb_26) (fdN 28 c (fdL 27 c fb_27) (fdL 28 c fb_28))) (fdN 30 c (fdL 29 c fb_29) (fdN 31 c (fdL 30 c fb_30) (fdL 31 c fb_31)))))) (fdN 60 c (fdN 50 c (fdN 44 c (fdN 42 c (fdL 32 c fb_32) (fdN 43 c (fdL 42 c fb_42) (fdL 43 c fb_43))) (fdN 45 c (fdL 44 c fb_44) (fdN 46 c (fdL 45 c fb_45) (fdL 46 c fb_46)))) (fdN 55 c (fdN 51 c (fdL 50 c fb_50) (fdN 54 c (fdL 51 c fb_51) (fdL 54 c fb_54))) (fdN 58 c (fdL 55 c fb_55) (fdN 59 c (fdL 58 c fb_58) (fdL 59 c fb_59))))) (fdN 78 c (fdN 64 c (fdN 61 c (fdL 60 c fb_60) (fdN 62 c (fdL 61 c fb_61) (fdL 62 c fb_62))) (fdN 76 c (fdL 64 c fb_64) (fdN 77 c (fdL 76 c fb_76) (fdL 77 c fb_77)))) (fdN 84 c (fdN 79 c (fdL 78 c fb_78) (fdN 83 c (fdL 79 c fb_79) (fdL 83 c fb_83))) (fdN 87 c (fdL 84 c fb_84) (fdN 89 c (fdL 87 c fb_87) (fdL 89 c fb_89))))))) (fdN 159 c (fdN 128 c (fdN 108 c (fdN 100 c (fdN 96 c (fdL 90 c fb_90) (fdN 97 c (fdL 96 c fb_96) (fdL 97 c fb_97))) (fdN 104 c (fdL 100 c fb_100) (fdN 105 c (fdL 104 c fb_104) (fdL 105 c fb_105)))) (fdN 120 c (fdN 112 c (fdL 108 c fb_108) (fdN 116 c (fdL 112 c fb_112) (fdL 116 c fb_116))) (fdN 122 c (fdL 120 c fb_120) (fdN 126 c (fdL 122 c fb_122) (fdL 126 c fb_126))))) (fdN 153 c (fdN 133 c (fdN 130 c (fdL 128 c fb_128) (fdN 132 c (fdL 130 c fb_130) (fdL 132 c fb_132))) (fdN 145 c (fdL 133 c fb_133) (fdN 148 c (fdL 145 c fb_145) (fdL 148 c fb_148)))) (fdN 156 c (fdN 154 c (fdL 153 c fb_153) (fdN 155 c (fdL 154 c fb_154) (fdL 155 c fb_155))) (fdN 157 c (fdL 156 c fb_156) (fdN 158 c (fdL 157 c fb_157) (fdL 158 c fb_158)))))) (fdN 180 c (fdN 167 c (fdN 162 c (fdN 160 c (fdL 159 c fb_159) (fdN 161 c (fdL 160 c fb_160) (fdL 161 c fb_161))) (fdN 163 c (fdL 162 c fb_162) (fdN 164 c (fdL 163 c fb_163) (fdL 164 c fb_164)))) (fdN 176 c (fdN 172 c (fdL 167 c fb_167) (fdN 173 c (fdL 172 c fb_172) (fdL 173 c fb_173))) (fdN 177 c (fdL 176 c fb_176) (fdN 178 c (fdL 177 c fb_177) (fdL 178 c fb_178))))) (fdN 189 c (fdN 183 c (fdN 181 c (fdL 180 c fb_180) (fdN 182 c (fdL 181 c fb_181) (fdL 182 c fb_182))) (fdN 184 c (fdL 183 c fb_183) (fdN 187 c (fdL 184 c fb_184) (fdL 187 c fb_187)))) (fdN 192 c (fdN 190 c (fdL 189 c fb_189) (fdN 191 c (fdL 190 c fb_190) (fdL 191 c fb_191))) (fdN 198 c (fdL 192 c fb_192) (fdN 199 c (fdL 198 c fb_198) (fdL 199 c fb_199))))))))
theorem fd_ok (c : Nat) : fdP c (fdC c) := (fdP_N (fdP_N (fdP_N (fdP_N (fdP_N (fdP_N (fdP_L fc_1) (fdP_L fc_2)) (fdP_N (fdP_L fc_3) (fdP_N (fdP_L fc_4) (fdP_L fc_5)))) (fdP_N (fdP_N (fdP_L fc_6) (fdP_N (fdP_L fc_7) (fdP_L fc_8))) (fdP_N (fdP_L fc_9) (fdP_N (fdP_L fc_10) (fdP_L fc_16))))) (fdP_N (fdP_N (fdP_N (fdP_L fc_17) (fdP_N (fdP_L fc_18) (fdP_L fc_20))) (fdP_N (fdP_L fc_21) (fdP_N (fdP_L fc_22) (fdP_L fc_25)))) (fdP_N (fdP_N (fdP_L fc_26) (fdP_N (fdP_L fc_27) (fdP_L fc_28))) (fdP_N (fdP_L fc_29) (fdP_N (fdP_L fc_30) (fdP_L fc_31)))))) (fdP_N (fdP_N (fdP_N (fdP_N (fdP_L fc_32) (fdP_N (fdP_L fc_42) (fdP_L fc_43))) (fdP_N (fdP_L fc_44) (fdP_N (fdP_L fc_45) (fdP_L fc_46)))) (fdP_N (fdP_N (fdP_L fc_50) (fdP_N (fdP_L fc_51) (fdP_L fc_54))) (fdP_N (fdP_L fc_55) (fdP_N (fdP_L fc_58) (fdP_L fc_59))))) (fdP_N (fdP_N (fdP_N (fdP_L fc_60) (fdP_N (fdP_L fc_61) (fdP_L fc_62))) (fdP_N (fdP_L fc_64) (fdP_N (fdP_L fc_76) (fdP_L fc_77)))) (fdP_N (fdP_N (fdP_L fc_78) (fdP_N (fdP_L fc_79) (fdP_L fc_83))) (fdP_N (fdP_L fc_84) (fdP_N (fdP_L fc_87) (fdP_L fc_89))))))) (fdP_N (fdP_N (fdP_N (fdP_N (fdP_N (fdP_L fc_90) (fdP_N (fdP_L fc_96) (fdP_L fc_97))) (fdP_N (fdP_L fc_100) (fdP_N (fdP_L fc_104) (fdP_L fc_105)))) (fdP_N (fdP_N (fdP_L fc_108) (fdP_N (fdP_L fc_112) (fdP_L fc_116))) (fdP_N (fdP_L fc_120) (fdP_N (fdP_L fc_122) (fdP_L fc_126))))) (fdP_N (fdP_N (fdP_N (fdP_L fc_128) (fdP_N (fdP_L fc_130) (fdP_L fc_132))) (fdP_N (fdP_L fc_133) (fdP_N (fdP_L fc_145) (fdP_L fc_148)))) (fdP_N (fdP_N (fdP_L fc_153) (fdP_N (fdP_L fc_154) (fdP_L fc_155))) (fdP_N (fdP_L fc_156) (fdP_N (fdP_L fc_157) (fdP_L fc_158)))))) (fdP_N (fdP_N (fdP_N (fdP_N (fdP_L fc_159) (fdP_N (fdP_L fc_160) (fdP_L fc_161))) (fdP_N (fdP_L fc_162) (fdP_N (fdP_L fc_163) (fdP_L fc_164)))) (fdP_N (fdP_N (fdP_L fc_167) (fdP_N (fdP_L fc_172) (fdP_L fc_173))) (fdP_N (fdP_L fc_176) (fdP_N (fdP_L fc_177) (fdP_L fc_178))))) (fdP_N (fdP_N (fdP_N (fdP_L fc_180) (fdP_N (fdP_L fc_181) (fdP_L fc_182))) (fdP_N (fdP_L fc_183) (fdP_N (fdP_L fc_184) (fdP_L fc_187)))) (fdP_N (fdP_N (fdP_L fc_189) (fdP_N (fdP_L fc_190) (fdP_L fc_191))) (fdP_N (fdP_L fc_192) (fdP_N (fdP_L fc_198) (fdP_L fc_199))))))))
theorem fd_shift {k : Nat} {a b : ByteArray} (hS : dlS k a b) (c : Nat) : dlR k a b (fdC c) (fdC c) := (fdR_N (fdR_N (fdR_N (fdR_N (fdR_N (fdR_N (fdR_L (fr_1 hS)) (fdR_L (fr_2 hS))) (fdR_N (fdR_L (fr_3 hS)) (fdR_N (fdR_L (fr_4 hS)) (fdR_L (fr_5 hS))))) (fdR_N (fdR_N (fdR_L (fr_6 hS)) (fdR_N (fdR_L (fr_7 hS)) (fdR_L (fr_8 hS)))) (fdR_N (fdR_L (fr_9 hS)) (fdR_N (fdR_L (fr_10 hS)) (fdR_L (fr_16 hS)))))) (fdR_N (fdR_N (fdR_N (fdR_L (fr_17 hS)) (fdR_N (fdR_L (fr_18 hS)) (fdR_L (fr_20 hS)))) (fdR_N (fdR_L (fr_21 hS)) (fdR_N (fdR_L (fr_22 hS)) (fdR_L (fr_25 hS))))) (fdR_N (fdR_N (fdR_L (fr_26 hS)) (fdR_N (fdR_L (fr_27 hS)) (fdR_L (fr_28 hS)))) (fdR_N (fdR_L (fr_29 hS)) (fdR_N (fdR_L (fr_30 hS)) (fdR_L (fr_31 hS))))))) (fdR_N (fdR_N (fdR_N (fdR_N (fdR_L (fr_32 hS)) (fdR_N (fdR_L (fr_42 hS)) (fdR_L (fr_43 hS)))) (fdR_N (fdR_L (fr_44 hS)) (fdR_N (fdR_L (fr_45 hS)) (fdR_L (fr_46 hS))))) (fdR_N (fdR_N (fdR_L (fr_50 hS)) (fdR_N (fdR_L (fr_51 hS)) (fdR_L (fr_54 hS)))) (fdR_N (fdR_L (fr_55 hS)) (fdR_N (fdR_L (fr_58 hS)) (fdR_L (fr_59 hS)))))) (fdR_N (fdR_N (fdR_N (fdR_L (fr_60 hS)) (fdR_N (fdR_L (fr_61 hS)) (fdR_L (fr_62 hS)))) (fdR_N (fdR_L (fr_64 hS)) (fdR_N (fdR_L (fr_76 hS)) (fdR_L (fr_77 hS))))) (fdR_N (fdR_N (fdR_L (fr_78 hS)) (fdR_N (fdR_L (fr_79 hS)) (fdR_L (fr_83 hS)))) (fdR_N (fdR_L (fr_84 hS)) (fdR_N (fdR_L (fr_87 hS)) (fdR_L (fr_89 hS)))))))) (fdR_N (fdR_N (fdR_N (fdR_N (fdR_N (fdR_L (fr_90 hS)) (fdR_N (fdR_L (fr_96 hS)) (fdR_L (fr_97 hS)))) (fdR_N (fdR_L (fr_100 hS)) (fdR_N (fdR_L (fr_104 hS)) (fdR_L (fr_105 hS))))) (fdR_N (fdR_N (fdR_L (fr_108 hS)) (fdR_N (fdR_L (fr_112 hS)) (fdR_L (fr_116 hS)))) (fdR_N (fdR_L (fr_120 hS)) (fdR_N (fdR_L (fr_122 hS)) (fdR_L (fr_126 hS)))))) (fdR_N (fdR_N (fdR_N (fdR_L (fr_128 hS)) (fdR_N (fdR_L (fr_130 hS)) (fdR_L (fr_132 hS)))) (fdR_N (fdR_L (fr_133 hS)) (fdR_N (fdR_L (fr_145 hS)) (fdR_L (fr_148 hS))))) (fdR_N (fdR_N (fdR_L (fr_153 hS)) (fdR_N (fdR_L (fr_154 hS)) (fdR_L (fr_155 hS)))) (fdR_N (fdR_L (fr_156 hS)) (fdR_N (fdR_L (fr_157 hS)) (fdR_L (fr_158 hS))))))) (fdR_N (fdR_N (fdR_N (fdR_N (fdR_L (fr_159 hS)) (fdR_N (fdR_L (fr_160 hS)) (fdR_L (fr_161 hS)))) (fdR_N (fdR_L (fr_162 hS)) (fdR_N (fdR_L (fr_163 hS)) (fdR_L (fr_164 hS))))) (fdR_N (fdR_N (fdR_L (fr_167 hS)) (fdR_N (fdR_L (fr_172 hS)) (fdR_L (fr_173 hS)))) (fdR_N (fdR_L (fr_176 hS)) (fdR_N (fdR_L (fr_177 hS)) (fdR_L (fr_178 hS)))))) (fdR_N (fdR_N (fdR_N (fdR_L (fr_180 hS)) (fdR_N (fdR_L (fr_181 hS)) (fdR_L (fr_182 hS)))) (fdR_N (fdR_L (fr_183 hS)) (fdR_N (fdR_L (fr_184 hS)) (fdR_L (fr_187 hS))))) (fdR_N (fdR_N (fdR_L (fr_189 hS)) (fdR_N (fdR_L (fr_190 hS)) (fdR_L (fr_191 hS)))) (fdR_N (fdR_L (fr_192 hS)) (fdR_N (fdR_L (fr_198 hS)) (fdR_L (fr_199 hS)))))))))
def fdq (b : ByteArray) (p : Nat) (i : Jvm.ClassFile.Instr) (n : Nat) : Bool := if h : p < b.size then (match (fdC (b[p]'h).toNat).runAt b (p + 1) with
  | .ok v => decide (v.1 = i) && Nat.beq v.2 (p + n)
  | .error _ => false) else false
theorem fdq_s {b : ByteArray} {p : Nat} {i n} (h : fdq b p i n = true) : ∃ hp : p < b.size, (fdC (b[p]'hp).toNat).runAt b (p + 1) = .ok (i, p + n) := by
  unfold fdq at h
  by_cases hp : p < b.size
  · rw [dif_pos hp] at h
    refine ⟨hp, ?_⟩
    cases hr : (fdC (b[p]'hp).toNat).runAt b (p + 1) with
    | error e => rw [hr] at h; cases h
    | ok v =>
      rw [hr] at h
      have h' : (decide (v.1 = i) && Nat.beq v.2 (p + n)) = true := h
      rw [Bool.and_eq_true, decide_eq_true_eq] at h'
      obtain ⟨x, q⟩ := v
      have h1 : x = i := h'.1
      have h2 : q = p + n := Nat.eq_of_beq_eq_true h'.2
      rw [h1, h2]
  · rw [dif_neg hp] at h; cases h
theorem fd_dec {a : ByteArray} {p : Nat} {i n} (hp : p < a.size) (h : (fdC (a[p]'hp).toNat).runAt a (p + 1) = .ok (i, p + n)) : decode a p = .ok (i, n) := by
  have e : ∀ z s, decode z s = Except.bind ((Jvm.ClassFile.Decoder.instr s).runAt z s) (fun v => .ok (v.1, v.2 - s)) := fun z s => rfl
  rw [e, dlC_eq, dl_run_bind, dl_run_u1, dif_pos hp]
  show Except.bind ((dlC p (a[p]'hp).toNat).runAt a (p + 1)) (fun v => .ok (v.1, v.2 - p)) = .ok (i, n)
  rw [fd_ok _ p a (p + 1) _ h]
  show (Except.ok (i, p + n - p) : Except Jvm.ClassFile.DecodeError (Jvm.ClassFile.Instr × Nat)) = .ok (i, n)
  rw [Nat.add_sub_cancel_left]
theorem fdf {b : ByteArray} {p : Nat} {i n} (h : fdq b p i n = true) : decode b p = .ok (i, n) := (fdq_s h).elim fun hp h => fd_dec hp h
theorem fdg {k : Nat} {a b : ByteArray} (hS : dlS k a b) {p : Nat} {i n} (h : fdq b p i n = true) : decode a (k + p) = .ok (i, n) := by
  obtain ⟨hp, h⟩ := fdq_s h
  have hk : k + p < a.size := by have := hS.1; omega
  refine fd_dec hk ?_
  rw [hS.2 p hp hk]
  have h1 := fd_shift hS _ (p + 1) i (p + n) h
  rw [Nat.add_assoc, h1, Nat.add_assoc]
def dlk (a : ByteArray) (k m : Nat) : ByteArray := ⟨((a.data.toList.drop k).take m).toArray⟩
theorem dl_S (a : ByteArray) (k m : Nat) (h : k ≤ a.size) : dlS k a (dlk a k m) := by
  cases a with | mk d => cases d with | mk l =>
  have h0 : k ≤ l.length := h
  refine ⟨?_, ?_⟩
  · show k + ((l.drop k).take m).length ≤ l.length
    rw [List.length_take, List.length_drop]; omega
  · intro j h1 h2
    have g1 : j < ((l.drop k).take m).length := h1
    have g2 : k + j < l.length := h2
    have g : l[k + j]'g2 = ((l.drop k).take m)[j]'g1 := by rw [List.getElem_take, List.getElem_drop]
    exact g
