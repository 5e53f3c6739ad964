/-- a wrapper's body: it has handlers, and throws nothing -/
theorem tx_ofH {l : Launch} {K : tK} {y : MethodName} {ws ws' : List Cond} {rm : Room} {mc ms : Nat} {av : List Value} {pr : Option Value → tG → Prop} {px : String → tG → Prop} {wp : tG → Prop} {cc : ByteArray} {maxL : Nat} {ret : Option FieldType} {own : String} {hh : List (Nat × Nat × Nat × Nat)} (hy : plainName y.cls = true) (hw : ws = Cond.codeWith y cc maxL ret hh :: ws') (hown : y.cls = own) (hll : l.stackTraces = false) (avs : List tV) (hvs : av = avs.map tv_v) (hav : (avs.map fun v => if tv_2 v then 2 else 1).sum ≤ maxL)
    (body : ∀ (p : Program) (e : Env) (s : State) (m : MethodId) (args : Array Value) (below : List Frame) (meth : Method) (c : Code) (D : va_G) (A : Nat → Prop) (G : tG) (ls : Array Slot), tc_B p l s m args meth c D K A ws own cc maxL → meth.sig.returnType = ret → c.exceptionTable.toList = tableOf hh → kx_C s → tl ls maxL (tl_args 0 avs) → tg_W D A s s.heap G → va_S A s.heap s.heap [] → wp G → W p l e rm s m args below meth c s.heap [] 0 0 (vx_MQ below (tc_Qc D A pr) (tc_XC D A px) args s mc ms A) (F0 m 0 ls [])) : Cx l y ws rm mc ms av K pr px wp := by
  intro D A sz G hwp
  refine vx_ofWH (cc := cc) (maxL := maxL) (ret := ret) hy hw ?_
  intro p e s m args below meth c s₁ B hml hv
  obtain ⟨rfl, hsz, hW, hK, hC, hA⟩ := hv
  subst hsz
  have hts := atoms_spec (ws := ws) B.pre
  have htab := vx_table (x := y) B (hts _ (by rw [hw]; exact List.mem_cons_self))
  have hl := lv_entry av (n := maxL) (by rw [hvs, tl_len]; exact hav)
  rw [lg_entry_eq]
  have hl2 : tl ((lg_sl av ++ List.replicate (maxL - (lg_sl av).length) Slot.unset).toArray) maxL (tl_args 0 avs) := by
    have h9 := hl
    rw [hvs, tl_args_eq] at h9
    rw [hvs]
    exact h9
  exact body p e s m _ below meth c D A G _ ⟨⟨B.exec, B.bytes, hml, by rw [← hown]; exact findClass_of_methodNamed B.named, hts⟩, B.notSynchronized, hK, hC, hA, hll⟩ B.returns htab hC.2.2.2.2.2.2.2.2.2.2 hl2 hW va_S.rf hwp
theorem tw_ofW {l : Launch} {y : MethodName} {ws ws' : List Cond} {rm : Room} {Pc : Array Value → State → Prop} {Qc : Array Value → State → Outcome → State → Prop} {mc ms : Nat} {free : Addr → Prop} {cc : ByteArray} {maxL : Nat} {ret : Option FieldType}
    (hy : plainFor y = true) (hw : ws = Cond.code y cc maxL ret :: ws')
    (body : ∀ p e s m args below meth c s₁, BodyLoose p l y (headSpec ws rm) cc maxL ret e s m args below meth c s₁ → c.maxLocals = maxL → Pc args s →
      W p l e (headSpec ws rm).room s m args below meth c s.heap [] 0 0 (MQ below Qc args s mc ms free) (entryFrame m args maxL)) : Met l y ws rm Pc Qc mc ms free := by
  refine MetFree.of_bodySF (code := cc) (maxLocals := maxL) (ret := ret) hy ?_ ?_
  · intro args s m h hn
    obtain ⟨meth, c, h1, h2, h3, h4, h5, h6, -, -⟩ := Cond.code_spec hn (atoms_spec (ws := ws) h _ (by rw [hw]; exact List.mem_cons_self))
    exact ⟨meth, c, h1, h2, h3, h4, h5, h6⟩
  · intro p e s m args below meth c s₁ B hml hP _
    have hh0 : s₁.heap = s.heap := by rw [B.state]; rfl
    obtain ⟨t, a1, o, b1, b2, b3⟩ := body p e s m args below meth c s₁ B hml hP s₁ hh0 (Stand.of_body B)
    exact ⟨t, o, a1, b1, b2, ⟨b3.1, b3.2⟩⟩
theorem tc_of {l : Launch} {K : tK} {y : MethodName} {ws ws' : List Cond} {rm : Room} {mc ms : Nat} {av : List Value} {pr : Option Value → tG → Prop} {wp : tG → Prop} {cc : ByteArray} {maxL : Nat} {ret : Option FieldType} {own : String} (hy : plainFor y = true) (hw : ws = Cond.code y cc maxL ret :: ws') (hown : y.cls = own) (hll : l.stackTraces = false) (avs : List tV) (hvs : av = avs.map tv_v) (hav : (avs.map fun v => if tv_2 v then 2 else 1).sum ≤ maxL)
    (body : ∀ (p : Program) (e : Env) (s : State) (m : MethodId) (args : Array Value) (below : List Frame) (meth : Method) (c : Code) (D : va_G) (A : Nat → Prop) (G : tG) (ls : Array Slot), tc_B p l s m args meth c D K A ws own cc maxL → meth.sig.returnType = ret → meth.name = y.name → (∀ x ∈ c.exceptionTable.toList, False) → tl ls maxL (tl_args 0 avs) → tg_W D A s s.heap G → va_S A s.heap s.heap [] → wp G → W p l e rm s m args below meth c s.heap [] 0 0 (MQ below (tc_Qc D A pr) args s mc ms A) (F0 m 0 ls [])) : Ct l y ws rm mc ms av K pr wp := by
  intro D A sz G hwp
  refine tw_ofW (cc := cc) (maxL := maxL) (ret := ret) hy hw ?_
  intro p e s m args below meth c s₁ B hml hv
  obtain ⟨rfl, hsz, hW, hK, hC, hA⟩ := hv
  subst hsz
  have hts := atoms_spec (ws := ws) B.pre
  have hname : meth.name = y.name := (name_of_methodNamed B.named B.method).1
  have ht : ∀ x ∈ c.exceptionTable.toList, False := by
    obtain ⟨meth9, c9, h1, h2, -, -, -, -, h7, -⟩ := Cond.code_spec B.named (hts _ (by rw [hw]; exact List.mem_cons_self))
    cases Option.some.inj (h1.symm.trans B.method)
    cases Option.some.inj (h2.symm.trans (Stand.of_body B).code)
    intro x hx
    rw [Array.isEmpty_iff.mp h7] at hx
    cases hx
  have hl := lv_entry av (n := maxL) (by rw [hvs, tl_len]; exact hav)
  rw [lg_entry_eq]
  have hl2 : tl ((lg_sl av ++ List.replicate (maxL - (lg_sl av).length) Slot.unset).toArray) maxL (tl_args 0 avs) := by
    have h9 := hl
    rw [hvs, tl_args_eq] at h9
    rw [hvs]
    exact h9
  exact body p e s m _ below meth c D A G _ ⟨⟨B.exec, B.bytes, hml, by rw [← hown]; exact findClass_of_methodNamed B.named, hts⟩, B.notSynchronized, hK, hC, hA, hll⟩ B.returns hname ht hl2 hW va_S.rf hwp
theorem tx_of {l : Launch} {K : tK} {y : MethodName} {ws ws' : List Cond} {rm : Room} {mc ms : Nat} {av : List Value} {pr : Option Value → tG → Prop} {px : String → tG → Prop} {wp : tG → Prop} {cc : ByteArray} {maxL : Nat} {ret : Option FieldType} {own : String} (hy : plainName y.cls = true) (hw : ws = Cond.code y cc maxL ret :: ws') (hown : y.cls = own) (hll : l.stackTraces = false) (avs : List tV) (hvs : av = avs.map tv_v) (hav : (avs.map fun v => if tv_2 v then 2 else 1).sum ≤ maxL)
    (body : ∀ (p : Program) (e : Env) (s : State) (m : MethodId) (args : Array Value) (below : List Frame) (meth : Method) (c : Code) (D : va_G) (A : Nat → Prop) (G : tG) (ls : Array Slot), tc_B p l s m args meth c D K A ws own cc maxL → meth.sig.returnType = ret → meth.name = y.name → (∀ x ∈ c.exceptionTable.toList, False) → tl ls maxL (tl_args 0 avs) → tg_W D A s s.heap G → va_S A s.heap s.heap [] → wp G → W p l e rm s m args below meth c s.heap [] 0 0 (vx_MQ below (tc_Qc D A pr) (tc_XC D A px) args s mc ms A) (F0 m 0 ls [])) : Cx l y ws rm mc ms av K pr px wp := by
  intro D A sz G hwp
  refine vx_ofW (cc := cc) (maxL := maxL) (ret := ret) hy hw ?_
  intro p e s m args below meth c s₁ B hml ht hv
  obtain ⟨rfl, hsz, hW, hK, hC, hA⟩ := hv
  subst hsz
  have hts := atoms_spec (ws := ws) B.pre
  have hname : meth.name = y.name := (name_of_methodNamed B.named B.method).1
  have hl := lv_entry av (n := maxL) (by rw [hvs, tl_len]; exact hav)
  rw [lg_entry_eq]
  have hl2 : tl ((lg_sl av ++ List.replicate (maxL - (lg_sl av).length) Slot.unset).toArray) maxL (tl_args 0 avs) := by
    have h9 := hl
    rw [hvs, tl_args_eq] at h9
    rw [hvs]
    exact h9
  exact body p e s m _ below meth c D A G _ ⟨⟨B.exec, B.bytes, hml, by rw [← hown]; exact findClass_of_methodNamed B.named, hts⟩, B.notSynchronized, hK, hC, hA, hll⟩ B.returns hname ht hl2 hW va_S.rf hwp

