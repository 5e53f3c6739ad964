section TCA
variable {p : Program} {l : Launch} {e : Env} {R : Room} {s : State} {m : MethodId} {args : Array Value} {below : List Frame} {meth : Method} {c : Code} {H : Heap} {locs : List Loc} {cells slots : Nat} {Q : State → Prop}
variable {D : va_G} {K : tK} {A : Nat → Prop} {Ts : List Cond} {own : String} {cc : ByteArray} {nL : Nat} {pc : Nat} {ls : Array Slot} {rest : List Value} {G : tG}
variable {y : MethodName} {ws : List Cond} {rm : Room} {mc ms n index maxL : Nat} {bytes : ByteArray} {ret : Option FieldType} {As : List Value} {pr : Option Value → tG → Prop} {px : String → tG → Prop} {wp : tG → Prop} {st0 : List Value}
section TXU
variable {Qc : Array Value → State → Outcome → State → Prop} {MC MS : Nat}
/-- 'throw new E("..")' that leaves the method -/
theorem tx_throw (C : tc_B p l s m args meth c D K A Ts own cc nL) (hl : ls.size = nL) (ht : ∀ x ∈ c.exceptionTable.toList, False) {cls text : String} {names : List String} {ik is ic cn : Nat} (hcls : Bundle.fit cls = true) (hnames : ∀ n ∈ names, Bundle.fit n = true) (hk : Cond.classLink own ik cls ∈ Ts) (hini : Cond.initialized cls ∈ Ts) (hstr : (own, is, text, cn) ∈ tk_strs) (hat1 : ∀ w ∈ (vx_atS own ic cls names).filter goodWord, w ∈ Ts) (hat2 : ∀ w ∈ (vx_atS own ic cls names).filter (fun w => !goodWord w), w ∈ [Cond.castable cls cls, kx_d1, kx_d2, kx_d3]) (hcast : va_Nw (.castable cls cls) s) (hgood : ∀ w ∈ Cond.classLink own ik cls :: Cond.initialized cls :: vx_atS own ic cls names, vx_ot w = true)
    (d0 : decode cc pc = .ok (.new ik, 3)) (d3 : decode cc (pc + 3) = .ok (.dup, 1)) (d4 : decode cc (pc + 4) = .ok (.ldc is, 2)) (d6 : decode cc (pc + 6) = .ok (.invokespecial ic, 3)) (d9 : decode cc (pc + 9) = .ok (.athrow, 1)) (hRframes : names.length + 3 < R.frames) (hRlocals : 0 + (13 * (names.length + 1) + 43) ≤ R.locals) (hRcells : cells + 1 ≤ R.cells) (hRslots : slots + 6 ≤ R.slots) (hc : cells + 1 ≤ MC) (hs : slots + 6 ≤ MS)
    (hW : tg_W D A s H G) (hS : va_S A s.heap H locs) (hw : px cls G) : W p l e R s m args below meth c H locs cells slots (vx_MQ below Qc (tc_XC D A px) args s MC MS A) (F0 m pc ls []) := by
  refine vx_throwS (A := A) (text := text) (sa := K.2.2 cn) (names := names) C.1.1 C.1.2.1 C.2.2.2.2.2 C.1.2.2.2.1 hcls hnames (C.1.2.2.2.2 _ hk) (C.1.2.2.2.2 _ hini) (C.2.2.2.1.2.2.2.2.1 _ hstr)
    (vx_hat (B := [Cond.castable cls cls, kx_d1, kx_d2, kx_d3]) (fun w h => C.1.2.2.2.2 _ (hat1 w h)) hat2 (vx_c (va_Nw.use rfl hcast) (vx_c (va_Nw.use rfl (tc_kx C).2.2.2.2.2.1) (vx_c (va_Nw.use rfl (tc_kx C).2.2.2.2.2.2.1) (vx_c (va_Nw.use rfl (tc_kx C).2.2.2.2.2.2.2.1) vx_n))))) hgood C.2.2.2.1.1 C.2.2.2.1.2.1 hS (by rw [hl, C.1.2.2.1]) d0 d3 d4 d6 d9 (fun x hx => (ht x hx).elim) hRframes hRlocals hRcells hRslots C.2.1 (fun t hal h1 h2 => ⟨⟨G, hw, ?_⟩, ?_⟩) hS.2.2 hc hs
  · exact fun q e9 hq => ⟨(hW q e9 hq).1, ((hW q e9 hq).2.kept (h2 q (hW q e9 hq).2.lt)).moved hal⟩
  · exact ⟨Nat.le_trans hS.1 h1, fun q g1 g2 => by rw [h2 q (Nat.lt_of_lt_of_le g1 hS.1)]; exact hS.2.1 q g1 g2⟩
/-! ends -/
end TXU
end TCA
