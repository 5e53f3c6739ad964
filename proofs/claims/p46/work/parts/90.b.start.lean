/-! THE LAW, from its entry -/
set_option maxRecDepth 100000 in
set_option maxHeartbeats 4000000 in
theorem whole_start {p : Program} {e : Env} {s : State} {m : MethodId} {below : List Frame} {meth : Method} {c : Code} (l : Launch) (hflags : l.flags = flags0) {b L : Nat} {xs : Nat → Int32} (hL : L ≤ 3072) (C0 : lw_At p s m meth c b L xs) : W p l e room_1 s m #[Value.ref b] below meth c s.heap [] 0 0 (lw_Z below #[Value.ref b] s) (entryFrame m ([Value.ref b] : List Value).toArray 7) := by
  obtain ⟨hx, hb, hr, hml, hown, hts, hX, hbl, hlocks, hgv⟩ := C0
  have hA : ∀ a : Nat, a < s.heap.size → ¬ (fun q : Nat => s.heap.size ≤ q) a := fun a h => Nat.not_le.mpr h
  obtain ⟨K, hC, hK⟩ := st_C hA hts hgv
  have ht0 : ∀ w ∈ w0, w.before #[Value.ref b] s = true := fun w hw => lw_t2_ok hts w (List.mem_filter.mp hw).1
  obtain ⟨c0, i0, n0⟩ := u_known (C := RJ0) (T := TJ0) (N := 4) (n := 4) ht0 hw_J0 (hts _ (by decide +kernel))
  obtain ⟨c1, i1, n1⟩ := u_known (C := RJ4) (T := TJ4) (N := 4) (n := 4) ht0 hw_J4 (hts _ (by decide +kernel))
  obtain ⟨c2, i2, n2⟩ := u_known (C := RX0) (T := TX0) (N := 4) (n := 4) ht0 hw_X0 (hts _ (by decide +kernel))
  obtain ⟨c3, i3, n3⟩ := u_known (C := RX1) (T := TX1) (N := 4) (n := 4) ht0 hw_X1 (hts _ (by decide +kernel))
  obtain ⟨c4, i4, n4⟩ := u_known (C := RX2) (T := TX2) (N := 2) (n := 2) ht0 hw_X2 (hts _ (by decide +kernel))
  obtain ⟨c5, i5, n5⟩ := u_known (C := RX3) (T := TX3) (N := 8) (n := 8) ht0 hw_X3 (hts _ (by decide +kernel))
  obtain ⟨dC, dI, hKc⟩ : ∃ (dC : Nat → ClassId) (dI : Nat → Nat → Nat), ∀ (k : Nat) (q : vw_C), vwCl[k]? = some q → u_Kn s q.1 q.2.1 q.2.2 (dC k) (dI k) := by
    refine ⟨fun k => if k = 0 then c0 else if k = 1 then c1 else if k = 2 then c2 else if k = 3 then c3 else if k = 4 then c4 else c5, fun k => if k = 0 then i0 else if k = 1 then i1 else if k = 2 then i2 else if k = 3 then i3 else if k = 4 then i4 else i5, ?_⟩
    intro k q hq
    match k, hq with
    | 0, hq => cases hq; exact n0
    | 1, hq => cases hq; exact n1
    | 2, hq => cases hq; exact n2
    | 3, hq => cases hq; exact n3
    | 4, hq => cases hq; exact n4
    | 5, hq => cases hq; exact n5
    | k + 6, hq => simp [vwCl] at hq
  have hll : l.stackTraces = false := by
    show (!l.flags.contains noTraceFlag) = false
    rw [hflags]
    decide +kernel
  have hTs : ∀ w ∈ wz_L_law, w.before #[Value.ref b] s = true := fun w hw => (List.mem_cons.mp hw).elim (fun e => by rw [e]; exact hts _ (by decide +kernel)) (fun h => ht0 w h)
  have C : tc_B p l s m #[Value.ref b] meth c (dC, dI) K (fun q : Nat => s.heap.size ≤ q) wz_L_law RL cL_law 7 := ⟨⟨hx, hb, hml, hown, hTs⟩, hlocks, ⟨hKc, fun k q h => by simp at h⟩, hC, fun _ h => h, hll⟩
  have hl := lv_entry ([.ref b]) (n := 7) (Nat.le_of_ble_eq_true rfl)
  rw [lg_entry_eq]
  generalize (lg_sl ([.ref b]) ++ List.replicate (7 - (lg_sl ([.ref b])).length) Slot.unset).toArray = ls at hl ⊢
  have hl : tl ls 7 [(0, .inr (.inr (some b)))] := hl
  exact s_L_law C hr hX hbl (Nat.not_le.mpr hbl) (fun _ h => h) (va_Nw.of rfl (hts _ (by decide +kernel))) hll (fun _ => none) s.heap [] ls (fun q e h => by cases h) va_S.rf hl (law_pure hK hL)
