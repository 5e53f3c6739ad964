/-! rotate -/
def fmF (x y : Int32) : Int32 := if 0 ≤ (x ^^^ y) then x - x / y * y else if x - x / y * y = 0 then x - x / y * y else x - x / y * y + y
set_option maxRecDepth 100000 in
theorem fm_tab : ((List.range 199).all fun i => (List.range 12).all fun n => decide (¬ fmF (nI i - nI 99) (nI (n + 1)) < 0) && decide (fmF (nI i - nI 99) (nI (n + 1)) < nI (n + 1))) = true := by decide +kernel
theorem fm_in {x : Int32} {n : Nat} (hx : inR x (-99) 99) (h0 : 0 < n) (hn : n ≤ 12) : ∃ s, s < n ∧ fmF x (nI n) = nI s := by
  have e1 : (99 : Int32).toInt = 99 := rfl
  have e2 : (-99 : Int32).toInt = -99 := rfl
  have h1 := hx.1
  have h2 := hx.2
  rw [i32_lt] at h1
  rw [i32_le] at h2
  have ex : x = nI (x.toInt + 99).toNat - nI 99 := by
    apply Int32.toInt_inj.mp
    rw [nI_sub (by omega) (by omega)]
    omega
  have t := List.all_eq_true.mp (List.all_eq_true.mp fm_tab (x.toInt + 99).toNat (List.mem_range.mpr (by omega))) (n - 1) (List.mem_range.mpr (by omega))
  rw [← ex, show n - 1 + 1 = n by omega, Bool.and_eq_true] at t
  have t1 := of_decide_eq_true t.1
  have t2 := of_decide_eq_true t.2
  obtain ⟨s, hs, e⟩ := nI_of t1
  rw [e, nI_ltI hs (by omega)] at t2
  exact ⟨s, t2, e⟩
section CLL
variable {K : tK} {G : tG} {L : tL} {S : tS} {post : Int32 → tG → Prop} {postX : String → tG → Prop}
theorem c_floorMod {pk : Int32 → tG → Prop} {x y : Int32} (hy : ¬ y = 0) (h : pk (fmF x y) G) : w_J9_floorMod_7cf53 K pk x y G := by
  unfold fmF at h
  refine ⟨hy, fun c => ?_, fun c => ⟨fun d => ?_, fun d => ?_⟩⟩
  · rw [if_pos c] at h; exact h
  · rw [if_neg c, if_pos d] at h; exact h
  · rw [if_neg c, if_neg d] at h; exact h
def roS (S : tS) (r b n s : Nat) : tS := tuF r b n s n (tuF r b s 0 s (tuF r b n 0 n S))
theorem c_rotate {v x : Int32} (h : TwR G L S) (hp : tRes L G post postX (sp_li S (S_at S v) fun r b n => if inR x (-99) 99 then (0, nI n, if n = 0 then S else roS S r b n (fmF x (nI n)).toInt.toNat) else (2, 0, S))) : w_X1_rotate K post postX (some L.1) v x G := by
  refine c_rcv h (c_listAt h (fun c => ?_) (fun o r b n c1 c2 c3 c4 => ?_))
  · rw [c] at hp; exact (hp G (fr_rf _ _) h).2.1 rfl
  · rw [c1] at hp
    refine c_checkNumber (fun hx => ?_) (fun hx => ?_)
    · simp only [sp_li, if_pos hx] at hp
      refine gfI_i c2 rfl ⟨fun c => ?_, fun c => ?_⟩
      · have hn : n = 0 := Decidable.byContradiction fun e => nI_nle (by omega) (by omega) c
        simp only [if_pos hn] at hp
        exact gfI_i c2 rfl ((hp G (fr_rf _ _) h).1 rfl)
      · have hn : ¬ n = 0 := fun e => c (by rw [e]; decide)
        simp only [if_neg hn] at hp
        obtain ⟨s, hs, es⟩ := fm_in hx (by omega) (show n ≤ 12 by omega)
        rw [es, nI_nat (by omega)] at hp
        refine gfI_i c2 rfl (c_floorMod (nI_ne0 (by omega) (by omega)) ?_)
        rw [es]
        refine gfI_i c2 rfl ⟨n + 1, c_turn c3 c4 n 0 n S G (by omega) (by omega) (by omega) h c2 (fun G1 q1 h1 o1 => ?_)⟩
        refine ⟨s + 1, c_turn c3 c4 s 0 s _ G1 (by omega) (by omega) (by omega) h1 o1 (fun G2 q2 h2 o2 => ?_)⟩
        refine gfI_i o2 rfl ⟨n + 1, c_turn c3 c4 n s n _ G2 (by omega) (by omega) (by omega) h2 o2 (fun G3 q3 h3 o3 => ?_)⟩
        exact gfI_i o3 rfl ((hp G3 (fr_tr q1 (fr_tr q2 q3)) h3).1 rfl)
    · simp only [sp_li, if_neg hx] at hp
      exact (hp G (fr_rf _ _) h).2.2 rfl
end CLL
