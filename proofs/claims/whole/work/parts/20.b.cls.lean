/-! what a call does: 0 and its answer, or 1 / 2 for the two refusals; the rows behind it -/
abbrev tA : Type := Nat × Int32 × tS
def tRes (L : tL) (G : tG) (post : Int32 → tG → Prop) (postX : String → tG → Prop) (a : tA) : Prop := ∀ G' : tG, fr (clsW L) G G' → TwR G' L a.2.2 → (a.1 = 0 → post a.2.1 G') ∧ (a.1 = 1 → postX "java/lang/IndexOutOfBoundsException" G') ∧ (a.1 = 2 → postX "java/lang/IllegalArgumentException" G')
theorem nI_nat {i : Nat} (h : i < 2 ^ 31) : (nI i).toInt.toNat = i := by rw [nI_toInt h]; rfl
theorem nI_inn {i n : Nat} (h : i < n) (hn : n < 2 ^ 31) : 0 ≤ (nI i).toInt ∧ (nI i).toInt < n := by rw [nI_toInt (by omega)]; omega
def sp_at (S : tS) (q : Option (Nat × Nat × Nat)) (w : Int32) (f : Nat → Nat → Nat → Nat → tA) : tA := match q with
  | none => (1, 0, S)
  | some (r, b, n) => if 0 ≤ w.toInt ∧ w.toInt < n then f r b n w.toInt.toNat else (1, 0, S)
def sp_li (S : tS) (q : Option (Nat × Nat × Nat)) (f : Nat → Nat → Nat → tA) : tA := match q with
  | none => (1, 0, S)
  | some (r, b, n) => f r b n
def S_ref (S : tS) : tS := (S.1, S.2.1, S.2.2.1, S.2.2.2 + 1)
section CLA
variable {K : tK} {G : tG} {L : tL} {S : tS} {post : Int32 → tG → Prop} {postX : String → tG → Prop}
theorem c_refuseIf {b : Int32} (h : TwR G L S) (h1 : b ≠ 0 → ∀ G', fr (clsW L) G G' → TwR G' L (S_ref S) → post (-9) G') (h0 : b = 0 → post 0 G) : w_X1_refuseIf K post (some L.1) b G := by
  refine ⟨fun c => ?_, fun c => h0 c⟩
  obtain ⟨lf, k2, k3, k4⟩ := h.2.1
  refine gfI_i k2 rfl (pfV_i k2 (Nat.le_of_ble_eq_true rfl) ?_)
  exact h1 c _ (fr_up _ (Or.inl rfl)) (TwR_own h _ _)
theorem c_knock {pk : Int32 → tG → Prop} (h : TwR G L S) (h1 : ∀ G', fr (clsW L) G G' → TwR G' L (S.1, S.2.1, S.2.2.1 + 1, S.2.2.2) → pk (S.2.2.1 + 1) G') : w_X1_knock K pk (some L.1) G := by
  obtain ⟨lf, k2, k3, k4⟩ := h.2.1
  refine gfI_i k2 rfl (pfV_i k2 (Nat.le_of_ble_eq_true rfl) (gfI_i (tg_s _ _ _) rfl ?_))
  exact h1 _ (fr_up _ (Or.inl rfl)) (TwR_own h _ _)
/-- a place of a list, and what stands there -/
theorem c_get {v w : Int32} (h : TwR G L S) (hp : tRes L G post postX (sp_at S (S_at S v) w fun r b n i => (0, S.2.1 r (b + i), S))) : w_X1_get K post postX (some L.1) v w G := by
  refine c_rcv h (c_listAt h (fun c => ?_) (fun o r b n c1 c2 c3 c4 => ?_))
  · rw [c] at hp; exact (hp G (fr_rf _ _) h).2.1 rfl
  · rw [c1] at hp
    refine c_checkPlace c2 (by omega) (fun i hi e => ?_) (fun c => ?_)
    · subst e
      simp only [sp_at, if_pos (nI_inn hi (show n < 2 ^ 31 by omega)), nI_nat (show i < 2 ^ 31 by omega)] at hp
      exact rcv_i c2 (l_read c2 (h.2.2.2.1 r c3) rfl (by omega) (by omega) ((hp G (fr_rf _ _) h).1 rfl))
    · simp only [sp_at, if_neg c] at hp
      exact (hp G (fr_rf _ _) h).2.1 rfl
theorem c_at {v w : Int32} (h : TwR G L S) (hp : tRes L G post postX (sp_at S (S_tw S v) w fun r b n i => (0, S.2.1 r (b + i), S))) : w_X1_at K post postX (some L.1) v w G := by
  refine c_rcv h (c_twinAt h (fun c => ?_) (fun o r n e1 c1 c2 c3 c4 => ?_))
  · rw [c] at hp; exact (hp G (fr_rf _ _) h).2.1 rfl
  · have e2 : S_tw S v = some (r, 0, n) := by
      rw [e1]; unfold S_tw
      rw [nI_toInt (by omega), if_pos (by omega)]; exact c1
    rw [e2] at hp
    refine c_checkPlace c2 (by omega) (fun i hi e => ?_) (fun c => ?_)
    · subst e
      simp only [sp_at, if_pos (nI_inn hi (show n < 2 ^ 31 by omega)), nI_nat (show i < 2 ^ 31 by omega)] at hp
      exact rcv_i c2 (l_read c2 (h.2.2.2.1 r c3) rfl (by omega) (by omega) ((hp G (fr_rf _ _) h).1 rfl))
    · simp only [sp_at, if_neg c] at hp
      exact (hp G (fr_rf _ _) h).2.1 rfl
/-- one value is written through a list -/
theorem t_write {pw : Int32 → tG → Prop} {o r b n i : Nat} {x : Int32} {v : Int32} (h : TwR G L S) (ho : G o = some (oRL (nI r) (L.2.2.2 r) b n)) (hr : r < 3) (hn : b + n ≤ 12) (hv : v = nI i) (hi : i < n) (hx : okV x) (hp : ∀ G', fr (clsW L) G G' → TwR G' L (S_put S r (b + i) x) → G' o = some (oRL (nI r) (L.2.2.2 r) b n) → pw (S.2.1 r (b + i)) G') : w_X0_write K pw (some o) v x G := by
  have hv9 := h.2.2.2.1 r hr
  exact l_write ho hv9 hv (by omega) (by omega) (hp _ (fr_up _ (clsW_va hr)) (TwR_put h hr _ hx) (tg_keep ho (ne_OI ho hv9)))

theorem c_set {v w x : Int32} (h : TwR G L S) (hp : tRes L G post postX (sp_at S (S_at S v) w fun r b n i => if okV x then (0, S.2.1 r (b + i), S_put S r (b + i) x) else (2, 0, S))) : w_X1_set K post postX (some L.1) v w x G := by
  refine c_rcv h (c_listAt h (fun c => ?_) (fun o r b n c1 c2 c3 c4 => ?_))
  · rw [c] at hp; exact (hp G (fr_rf _ _) h).2.1 rfl
  · rw [c1] at hp
    refine c_checkPlace c2 (by omega) (fun i hi e => ?_) (fun c => ?_)
    · subst e
      simp only [sp_at, if_pos (nI_inn hi (show n < 2 ^ 31 by omega)), nI_nat (show i < 2 ^ 31 by omega)] at hp
      refine c_checkValue (fun hx => ?_) (fun hx => ?_)
      · rw [if_pos hx] at hp
        exact rcv_i c2 (t_write h c2 c3 c4 rfl hi hx (fun G' q1 q2 _ => (hp G' q1 q2).1 rfl))
      · rw [if_neg hx] at hp
        exact (hp G (fr_rf _ _) h).2.2 rfl
    · simp only [sp_at, if_neg c] at hp
      exact (hp G (fr_rf _ _) h).2.1 rfl
end CLA
