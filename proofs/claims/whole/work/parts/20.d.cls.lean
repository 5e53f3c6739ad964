/-! values written one behind another -/
def S_map (S : tS) (r b : Nat) (f : Nat → Int32 → Int32) : Nat → tS
  | 0 => S
  | k + 1 => S_put (S_map S r b f k) r (b + k) (f k ((S_map S r b f k).2.1 r (b + k)))
def S_exch (S : tS) (r i j : Nat) : tS := S_put (S_put S r i (S.2.1 r j)) r j (S.2.1 r i)
section CLD
variable {K : tK} {G : tG} {L : tL} {S : tS} {post : Int32 → tG → Prop} {postX : String → tG → Prop}
theorem c_put {v w x : Int32} (h : TwR G L S) (hp : tRes L G post postX (sp_at S (S_tw S v) w fun r b n i => if okV x then (0, S.2.1 r (b + i), S_put S r (b + i) x) else (2, 0, S))) : w_X1_put K post postX (some L.1) v w x G := by
  refine c_rcv h (c_twinAt h (fun c => ?_) (fun o r n e1 c1 c2 c3 c4 => ?_))
  · rw [c] at hp; exact (hp G (fr_rf _ _) h).2.1 rfl
  · have e2 : S_tw S v = some (r, 0, n) := by
      rw [e1]; unfold S_tw
      rw [nI_toInt (by omega), if_pos (by omega)]; exact c1
    rw [e2] at hp
    refine c_checkPlace c2 (by omega) (fun i hi e => ?_) (fun c => ?_)
    · subst e
      simp only [sp_at, if_pos (nI_inn hi (show n < 2 ^ 31 by omega)), nI_nat (show i < 2 ^ 31 by omega)] at hp
      refine c_checkValue (fun hx => ?_) (fun hx => ?_)
      · rw [if_pos hx] at hp
        exact rcv_i c2 (t_write h c2 c3 (by omega) rfl hi hx (fun G' q1 q2 _ => (hp G' q1 q2).1 rfl))
      · rw [if_neg hx] at hp
        exact (hp G (fr_rf _ _) h).2.2 rfl
    · simp only [sp_at, if_neg c] at hp
      exact (hp G (fr_rf _ _) h).2.1 rfl
theorem c_writeAll {pv : tG → Prop} {o r b n : Nat} {x : Int32} (h : TwR G L S) (ho : G o = some (oRL (nI r) (L.2.2.2 r) b n)) (hr : r < 3) (hn : b + n ≤ 12) (hx : okV x) (hp : ∀ G', fr (clsW L) G G' → TwR G' L (S_map S r b (fun _ _ => x) n) → G' o = some (oRL (nI r) (L.2.2.2 r) b n) → pv G') : w_X1_writeAll K pv (some o) x G := by
  have main : ∀ k i G1, i + k = n → fr (clsW L) G G1 → TwR G1 L (S_map S r b (fun _ _ => x) i) → G1 o = some (oRL (nI r) (L.2.2.2 r) b n) → w_X1_writeAll_2 K pv (k + 1) (some o) x (nI i) G1 := by
    intro k
    induction k with
    | zero =>
      intro i G1 hi hf h1 ho1
      show w_X1_writeAll_2_b K pv (w_X1_writeAll_2 K pv 0) (some o) x (nI i) G1
      have e : i = n := by omega
      subst e
      exact gfI_i ho1 rfl ⟨fun _ => hp G1 hf h1 ho1, fun c => absurd (nI_le (by omega) (by omega)) c⟩
    | succ k ih =>
      intro i G1 hi hf h1 ho1
      show w_X1_writeAll_2_b K pv (w_X1_writeAll_2 K pv (k + 1)) (some o) x (nI i) G1
      refine gfI_i ho1 rfl ⟨fun c => absurd c (nI_ge (by omega) (by omega)), fun _ => rcv_i ho1 (t_write h1 ho1 hr hn rfl (by omega) hx (fun G' q1 q2 q3 => ?_))⟩
      rw [nI_1]
      exact ih (i + 1) G' (by omega) (fr_tr hf q1) q2 q3
  exact ⟨n + 1, main n 0 G (by omega) (fr_rf _ _) h ho⟩
theorem c_fill {v x : Int32} (h : TwR G L S) (hp : tRes L G post postX (sp_li S (S_at S v) fun r b n => if okV x then (0, nI n, S_map S r b (fun _ _ => x) n) else (2, 0, S))) : w_X1_fill K post postX (some L.1) v x G := by
  refine c_rcv h (c_listAt h (fun c => ?_) (fun o r b n c1 c2 c3 c4 => ?_))
  · rw [c] at hp; exact (hp G (fr_rf _ _) h).2.1 rfl
  · rw [c1] at hp
    refine c_checkValue (fun hx => ?_) (fun hx => ?_)
    · simp only [sp_li, if_pos hx] at hp
      exact c_writeAll h c2 c3 c4 hx (fun G' q1 q2 q3 => gfI_i q3 rfl ((hp G' q1 q2).1 rfl))
    · simp only [sp_li, if_neg hx] at hp
      exact (hp G (fr_rf _ _) h).2.2 rfl
/-- every old value becomes x; 1 if there was one -/
def roF (S : tS) (r b : Nat) (old x : Int32) : Nat → tS × Int32
  | 0 => (S, 0)
  | k + 1 => if (roF S r b old x k).1.2.1 r (b + k) = old then (S_put (roF S r b old x k).1 r (b + k) x, 1) else roF S r b old x k
theorem c_replaceOld {v y x : Int32} (h : TwR G L S) (hp : tRes L G post postX (sp_li S (S_at S v) fun r b n => if okV y ∧ okV x then (0, (roF S r b y x n).2, (roF S r b y x n).1) else (2, 0, S))) : w_X1_replaceOld K post postX (some L.1) v y x G := by
  refine c_rcv h (c_listAt h (fun c => ?_) (fun o r b n c1 c2 c3 c4 => ?_))
  · rw [c] at hp; exact (hp G (fr_rf _ _) h).2.1 rfl
  · rw [c1] at hp
    refine c_checkValue (fun hy => c_checkValue (fun hx => ?_) (fun hx => ?_)) (fun hy => ?_)
    · simp only [sp_li, if_pos (And.intro hy hx)] at hp
      have main : ∀ k i G1, i + k = n → fr (clsW L) G G1 → TwR G1 L (roF S r b y x i).1 → G1 o = some (oRL (nI r) (L.2.2.2 r) b n) → w_X1_replaceOld_21 K post postX (k + 1) y x (some o) (roF S r b y x i).2 (nI i) G1 := by
        intro k
        induction k with
        | zero =>
          intro i G1 hi hf h1 ho1
          show w_X1_replaceOld_21_b K post postX (w_X1_replaceOld_21 K post postX 0) y x (some o) (roF S r b y x i).2 (nI i) G1
          have e : i = n := by omega
          subst e
          exact gfI_i ho1 rfl ⟨fun _ => (hp G1 hf h1).1 rfl, fun c => absurd (nI_le (by omega) (by omega)) c⟩
        | succ k ih =>
          intro i G1 hi hf h1 ho1
          show w_X1_replaceOld_21_b K post postX (w_X1_replaceOld_21 K post postX (k + 1)) y x (some o) (roF S r b y x i).2 (nI i) G1
          refine gfI_i ho1 rfl ⟨fun c => absurd c (nI_ge (by omega) (by omega)), fun _ => rcv_i ho1 (l_read ho1 (h1.2.2.2.1 r c3) rfl (by omega) (by omega) ⟨fun c => ?_, fun c => ?_⟩)⟩
          · show w_X1_replaceOld_21 K post postX (k + 1) y x (some o) (roF S r b y x i).2 (nI i + 1) G1
            rw [nI_1]
            have e : roF S r b y x (i + 1) = roF S r b y x i := by show (if _ then _ else _) = _; rw [if_neg c]
            have := ih (i + 1) G1 (by omega) hf (by rw [e]; exact h1) ho1
            rw [e] at this
            exact this
          · refine rcv_i ho1 (t_write h1 ho1 c3 c4 rfl (by omega) hx (fun G' q1 q2 q3 => ?_))
            show w_X1_replaceOld_21 K post postX (k + 1) y x (some o) 1 (nI i + 1) G'
            rw [nI_1]
            have e : roF S r b y x (i + 1) = (S_put (roF S r b y x i).1 r (b + i) x, 1) := by show (if _ then _ else _) = _; rw [if_pos c]
            have := ih (i + 1) G' (by omega) (fr_tr hf q1) (by rw [e]; exact q2) q3
            rw [e] at this
            exact this
      exact ⟨n + 1, main n 0 G (by omega) (fr_rf _ _) h c2⟩
    · simp only [sp_li, if_neg (fun q : okV y ∧ okV x => hx q.2)] at hp
      exact (hp G (fr_rf _ _) h).2.2 rfl
    · simp only [sp_li, if_neg (fun q : okV y ∧ okV x => hy q.1)] at hp
      exact (hp G (fr_rf _ _) h).2.2 rfl
theorem t_okV (h : TwR G L S) {r i : Nat} (hr : r < 3) (hi : i < 12) : okV (S.2.1 r i) := h.1.2.2 r i hr hi
/-- two places of a list change their values -/
theorem c_exchange {pv : tG → Prop} {o r b n i j : Nat} {v w : Int32} (h : TwR G L S) (ho : G o = some (oRL (nI r) (L.2.2.2 r) b n)) (hr : r < 3) (hn : b + n ≤ 12) (hv : v = nI i) (hw : w = nI j) (hi : i < n) (hj : j < n) (hp : ∀ G', fr (clsW L) G G' → TwR G' L (S_exch S r (b + i) (b + j)) → G' o = some (oRL (nI r) (L.2.2.2 r) b n) → pv G') : w_X0_exchange K pv (some o) v w G := by
  refine rcv_i ho (l_read ho (h.2.2.2.1 r hr) hw (by omega) (by omega) ?_)
  refine rcv_i ho (t_write h ho hr hn hv hi (t_okV h hr (by omega)) (fun G1 q1 q2 q3 => ?_))
  refine rcv_i q3 (t_write q2 q3 hr hn hw hj (t_okV h hr (by omega)) (fun G2 p1 p2 p3 => ?_))
  exact hp G2 (fr_tr q1 p1) p2 p3
theorem c_swap {v w x : Int32} (h : TwR G L S) (hp : tRes L G post postX (sp_at S (S_at S v) w fun r b n i => if 0 ≤ x.toInt ∧ x.toInt < n then (0, if S.2.1 r (b + i) = S.2.1 r (b + x.toInt.toNat) then 0 else 1, S_exch S r (b + i) (b + x.toInt.toNat)) else (1, 0, S))) : w_X1_swap K post postX (some L.1) v w x G := by
  refine c_rcv h (c_listAt h (fun c => ?_) (fun o r b n c1 c2 c3 c4 => ?_))
  · rw [c] at hp; exact (hp G (fr_rf _ _) h).2.1 rfl
  · rw [c1] at hp
    refine c_checkPlace c2 (by omega) (fun i hi e => ?_) (fun c => ?_)
    · subst e
      simp only [sp_at, if_pos (nI_inn hi (show n < 2 ^ 31 by omega)), nI_nat (show i < 2 ^ 31 by omega)] at hp
      refine c_checkPlace c2 (by omega) (fun j hj e => ?_) (fun c => ?_)
      · subst e
        simp only [if_pos (nI_inn hj (show n < 2 ^ 31 by omega)), nI_nat (show j < 2 ^ 31 by omega)] at hp
        have hv := h.2.2.2.1 r c3
        refine rcv_i c2 (l_read c2 hv rfl (by omega) (by omega) (rcv_i c2 (l_read c2 hv rfl (by omega) (by omega) ⟨fun c => ?_, fun c => ?_⟩)))
        · rw [if_neg c] at hp
          exact rcv_i c2 (c_exchange h c2 c3 c4 rfl rfl hi hj (fun G' q1 q2 _ => (hp G' q1 q2).1 rfl))
        · rw [if_pos c] at hp
          exact rcv_i c2 (c_exchange h c2 c3 c4 rfl rfl hi hj (fun G' q1 q2 _ => (hp G' q1 q2).1 rfl))
      · rw [if_neg c] at hp
        exact (hp G (fr_rf _ _) h).2.1 rfl
    · simp only [sp_at, if_neg c] at hp
      exact (hp G (fr_rf _ _) h).2.1 rfl
end CLD
