/-! searching -/
def fpF (f : Nat → Int32) (x : Int32) : Nat → Nat → Int32
  | 0, _ => -1
  | k + 1, i => if f i = x then nI i else fpF f x k (i + 1)
def lpF (f : Nat → Int32) (x : Int32) : Nat → Int32
  | 0 => -1
  | k + 1 => if f k = x then nI k else lpF f x k
def ofF (f : Nat → Int32) (x : Int32) : Nat → Int32
  | 0 => 0
  | k + 1 => ofF f x k + (if f k = x then 1 else 0)
/-- is it anywhere among the first n? -/
def hasF (f : Nat → Int32) (x : Int32) (n : Nat) : Bool := (List.range n).any fun i => decide (f i = x)
theorem fpF_ne (f : Nat → Int32) (x : Int32) : ∀ k i, i + k < 2 ^ 31 → (fpF f x k i = -1 ↔ ∀ j, i ≤ j → j < i + k → f j ≠ x)
  | 0, i, _ => ⟨fun _ j h1 h2 => absurd h2 (by omega), fun _ => rfl⟩
  | k + 1, i, h => by
    show (if f i = x then nI i else fpF f x k (i + 1)) = -1 ↔ _
    by_cases c : f i = x
    · rw [if_pos c]
      refine ⟨fun q => ?_, fun q => absurd c (q i (by omega) (by omega))⟩
      exact absurd (show nI i < 0 by rw [q]; decide) (nI_pos (by omega))
    · rw [if_neg c, fpF_ne f x k (i + 1) (by omega)]
      refine ⟨fun q j h1 h2 => ?_, fun q j h1 h2 => q j (by omega) (by omega)⟩
      by_cases e : j = i
      · rw [e]; exact c
      · exact q j (by omega) (by omega)
section SRC
variable {K : tK} {G : tG} {o v b n N : Nat} {r : Int32} {f : Nat → Int32} {x : Int32}
theorem c_firstPlace {pk : Int32 → tG → Prop} (ho : G o = some (oRL r v b n)) (hv : G v = some (eI N f)) (hN : N < 2 ^ 31) (hb : b + n ≤ N) (h : pk (fpF (fun i => f (b + i)) x n 0) G) : w_X1_firstPlace K pk (some o) x G := by
  have main : ∀ k i, i + k = n → pk (fpF (fun i => f (b + i)) x k i) G → w_X1_firstPlace_2 K pk (k + 1) (some o) x (nI i) G := by
    intro k
    induction k with
    | zero =>
      intro i hi hp
      show w_X1_firstPlace_2_b K pk (w_X1_firstPlace_2 K pk 0) (some o) x (nI i) G
      exact gfI_i ho rfl ⟨fun _ => hp, fun c => absurd (nI_le (by omega) (by omega)) c⟩
    | succ k ih =>
      intro i hi hp
      show w_X1_firstPlace_2_b K pk (w_X1_firstPlace_2 K pk (k + 1)) (some o) x (nI i) G
      refine gfI_i ho rfl ⟨fun c => absurd c (nI_ge (by omega) (by omega)), fun _ => rcv_i ho (l_read ho hv rfl (by omega) hN ⟨fun c => ?_, fun c => ?_⟩)⟩
      · simp only [fpF, if_neg c] at hp
        rw [nI_1]
        exact ih (i + 1) (by omega) hp
      · simp only [fpF, if_pos c] at hp
        exact hp
  exact ⟨n + 1, main n 0 (by omega) h⟩
theorem c_lastPlace {pk : Int32 → tG → Prop} (ho : G o = some (oRL r v b n)) (hv : G v = some (eI N f)) (hN : N < 2 ^ 31) (hb : b + n ≤ N) (h : pk (lpF (fun i => f (b + i)) x n) G) : w_X1_lastPlace K pk (some o) x G := by
  have main : ∀ k, k ≤ n → pk (lpF (fun i => f (b + i)) x k) G → w_X1_lastPlace_7 K pk (k + 1) (some o) x (nI k - 1) G := by
    intro k
    induction k with
    | zero =>
      intro hi hp
      show w_X1_lastPlace_7_b K pk (w_X1_lastPlace_7 K pk 0) (some o) x (nI 0 - 1) G
      exact ⟨fun _ => hp, fun c => absurd (by decide) c⟩
    | succ k ih =>
      intro hi hp
      show w_X1_lastPlace_7_b K pk (w_X1_lastPlace_7 K pk (k + 1)) (some o) x (nI (k + 1) - 1) G
      rw [nI_pred]
      refine ⟨fun c => absurd c (nI_pos (by omega)), fun _ => rcv_i ho (l_read ho hv rfl (by omega) hN ⟨fun c => ?_, fun c => ?_⟩)⟩
      · simp only [lpF, if_neg c] at hp
        have e : nI k + (-1 : Int32) = nI k - 1 := by rw [Int32.sub_eq_add_neg]
        rw [e]
        exact ih (by omega) hp
      · simp only [lpF, if_pos c] at hp
        exact hp
  exact gfI_i ho rfl ⟨n + 1, main n (by omega) h⟩
theorem c_stands {pk : Int32 → tG → Prop} (ho : G o = some (oRL r v b n)) (hv : G v = some (eI N f)) (hN : N < 2 ^ 31) (hb : b + n ≤ N) (h : pk (if fpF (fun i => f (b + i)) x n 0 = -1 then 0 else 1) G) : w_X1_stands K pk (some o) x G := by
  refine c_firstPlace ho hv hN hb ⟨fun c => ⟨by decide, ?_⟩, fun c => ⟨by decide, ?_⟩⟩
  · rw [if_pos c] at h; exact h
  · rw [if_neg c] at h; exact h
end SRC
section CLB
variable {K : tK} {G : tG} {L : tL} {S : tS} {post : Int32 → tG → Prop} {postX : String → tG → Prop}
abbrev S_v (S : tS) (r b : Nat) : Nat → Int32 := fun i => S.2.1 r (b + i)
theorem c_length {v : Int32} (h : TwR G L S) (hp : tRes L G post postX (sp_li S (S_at S v) fun r b n => (0, nI n, S))) : w_X1_length K post postX (some L.1) v G := by
  refine c_rcv h (c_listAt h (fun c => ?_) (fun o r b n c1 c2 c3 c4 => ?_))
  · rw [c] at hp; exact (hp G (fr_rf _ _) h).2.1 rfl
  · rw [c1] at hp; exact gfI_i c2 rfl ((hp G (fr_rf _ _) h).1 rfl)
theorem c_isEmpty {v : Int32} (h : TwR G L S) (hp : tRes L G post postX (sp_li S (S_at S v) fun r b n => (0, if n = 0 then 1 else 0, S))) : w_X1_isEmpty K post postX (some L.1) v G := by
  refine c_rcv h (c_listAt h (fun c => ?_) (fun o r b n c1 c2 c3 c4 => ?_))
  · rw [c] at hp; exact (hp G (fr_rf _ _) h).2.1 rfl
  · rw [c1] at hp
    refine gfI_i c2 rfl ⟨fun c => ⟨by decide, ?_⟩, fun c => ⟨by decide, ?_⟩⟩
    · have hn : ¬ n = 0 := fun e => c (by rw [e]; rfl)
      simp only [sp_li, if_neg hn] at hp
      exact (hp G (fr_rf _ _) h).1 rfl
    · have hn : n = 0 := Decidable.byContradiction fun e => nI_ne0 (by omega) (by omega) c
      simp only [sp_li, if_pos hn] at hp
      exact (hp G (fr_rf _ _) h).1 rfl
theorem c_indexOf {v x : Int32} (h : TwR G L S) (hp : tRes L G post postX (sp_li S (S_at S v) fun r b n => if okV x then (0, fpF (S_v S r b) x n 0, S) else (2, 0, S))) : w_X1_indexOf K post postX (some L.1) v x G := by
  refine c_rcv h (c_listAt h (fun c => ?_) (fun o r b n c1 c2 c3 c4 => ?_))
  · rw [c] at hp; exact (hp G (fr_rf _ _) h).2.1 rfl
  · rw [c1] at hp
    refine c_checkValue (fun hx => ?_) (fun hx => ?_)
    · simp only [sp_li, if_pos hx] at hp
      exact c_firstPlace c2 (h.2.2.2.1 r c3) (by decide) c4 ((hp G (fr_rf _ _) h).1 rfl)
    · simp only [sp_li, if_neg hx] at hp
      exact (hp G (fr_rf _ _) h).2.2 rfl
theorem c_lastIndexOf {v x : Int32} (h : TwR G L S) (hp : tRes L G post postX (sp_li S (S_at S v) fun r b n => if okV x then (0, lpF (S_v S r b) x n, S) else (2, 0, S))) : w_X1_lastIndexOf K post postX (some L.1) v x G := by
  refine c_rcv h (c_listAt h (fun c => ?_) (fun o r b n c1 c2 c3 c4 => ?_))
  · rw [c] at hp; exact (hp G (fr_rf _ _) h).2.1 rfl
  · rw [c1] at hp
    refine c_checkValue (fun hx => ?_) (fun hx => ?_)
    · simp only [sp_li, if_pos hx] at hp
      exact c_lastPlace c2 (h.2.2.2.1 r c3) (by decide) c4 ((hp G (fr_rf _ _) h).1 rfl)
    · simp only [sp_li, if_neg hx] at hp
      exact (hp G (fr_rf _ _) h).2.2 rfl
theorem c_has {v x : Int32} (h : TwR G L S) (hp : tRes L G post postX (sp_li S (S_at S v) fun r b n => if okV x then (0, if fpF (S_v S r b) x n 0 = -1 then 0 else 1, S) else (2, 0, S))) : w_X1_has K post postX (some L.1) v x G := by
  refine c_rcv h (c_listAt h (fun c => ?_) (fun o r b n c1 c2 c3 c4 => ?_))
  · rw [c] at hp; exact (hp G (fr_rf _ _) h).2.1 rfl
  · rw [c1] at hp
    refine c_checkValue (fun hx => ?_) (fun hx => ?_)
    · simp only [sp_li, if_pos hx] at hp
      refine c_stands c2 (h.2.2.2.1 r c3) (by decide) c4 ⟨?_, (hp G (fr_rf _ _) h).1 rfl⟩
      split <;> decide
    · simp only [sp_li, if_neg hx] at hp
      exact (hp G (fr_rf _ _) h).2.2 rfl
/-! what is refused -/
theorem c_add {v x : Int32} (h : TwR G L S) (hp : tRes L G post postX (sp_li S (S_at S v) fun _ _ _ => if okV x then (0, -9, S_ref S) else (2, 0, S))) : w_X1_add K post postX (some L.1) v x G := by
  refine c_rcv h (c_listAt h (fun c => ?_) (fun o r b n c1 c2 c3 c4 => ?_))
  · rw [c] at hp; exact (hp G (fr_rf _ _) h).2.1 rfl
  · rw [c1] at hp
    refine c_checkValue (fun hx => ?_) (fun hx => ?_)
    · simp only [sp_li, if_pos hx] at hp
      exact c_rcv h (c_refuseIf h (fun _ G' q1 q2 => (hp G' q1 q2).1 rfl) (fun q => absurd q (by decide)))
    · simp only [sp_li, if_neg hx] at hp
      exact (hp G (fr_rf _ _) h).2.2 rfl
theorem c_addAt {v w x : Int32} (h : TwR G L S) (hp : tRes L G post postX (sp_li S (S_at S v) fun _ _ n => if inR w 0 (nI n) ∧ okV x then (0, -9, S_ref S) else (2, 0, S))) : w_X1_addAt K post postX (some L.1) v w x G := by
  refine c_rcv h (c_listAt h (fun c => ?_) (fun o r b n c1 c2 c3 c4 => ?_))
  · rw [c] at hp; exact (hp G (fr_rf _ _) h).2.1 rfl
  · rw [c1] at hp
    refine gfI_i c2 rfl (c_checkNumber (fun hw => c_checkValue (fun hx => ?_) (fun hx => ?_)) (fun hw => ?_))
    · simp only [sp_li, if_pos (And.intro hw hx)] at hp
      exact c_rcv h (c_refuseIf h (fun _ G' q1 q2 => (hp G' q1 q2).1 rfl) (fun q => absurd q (by decide)))
    · simp only [sp_li, if_neg (fun q : inR w 0 (nI n) ∧ okV x => hx q.2)] at hp
      exact (hp G (fr_rf _ _) h).2.2 rfl
    · simp only [sp_li, if_neg (fun q : inR w 0 (nI n) ∧ okV x => hw q.1)] at hp
      exact (hp G (fr_rf _ _) h).2.2 rfl
theorem c_remove {v w : Int32} (h : TwR G L S) (hp : tRes L G post postX (sp_at S (S_at S v) w fun _ _ _ _ => (0, -9, S_ref S))) : w_X1_remove K post postX (some L.1) v w G := by
  refine c_rcv h (c_listAt h (fun c => ?_) (fun o r b n c1 c2 c3 c4 => ?_))
  · rw [c] at hp; exact (hp G (fr_rf _ _) h).2.1 rfl
  · rw [c1] at hp
    refine c_checkPlace c2 (by omega) (fun i hi e => ?_) (fun c => ?_)
    · subst e
      simp only [sp_at, if_pos (nI_inn hi (show n < 2 ^ 31 by omega))] at hp
      exact c_rcv h (c_refuseIf h (fun _ G' q1 q2 => (hp G' q1 q2).1 rfl) (fun q => absurd q (by decide)))
    · simp only [sp_at, if_neg c] at hp
      exact (hp G (fr_rf _ _) h).2.1 rfl
theorem c_walkChange {v w x : Int32} (h : TwR G L S) (hp : tRes L G post postX (sp_at S (S_at S v) w fun _ _ _ _ => if inR x 0 2 then (0, -9, S_ref S) else (2, 0, S))) : w_X1_walkChange K post postX (some L.1) v w x G := by
  refine c_rcv h (c_listAt h (fun c => ?_) (fun o r b n c1 c2 c3 c4 => ?_))
  · rw [c] at hp; exact (hp G (fr_rf _ _) h).2.1 rfl
  · rw [c1] at hp
    refine c_checkPlace c2 (by omega) (fun i hi e => ?_) (fun c => ?_)
    · subst e
      simp only [sp_at, if_pos (nI_inn hi (show n < 2 ^ 31 by omega))] at hp
      refine c_checkNumber (fun hx => ?_) (fun hx => ?_)
      · rw [if_pos hx] at hp
        exact c_rcv h (c_refuseIf h (fun _ G' q1 q2 => (hp G' q1 q2).1 rfl) (fun q => absurd q (by decide)))
      · rw [if_neg hx] at hp
        exact (hp G (fr_rf _ _) h).2.2 rfl
    · simp only [sp_at, if_neg c] at hp
      exact (hp G (fr_rf _ _) h).2.1 rfl
theorem c_clear {v : Int32} (h : TwR G L S) (hp : tRes L G post postX (sp_li S (S_at S v) fun _ _ n => if n = 0 then (0, 0, S) else (0, -9, S_ref S))) : w_X1_clear K post postX (some L.1) v G := by
  refine c_rcv h (c_listAt h (fun c => ?_) (fun o r b n c1 c2 c3 c4 => ?_))
  · rw [c] at hp; exact (hp G (fr_rf _ _) h).2.1 rfl
  · rw [c1] at hp
    refine gfI_i c2 rfl ⟨fun c => c_rcv h (c_refuseIf h (fun q => absurd rfl q) (fun _ => ?_)), fun c => c_rcv h (c_refuseIf h (fun _ G' q1 q2 => ?_) (fun q => absurd q (by decide)))⟩
    · have hn : n = 0 := Decidable.byContradiction fun e => nI_nle (by omega) (by omega) c
      simp only [sp_li, if_pos hn] at hp
      exact (hp G (fr_rf _ _) h).1 rfl
    · have hn : ¬ n = 0 := fun e => c (by rw [e]; decide)
      simp only [sp_li, if_neg hn] at hp
      exact (hp G' q1 q2).1 rfl
theorem c_removeValue {v x : Int32} (h : TwR G L S) (hp : tRes L G post postX (sp_li S (S_at S v) fun r b n => if okV x then (if fpF (S_v S r b) x n 0 = -1 then (0, 0, S) else (0, -9, S_ref S)) else (2, 0, S))) : w_X1_removeValue K post postX (some L.1) v x G := by
  refine c_rcv h (c_listAt h (fun c => ?_) (fun o r b n c1 c2 c3 c4 => ?_))
  · rw [c] at hp; exact (hp G (fr_rf _ _) h).2.1 rfl
  · rw [c1] at hp
    refine c_checkValue (fun hx => ?_) (fun hx => ?_)
    · simp only [sp_li, if_pos hx] at hp
      refine c_stands c2 (h.2.2.2.1 r c3) (by decide) c4 ?_
      by_cases c : fpF (S_v S r b) x n 0 = -1
      · rw [if_pos c] at hp
        rw [if_pos c]
        exact c_rcv h (c_refuseIf h (fun q => absurd rfl q) (fun _ => (hp G (fr_rf _ _) h).1 rfl))
      · rw [if_neg c] at hp
        rw [if_neg c]
        exact c_rcv h (c_refuseIf h (fun _ G' q1 q2 => (hp G' q1 q2).1 rfl) (fun q => absurd q (by decide)))
    · simp only [sp_li, if_neg hx] at hp
      exact (hp G (fr_rf _ _) h).2.2 rfl
end CLB
