/-! counting, sums, tests, rules -/
def tsF (test number x : Int32) : Int32 := if test = 0 then (if x = -1000 then 1 else 0) else if test = 1 then (if x = number then 1 else 0) else (if x = -1000 then 0 else if number ≤ x then 0 else 1)
def otF (f : Nat → Int32) (test number : Int32) : Nat → Nat → Int32
  | 0, _ => 0
  | k + 1, i => if tsF test number (f i) = 0 then otF f test number k (i + 1) else 1
def wiF (x : Int32) : Int32 := if (-99 : Int32) < (if x < (99 : Int32) then x else (99 : Int32)) then (if x < (99 : Int32) then x else (99 : Int32)) else (-99 : Int32)
def ruF (rule number x : Int32) : Int32 := if rule = 0 then wiF (nuF x + number) else if rule = 1 then (if nuF x < number then number else nuF x) else if rule = 2 then wiF (nuF x * number) else (if nuF x = number then -1000 else nuF x)
theorem wiF_ok (x : Int32) : okV (wiF x) := by
  refine Or.inr ?_
  unfold wiF
  have e1 : (99 : Int32).toInt = 99 := rfl
  have e2 : (-99 : Int32).toInt = -99 := rfl
  by_cases d : x < 99
  · simp only [if_pos d]
    by_cases c : -99 < x
    · rw [if_pos c]
      rw [i32_lt] at c d; exact ⟨fun q => by rw [i32_lt] at q; omega, by rw [i32_le]; omega⟩
    · rw [if_neg c]; exact ⟨by decide, by decide⟩
  · simp only [if_neg d]
    exact ⟨by decide, by decide⟩
theorem nuF_in {x : Int32} (h : okV x) : inR (nuF x) (-99) 99 := by
  unfold nuF
  by_cases c : x = -1000
  · rw [if_pos c]; exact ⟨by decide, by decide⟩
  · rw [if_neg c]; exact h.resolve_left c
theorem ruF_ok {rule number x : Int32} (hx : okV x) (hn : inR number (-99) 99) : okV (ruF rule number x) := by
  unfold ruF
  split
  · exact wiF_ok _
  · split
    · split
      · exact Or.inr hn
      · exact Or.inr (nuF_in hx)
    · split
      · exact wiF_ok _
      · split
        · exact Or.inl rfl
        · exact Or.inr (nuF_in hx)
section SRG
variable {K : tK} {G : tG} {o v b n N : Nat} {r : Int32} {f : Nat → Int32}
theorem c_isOfTest {pk : Int32 → tG → Prop} {x t w : Int32} (h : pk (tsF t w x) G) : w_X1_isOfTest K pk x t w G := by
  unfold tsF at h
  refine ⟨fun c => ?_, fun c => ?_, fun c => ?_⟩
  · rw [if_pos c] at h
    refine ⟨fun d => ⟨by decide, ?_⟩, fun d => ⟨by decide, ?_⟩⟩
    · rw [if_neg d] at h; exact h
    · rw [if_pos d] at h; exact h
  · have c0 : ¬ t = 0 := by rw [c]; decide
    rw [if_neg c0, if_pos c] at h
    refine ⟨fun d => ⟨by decide, ?_⟩, fun d => ⟨by decide, ?_⟩⟩
    · rw [if_neg d] at h; exact h
    · rw [if_pos d] at h; exact h
  · rw [if_neg c.1, if_neg c.2] at h
    refine ⟨fun d => ⟨by decide, ?_⟩, fun d => ⟨fun d2 => ⟨by decide, ?_⟩, fun d2 => ⟨by decide, ?_⟩⟩⟩
    · rw [if_pos d] at h; exact h
    · rw [if_neg d, if_pos d2] at h; exact h
    · rw [if_neg d, if_neg d2] at h; exact h
theorem c_hasOneOfTest {pk : Int32 → tG → Prop} {t w : Int32} (ho : G o = some (oRL r v b n)) (hv : G v = some (eI N f)) (hN : N < 2 ^ 31) (hb : b + n ≤ N) (h : pk (otF (fun i => f (b + i)) t w n 0) G) : w_X1_hasOneOfTest K pk (some o) t w G := by
  have main : ∀ k i, i + k = n → pk (otF (fun i => f (b + i)) t w k i) G → w_X1_hasOneOfTest_2 K pk (k + 1) (some o) t w (nI i) G := by
    intro k
    induction k with
    | zero =>
      intro i hi hp
      show w_X1_hasOneOfTest_2_b K pk (w_X1_hasOneOfTest_2 K pk 0) (some o) t w (nI i) G
      exact gfI_i ho rfl ⟨fun _ => ⟨by decide, hp⟩, fun c => absurd (nI_le (by omega) (by omega)) c⟩
    | succ k ih =>
      intro i hi hp
      show w_X1_hasOneOfTest_2_b K pk (w_X1_hasOneOfTest_2 K pk (k + 1)) (some o) t w (nI i) G
      refine gfI_i ho rfl ⟨fun c => absurd c (nI_ge (by omega) (by omega)), fun _ => rcv_i ho (l_read ho hv rfl (by omega) hN (c_isOfTest ⟨fun c => ?_, fun c => ⟨by decide, ?_⟩⟩))⟩
      · have c : tsF t w ((fun i => f (b + i)) i) = 0 := c
        simp only [otF, if_pos c] at hp
        rw [nI_1]
        exact ih (i + 1) (by omega) hp
      · have c : ¬ tsF t w ((fun i => f (b + i)) i) = 0 := c
        simp only [otF, if_neg c] at hp
        exact hp
  exact ⟨n + 1, main n 0 (by omega) h⟩
theorem c_within {pk : Int32 → tG → Prop} {x : Int32} (h : pk (wiF x) G) : w_X1_withinNumbers K pk x G := h
theorem c_ruled {pk : Int32 → tG → Prop} {x rule w : Int32} (hr : inR rule 0 3) (h : pk (ruF rule w x) G) : w_X1_ruled K pk x rule w G := by
  refine c_numberOf ?_
  unfold ruF at h
  refine ⟨fun c => ?_, fun c => ?_, fun c => ?_, fun c => ?_⟩
  · rw [if_pos c] at h; exact h
  · have c0 : ¬ rule = 0 := by rw [c]; decide
    rw [if_neg c0, if_pos c] at h; exact h
  · have c0 : ¬ rule = 0 := by rw [c]; decide
    have c1 : ¬ rule = 1 := by rw [c]; decide
    rw [if_neg c0, if_neg c1, if_pos c] at h; exact h
  · have c0 : ¬ rule = 0 := fun e => by rw [e] at c; revert c; decide
    have c1 : ¬ rule = 1 := fun e => by rw [e] at c; revert c; decide
    have c2 : ¬ rule = 2 := fun e => by rw [e] at c; revert c; decide
    rw [if_neg c0, if_neg c1, if_neg c2] at h
    refine ⟨fun d => ?_, fun d => ?_⟩
    · rw [if_neg d] at h; exact h
    · rw [if_pos d] at h; exact h
end SRG
section CLG
variable {K : tK} {G : tG} {L : tL} {S : tS} {post : Int32 → tG → Prop} {postX : String → tG → Prop}
theorem c_sum {v : Int32} (h : TwR G L S) (hp : tRes L G post postX (sp_li S (S_at S v) fun r b n => (0, suF (S_v S r b) n, S))) : w_X1_sum K post postX (some L.1) v G := by
  refine c_rcv h (c_listAt h (fun c => ?_) (fun o r b n c1 c2 c3 c4 => ?_))
  · rw [c] at hp; exact (hp G (fr_rf _ _) h).2.1 rfl
  · rw [c1] at hp
    have hp := (hp G (fr_rf _ _) h).1 rfl
    have main : ∀ k i, i + k = n → w_X1_sum_11 K post postX (k + 1) (some o) (suF (S_v S r b) i) (nI i) G := by
      intro k
      induction k with
      | zero =>
        intro i hi
        show w_X1_sum_11_b K post postX (w_X1_sum_11 K post postX 0) (some o) (suF (S_v S r b) i) (nI i) G
        have e : i = n := by omega
        subst e
        exact gfI_i c2 rfl ⟨fun _ => hp, fun c => absurd (nI_le (by omega) (by omega)) c⟩
      | succ k ih =>
        intro i hi
        show w_X1_sum_11_b K post postX (w_X1_sum_11 K post postX (k + 1)) (some o) (suF (S_v S r b) i) (nI i) G
        refine gfI_i c2 rfl ⟨fun c => absurd c (nI_ge (by omega) (by omega)), fun _ => rcv_i c2 (l_read c2 (h.2.2.2.1 r c3) rfl (by omega) (by omega) (c_numberOf ?_))⟩
        rw [nI_1]
        exact ih (i + 1) (by omega)
    exact ⟨n + 1, main n 0 (by omega)⟩
theorem c_often {v x : Int32} (h : TwR G L S) (hp : tRes L G post postX (sp_li S (S_at S v) fun r b n => if okV x then (0, ofF (S_v S r b) x n, S) else (2, 0, S))) : w_X1_often K post postX (some L.1) v x G := by
  refine c_rcv h (c_listAt h (fun c => ?_) (fun o r b n c1 c2 c3 c4 => ?_))
  · rw [c] at hp; exact (hp G (fr_rf _ _) h).2.1 rfl
  · rw [c1] at hp
    refine c_checkValue (fun hx => ?_) (fun hx => ?_)
    · simp only [sp_li, if_pos hx] at hp
      have hp := (hp G (fr_rf _ _) h).1 rfl
      have main : ∀ k i, i + k = n → w_X1_often_16 K post postX (k + 1) x (some o) (ofF (S_v S r b) x i) (nI i) G := by
        intro k
        induction k with
        | zero =>
          intro i hi
          show w_X1_often_16_b K post postX (w_X1_often_16 K post postX 0) x (some o) (ofF (S_v S r b) x i) (nI i) G
          have e : i = n := by omega
          subst e
          exact gfI_i c2 rfl ⟨fun _ => hp, fun c => absurd (nI_le (by omega) (by omega)) c⟩
        | succ k ih =>
          intro i hi
          show w_X1_often_16_b K post postX (w_X1_often_16 K post postX (k + 1)) x (some o) (ofF (S_v S r b) x i) (nI i) G
          have hi2 := ih (i + 1) (by omega)
          refine gfI_i c2 rfl ⟨fun c => absurd c (nI_ge (by omega) (by omega)), fun _ => rcv_i c2 (l_read c2 (h.2.2.2.1 r c3) rfl (by omega) (by omega) ⟨fun c => ?_, fun c => ?_⟩)⟩
          · show w_X1_often_16 K post postX (k + 1) x (some o) (ofF (S_v S r b) x i + 0) (nI i + 1) G
            rw [nI_1]
            have e : ofF (S_v S r b) x (i + 1) = ofF (S_v S r b) x i + 0 := by show _ + (if _ then _ else _) = _; rw [if_neg c]
            rw [e] at hi2; exact hi2
          · show w_X1_often_16 K post postX (k + 1) x (some o) (ofF (S_v S r b) x i + 1) (nI i + 1) G
            rw [nI_1]
            have e : ofF (S_v S r b) x (i + 1) = ofF (S_v S r b) x i + 1 := by show _ + (if _ then _ else _) = _; rw [if_pos c]
            rw [e] at hi2; exact hi2
      exact ⟨n + 1, main n 0 (by omega)⟩
    · simp only [sp_li, if_neg hx] at hp
      exact (hp G (fr_rf _ _) h).2.2 rfl
theorem c_removeIf {v t w : Int32} (h : TwR G L S) (hp : tRes L G post postX (sp_li S (S_at S v) fun r b n => if inR t 0 2 ∧ inR w (-99) 99 then (if otF (S_v S r b) t w n 0 = 0 then (0, 0, S) else (0, -9, S_ref S)) else (2, 0, S))) : w_X1_removeIf K post postX (some L.1) v t w G := by
  refine c_rcv h (c_listAt h (fun c => ?_) (fun o r b n c1 c2 c3 c4 => ?_))
  · rw [c] at hp; exact (hp G (fr_rf _ _) h).2.1 rfl
  · rw [c1] at hp
    refine c_checkNumber (fun ht => c_checkNumber (fun hw => ?_) (fun hw => ?_)) (fun ht => ?_)
    · simp only [sp_li, if_pos (And.intro ht hw)] at hp
      refine c_hasOneOfTest c2 (h.2.2.2.1 r c3) (by decide) c4 (c_rcv h (c_refuseIf h (fun c G' q1 q2 => ?_) (fun c => ?_)))
      · rw [if_neg c] at hp; exact (hp G' q1 q2).1 rfl
      · rw [if_pos c] at hp; exact (hp G (fr_rf _ _) h).1 rfl
    · simp only [sp_li, if_neg (fun q : inR t 0 2 ∧ inR w (-99) 99 => hw q.2)] at hp
      exact (hp G (fr_rf _ _) h).2.2 rfl
    · simp only [sp_li, if_neg (fun q : inR t 0 2 ∧ inR w (-99) 99 => ht q.1)] at hp
      exact (hp G (fr_rf _ _) h).2.2 rfl
/-- the places that a walker writes: from a on, or down from a -/
def plF (a : Nat) (back : Int32) (i : Nat) : Nat := if back = 0 then a + i else a - 1 - i
def wrF (S : tS) (r b a : Nat) (back rule w : Int32) : Nat → tS
  | 0 => S
  | k + 1 => S_put (wrF S r b a back rule w k) r (b + plF a back k) (ruF rule w ((wrF S r b a back rule w k).2.1 r (b + plF a back k)))
def slF (a n : Nat) (back : Int32) : Nat := if back = 0 then n - a else a
theorem c_placeAfter {pk : Int32 → tG → Prop} {a i : Nat} {back : Int32} (hi : back ≠ 0 → i < a) (h : pk (nI (plF a back i)) G) : w_X1_placeAfter K pk (nI a) (nI i) back G := by
  unfold plF at h
  refine ⟨fun c => ?_, fun c => ?_⟩
  · rw [if_pos c] at h
    show pk (nI a + nI i) G
    rw [nI_add]; exact h
  · rw [if_neg c] at h
    show pk (nI a - 1 - nI i) G
    have e : nI a - 1 - nI i = nI (a - 1 - i) := by
      have hi := hi c
      have e1 : nI a = nI (a - 1 - i) + nI i + 1 := by rw [nI_add, nI_1]; congr 1; omega
      rw [e1, Int32.add_sub_cancel, Int32.add_sub_cancel]
    rw [e]; exact h
theorem c_writeRuled {o r b n a : Nat} {back rule w : Int32} {pv : Int32 → tG → Prop} (h : TwR G L S) (c2 : G o = some (oRL (nI r) (L.2.2.2 r) b n)) (c3 : r < 3) (c4 : b + n ≤ 12) (ha : a ≤ n) (hr : inR rule 0 3) (hw : inR w (-99) 99) (hp : ∀ G', fr (clsW L) G G' → TwR G' L (wrF S r b a back rule w (slF a n back)) → pv (nI (slF a n back)) G') : w_X1_writeRuled K pv (some o) (nI a) rule w back G := by
  have hs : slF a n back ≤ n := by unfold slF; split <;> omega
  have hpl : ∀ i, i < slF a n back → plF a back i < n ∧ (back ≠ 0 → i < a) := by
    intro i hi
    unfold slF at hi; unfold plF
    by_cases c : back = 0
    · rw [if_pos c] at hi ⊢; exact ⟨by omega, fun q => absurd c q⟩
    · rw [if_neg c] at hi ⊢; exact ⟨by omega, fun _ => hi⟩
  have main : ∀ k i G1, i + k = slF a n back → fr (clsW L) G G1 → TwR G1 L (wrF S r b a back rule w i) → G1 o = some (oRL (nI r) (L.2.2.2 r) b n) → w_X1_writeRuled_12 K pv (k + 1) (some o) (nI a) rule w back (nI (slF a n back)) (nI i) G1 := by
    intro k
    induction k with
    | zero =>
      intro i G1 hi hf h1 ho1
      show w_X1_writeRuled_12_b K pv (w_X1_writeRuled_12 K pv 0) (some o) (nI a) rule w back (nI (slF a n back)) (nI i) G1
      have e : i = slF a n back := by omega
      subst e
      exact ⟨fun _ => hp G1 hf h1, fun c => absurd (nI_le (by omega) (by omega)) c⟩
    | succ k ih =>
      intro i G1 hi hf h1 ho1
      show w_X1_writeRuled_12_b K pv (w_X1_writeRuled_12 K pv (k + 1)) (some o) (nI a) rule w back (nI (slF a n back)) (nI i) G1
      have hq := hpl i (by omega)
      refine ⟨fun c => absurd c (nI_ge (by omega) (by omega)), fun _ => c_placeAfter hq.2 (rcv_i ho1 (l_read ho1 (h1.2.2.2.1 r c3) rfl (by omega) (by omega) (c_ruled hr (rcv_i ho1 (t_write h1 ho1 c3 c4 rfl hq.1 (ruF_ok (t_okV h1 c3 (by omega)) hw) (fun G' q1 q2 q3 => ?_))))))⟩
      rw [nI_1]
      exact ih (i + 1) G' (by omega) (fr_tr hf q1) q2 q3
  have fin : ∃ n1 : Nat, w_X1_writeRuled_12 K pv n1 (some o) (nI a) rule w back (nI (slF a n back)) 0 G := ⟨slF a n back + 1, main _ 0 G (by omega) (fr_rf _ _) h c2⟩
  refine ⟨fun c => gfI_i c2 rfl ?_, fun c => ?_⟩
  · have e : nI n - nI a = nI (slF a n back) := by
      unfold slF; rw [if_pos c]
      have e1 : nI n = nI (n - a) + nI a := by rw [nI_add]; congr 1; omega
      rw [e1, Int32.add_sub_cancel]
    show ∃ n1 : Nat, w_X1_writeRuled_12 K pv n1 (some o) (nI a) rule w back (nI n - nI a) 0 G
    rw [e]; exact fin
  · have e : nI a = nI (slF a n back) := by unfold slF; rw [if_neg c]
    show ∃ n1 : Nat, w_X1_writeRuled_12 K pv n1 (some o) (nI a) rule w back (nI a) 0 G
    have fin2 := fin
    rw [← e] at fin2
    exact fin2
end CLG
