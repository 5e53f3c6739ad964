/-! comparing two lists, sums -/
def haF (f g : Nat → Int32) : Nat → Nat → Int32
  | 0, _ => 1
  | k + 1, i => if f i = g i then haF f g k (i + 1) else 0
def stF (f : Nat → Int32) (n : Nat) (x : Int32) : Int32 := if fpF f x n 0 = -1 then 0 else 1
/-- is there a value of f that stands in g (is = 1), or doesn't (is = 0)? -/
def onF (f g : Nat → Int32) (n : Nat) (is : Int32) : Nat → Nat → Int32
  | 0, _ => 0
  | k + 1, i => if stF g n (f i) = is then 1 else onF f g n is k (i + 1)
def nuF (x : Int32) : Int32 := if x = -1000 then 0 else x
def coF (f : Nat → Int32) : Nat → Int32
  | 0 => 1
  | k + 1 => 31 * coF f k + nuF (f k)
def suF (f : Nat → Int32) : Nat → Int32
  | 0 => 0
  | k + 1 => suF f k + nuF (f k)
theorem haF_01 (f g : Nat → Int32) : ∀ k i, haF f g k i = 0 ∨ haF f g k i = 1
  | 0, _ => Or.inr rfl
  | k + 1, i => by
    show (if f i = g i then haF f g k (i + 1) else 0) = 0 ∨ (if f i = g i then haF f g k (i + 1) else 0) = 1
    by_cases c : f i = g i
    · rw [if_pos c]; exact haF_01 f g k (i + 1)
    · rw [if_neg c]; exact Or.inl rfl
theorem nar_01 {x : Int32} (h : x = 0 ∨ x = 1) : narrow .boolean (.int x) = .int x := by rcases h with rfl | rfl <;> decide
section SRD
variable {K : tK} {G : tG} {o v b n N o2 v2 b2 n2 N2 : Nat} {r r2 : Int32} {f f2 : Nat → Int32}
theorem c_numberOf {pk : Int32 → tG → Prop} {x : Int32} (h : pk (nuF x) G) : w_X1_numberOf K pk x G := by
  refine ⟨fun c => ?_, fun c => ?_⟩
  · unfold nuF at h; rw [if_neg c] at h; exact h
  · unfold nuF at h; rw [if_pos c] at h; exact h
theorem c_hasAllFrom {pk : Int32 → tG → Prop} {a : Nat} (ho : G o = some (oRL r v b n)) (hv : G v = some (eI N f)) (hN : N < 2 ^ 31) (ho2 : G o2 = some (oRL r2 v2 b2 n2)) (hv2 : G v2 = some (eI N2 f2)) (hN2 : N2 < 2 ^ 31) (hb : b + a + n2 ≤ N) (hb2 : b2 + n2 ≤ N2) (h : pk (haF (fun i => f (b + (a + i))) (fun i => f2 (b2 + i)) n2 0) G) : w_X1_hasAllFrom K pk (some o) (nI a) (some o2) G := by
  have main : ∀ k i, i + k = n2 → pk (haF (fun i => f (b + (a + i))) (fun i => f2 (b2 + i)) k i) G → w_X1_hasAllFrom_2 K pk (k + 1) (some o) (nI a) (some o2) (nI i) G := by
    intro k
    induction k with
    | zero =>
      intro i hi hp
      show w_X1_hasAllFrom_2_b K pk (w_X1_hasAllFrom_2 K pk 0) (some o) (nI a) (some o2) (nI i) G
      exact gfI_i ho2 rfl ⟨fun _ => ⟨by decide, hp⟩, fun c => absurd (nI_le (by omega) (by omega)) c⟩
    | succ k ih =>
      intro i hi hp
      show w_X1_hasAllFrom_2_b K pk (w_X1_hasAllFrom_2 K pk (k + 1)) (some o) (nI a) (some o2) (nI i) G
      refine gfI_i ho2 rfl ⟨fun c => absurd c (nI_ge (by omega) (by omega)), fun _ => rcv_i ho (l_read ho hv (nI_add a i) (by omega) hN (rcv_i ho2 (l_read ho2 hv2 rfl (by omega) hN2 ⟨fun c => ?_, fun c => ⟨by decide, ?_⟩⟩)))⟩
      · rw [nI_1]
        have c : (fun i => f (b + (a + i))) i = (fun i => f2 (b2 + i)) i := c
        simp only [haF, if_pos c] at hp
        exact ih (i + 1) (by omega) hp
      · have c : ¬ (fun i => f (b + (a + i))) i = (fun i => f2 (b2 + i)) i := c
        simp only [haF, if_neg c] at hp
        exact hp
  exact ⟨n2 + 1, main n2 0 (by omega) h⟩
theorem c_areSame {pk : Int32 → tG → Prop} (ho : G o = some (oRL r v b n)) (hv : G v = some (eI N f)) (hN : N < 2 ^ 31) (ho2 : G o2 = some (oRL r2 v2 b2 n2)) (hv2 : G v2 = some (eI N2 f2)) (hN2 : N2 < 2 ^ 31) (hb : b + n ≤ N) (hb2 : b2 + n2 ≤ N2) (h : pk (if n = n2 then haF (fun i => f (b + i)) (fun i => f2 (b2 + i)) n2 0 else 0) G) : w_X1_areSame K pk (some o) (some o2) G := by
  refine gfI_i ho rfl (gfI_i ho2 rfl ⟨fun c => ⟨by decide, ?_⟩, fun c => ?_⟩)
  · have : ¬ n = n2 := fun e => c (by rw [e])
    rw [if_neg this] at h; exact h
  · have e : n = n2 := (nI_eq (by omega) (by omega)).mp c
    rw [if_pos e] at h
    refine c_hasAllFrom (a := 0) ho hv hN ho2 hv2 hN2 (by omega) hb2 ?_
    simp only [Nat.zero_add]
    rcases haF_01 (fun i => f (b + i)) (fun i => f2 (b2 + i)) n2 0 with q | q
    · rw [q] at h ⊢
      exact ⟨fun _ => ⟨by decide, h⟩, fun z => absurd rfl z⟩
    · rw [q] at h ⊢
      exact ⟨fun z => absurd z (by decide), fun _ => ⟨by decide, h⟩⟩
theorem c_hasOne {pk : Int32 → tG → Prop} {is : Int32} (ho : G o = some (oRL r v b n)) (hv : G v = some (eI N f)) (hN : N < 2 ^ 31) (ho2 : G o2 = some (oRL r2 v2 b2 n2)) (hv2 : G v2 = some (eI N2 f2)) (hN2 : N2 < 2 ^ 31) (hb : b + n ≤ N) (hb2 : b2 + n2 ≤ N2) (h : pk (onF (fun i => f (b + i)) (fun i => f2 (b2 + i)) n2 is n 0) G) : w_X1_hasOneThatStands K pk (some o) (some o2) is G := by
  have main : ∀ k i, i + k = n → pk (onF (fun i => f (b + i)) (fun i => f2 (b2 + i)) n2 is k i) G → w_X1_hasOneThatStands_2 K pk (k + 1) (some o) (some o2) is (nI i) G := by
    intro k
    induction k with
    | zero =>
      intro i hi hp
      show w_X1_hasOneThatStands_2_b K pk (w_X1_hasOneThatStands_2 K pk 0) (some o) (some o2) is (nI i) G
      exact gfI_i ho rfl ⟨fun _ => ⟨by decide, hp⟩, fun c => absurd (nI_le (by omega) (by omega)) c⟩
    | succ k ih =>
      intro i hi hp
      show w_X1_hasOneThatStands_2_b K pk (w_X1_hasOneThatStands_2 K pk (k + 1)) (some o) (some o2) is (nI i) G
      refine gfI_i ho rfl ⟨fun c => absurd c (nI_ge (by omega) (by omega)), fun _ => rcv_i ho (l_read ho hv rfl (by omega) hN (c_stands ho2 hv2 hN2 hb2 ?_))⟩
      by_cases c : stF (fun i => f2 (b2 + i)) n2 ((fun i => f (b + i)) i) = is
      · simp only [onF, if_pos c] at hp
        exact ⟨fun z => absurd c z, fun _ => ⟨by decide, hp⟩⟩
      · simp only [onF, if_neg c] at hp
        refine ⟨fun _ => ?_, fun z => absurd z c⟩
        rw [nI_1]
        exact ih (i + 1) (by omega) hp
  exact ⟨n + 1, main n 0 (by omega) h⟩
theorem onF_01 (f g : Nat → Int32) (n : Nat) (is : Int32) : ∀ k i, onF f g n is k i = 0 ∨ onF f g n is k i = 1
  | 0, _ => Or.inl rfl
  | k + 1, i => by
    show (if stF g n (f i) = is then 1 else onF f g n is k (i + 1)) = 0 ∨ (if stF g n (f i) = is then 1 else onF f g n is k (i + 1)) = 1
    by_cases c : stF g n (f i) = is
    · rw [if_pos c]; exact Or.inr rfl
    · rw [if_neg c]; exact onF_01 f g n is k (i + 1)
theorem c_codeOf {pk : Int32 → tG → Prop} (ho : G o = some (oRL r v b n)) (hv : G v = some (eI N f)) (hN : N < 2 ^ 31) (hb : b + n ≤ N) (h : pk (coF (fun i => f (b + i)) n) G) : w_X1_codeOf K pk (some o) 0 (nI n) G := by
  have main : ∀ k i, i + k = n → w_X1_codeOf_5 K pk (k + 1) (some o) (nI n) (coF (fun i => f (b + i)) i) (nI i) G := by
    intro k
    induction k with
    | zero =>
      intro i hi
      show w_X1_codeOf_5_b K pk (w_X1_codeOf_5 K pk 0) (some o) (nI n) (coF (fun i => f (b + i)) i) (nI i) G
      have e : i = n := by omega
      subst e
      exact ⟨fun _ => h, fun c => absurd (nI_le (by omega) (by omega)) c⟩
    | succ k ih =>
      intro i hi
      show w_X1_codeOf_5_b K pk (w_X1_codeOf_5 K pk (k + 1)) (some o) (nI n) (coF (fun i => f (b + i)) i) (nI i) G
      refine ⟨fun c => absurd c (nI_ge (by omega) (by omega)), fun _ => rcv_i ho (l_read ho hv rfl (by omega) hN (c_numberOf ?_))⟩
      rw [nI_1]
      exact ih (i + 1) (by omega)
  exact ⟨n + 1, main n 0 (by omega)⟩
end SRD
section CLF
variable {K : tK} {G : tG} {L : tL} {S : tS} {post : Int32 → tG → Prop} {postX : String → tG → Prop}
def sp_2 (S : tS) (p q : Option (Nat × Nat × Nat)) (f : Nat → Nat → Nat → Nat → Nat → Nat → tA) : tA := match p, q with
  | some (r, b, n), some (r2, b2, n2) => f r b n r2 b2 n2
  | _, _ => (1, 0, S)
/-- two lists -/
theorem c_two {v w : Int32} {F : Nat → Nat → Nat → Nat → Nat → Nat → tA} {PW : Option Nat → Option Nat → tG → Prop} (h : TwR G L S) (hp : tRes L G post postX (sp_2 S (S_at S v) (S_at S w) F)) (hk : ∀ o r b n o2 r2 b2 n2, G o = some (oRL (nI r) (L.2.2.2 r) b n) → r < 3 → b + n ≤ 12 → G o2 = some (oRL (nI r2) (L.2.2.2 r2) b2 n2) → r2 < 3 → b2 + n2 ≤ 12 → tRes L G post postX (F r b n r2 b2 n2) → PW (some o) (some o2) G) : rcv G (some L.1) 3 (w_X1_listAt K (fun x G_2 => rcv G_2 (some L.1) 3 (w_X1_listAt K (fun y G_3 => PW x y G_3) postX (some L.1) w G_2)) postX (some L.1) v G) := by
  refine c_rcv h (c_listAt h (fun c => ?_) (fun o r b n c1 c2 c3 c4 => c_rcv h (c_listAt h (fun c => ?_) (fun o2 r2 b2 n2 d1 d2 d3 d4 => ?_))))
  · rw [c] at hp; exact (hp G (fr_rf _ _) h).2.1 rfl
  · rw [c, c1] at hp; exact (hp G (fr_rf _ _) h).2.1 rfl
  · rw [c1, d1] at hp
    exact hk o r b n o2 r2 b2 n2 c2 c3 c4 d2 d3 d4 hp
theorem c_areEqual {v w : Int32} (h : TwR G L S) (hp : tRes L G post postX (sp_2 S (S_at S v) (S_at S w) fun r b n r2 b2 n2 => (0, if n = n2 then haF (S_v S r b) (S_v S r2 b2) n2 0 else 0, S))) : w_X1_areEqual K post postX (some L.1) v w G := by
  refine c_two (PW := fun x y G => w_X1_areSame K (fun x_12 G_12 => (narrow .boolean (.int x_12) = .int x_12 ∧ post x_12 G_12)) x y G) h hp (fun o r b n o2 r2 b2 n2 c2 c3 c4 d2 d3 d4 hq => ?_)
  refine c_areSame c2 (h.2.2.2.1 r c3) (by decide) d2 (h.2.2.2.1 r2 d3) (by decide) c4 d4 ⟨nar_01 ?_, (hq G (fr_rf _ _) h).1 rfl⟩
  split
  · exact haF_01 _ _ _ _
  · exact Or.inl rfl
theorem c_areApart {v w : Int32} (h : TwR G L S) (hp : tRes L G post postX (sp_2 S (S_at S v) (S_at S w) fun r b n r2 b2 n2 => (0, if onF (S_v S r b) (S_v S r2 b2) n2 1 n 0 = 0 then 1 else 0, S))) : w_X1_areApart K post postX (some L.1) v w G := by
  refine c_two (PW := fun x y G => w_X1_hasOneThatStands K (fun x_13 G_13 => ((¬ x_13 = 0 → w_X1_areApart_24 K post postX ((0 : Int32)) G_13) ∧ (x_13 = 0 → w_X1_areApart_24 K post postX ((1 : Int32)) G_13))) x y 1 G) h hp (fun o r b n o2 r2 b2 n2 c2 c3 c4 d2 d3 d4 hq => ?_)
  refine c_hasOne c2 (h.2.2.2.1 r c3) (by decide) d2 (h.2.2.2.1 r2 d3) (by decide) c4 d4 ⟨fun c => ⟨by decide, ?_⟩, fun c => ⟨by decide, ?_⟩⟩
  · have hq := (hq G (fr_rf _ _) h).1 rfl
    simp only [if_neg c] at hq; exact hq
  · have hq := (hq G (fr_rf _ _) h).1 rfl
    simp only [if_pos c] at hq; exact hq
theorem c_hasAll {v w : Int32} (h : TwR G L S) (hp : tRes L G post postX (sp_2 S (S_at S v) (S_at S w) fun r b n r2 b2 n2 => (0, if onF (S_v S r2 b2) (S_v S r b) n 0 n2 0 = 0 then 1 else 0, S))) : w_X1_hasAll K post postX (some L.1) v w G := by
  refine c_two (PW := fun x y G => w_X1_hasOneThatStands K (fun x_13 G_13 => ((¬ x_13 = 0 → w_X1_hasAll_24 K post postX ((0 : Int32)) G_13) ∧ (x_13 = 0 → w_X1_hasAll_24 K post postX ((1 : Int32)) G_13))) y x 0 G) h hp (fun o r b n o2 r2 b2 n2 c2 c3 c4 d2 d3 d4 hq => ?_)
  refine c_hasOne d2 (h.2.2.2.1 r2 d3) (by decide) c2 (h.2.2.2.1 r c3) (by decide) d4 c4 ⟨fun c => ⟨by decide, ?_⟩, fun c => ⟨by decide, ?_⟩⟩
  · have hq := (hq G (fr_rf _ _) h).1 rfl
    simp only [if_neg c] at hq; exact hq
  · have hq := (hq G (fr_rf _ _) h).1 rfl
    simp only [if_pos c] at hq; exact hq
theorem c_removeAll {v w : Int32} (h : TwR G L S) (hp : tRes L G post postX (sp_2 S (S_at S v) (S_at S w) fun r b n r2 b2 n2 => if onF (S_v S r b) (S_v S r2 b2) n2 1 n 0 = 0 then (0, 0, S) else (0, -9, S_ref S))) : w_X1_removeAll K post postX (some L.1) v w G := by
  refine c_two (PW := fun x y G => w_X1_hasOneThatStands K (fun x_14 G_14 => rcv G_14 (some L.1) 3 (w_X1_refuseIf K (fun x_17 G_17 => post x_17 G_17) (some L.1) x_14 G_14)) x y 1 G) h hp (fun o r b n o2 r2 b2 n2 c2 c3 c4 d2 d3 d4 hq => ?_)
  refine c_hasOne c2 (h.2.2.2.1 r c3) (by decide) d2 (h.2.2.2.1 r2 d3) (by decide) c4 d4 (c_rcv h (c_refuseIf h (fun c G' q1 q2 => ?_) (fun c => ?_)))
  · rw [if_neg c] at hq; exact (hq G' q1 q2).1 rfl
  · rw [if_pos c] at hq; exact (hq G (fr_rf _ _) h).1 rfl
theorem c_retainAll {v w : Int32} (h : TwR G L S) (hp : tRes L G post postX (sp_2 S (S_at S v) (S_at S w) fun r b n r2 b2 n2 => if onF (S_v S r b) (S_v S r2 b2) n2 0 n 0 = 0 then (0, 0, S) else (0, -9, S_ref S))) : w_X1_retainAll K post postX (some L.1) v w G := by
  refine c_two (PW := fun x y G => w_X1_hasOneThatStands K (fun x_14 G_14 => rcv G_14 (some L.1) 3 (w_X1_refuseIf K (fun x_17 G_17 => post x_17 G_17) (some L.1) x_14 G_14)) x y 0 G) h hp (fun o r b n o2 r2 b2 n2 c2 c3 c4 d2 d3 d4 hq => ?_)
  refine c_hasOne c2 (h.2.2.2.1 r c3) (by decide) d2 (h.2.2.2.1 r2 d3) (by decide) c4 d4 (c_rcv h (c_refuseIf h (fun c G' q1 q2 => ?_) (fun c => ?_)))
  · rw [if_neg c] at hq; exact (hq G' q1 q2).1 rfl
  · rw [if_pos c] at hq; exact (hq G (fr_rf _ _) h).1 rfl
theorem c_addAll {v w : Int32} (h : TwR G L S) (hp : tRes L G post postX (sp_2 S (S_at S v) (S_at S w) fun _ _ _ _ _ n2 => if n2 = 0 then (0, 0, S) else (0, -9, S_ref S))) : w_X1_addAll K post postX (some L.1) v w G := by
  refine c_two (PW := fun x y G => gfI G y 2 3 (fun x_12 => ((x_12 ≤ 0 → w_X1_addAll_23 K post postX (some L.1) ((0 : Int32)) G) ∧ (¬ x_12 ≤ 0 → w_X1_addAll_23 K post postX (some L.1) ((1 : Int32)) G)))) h hp (fun o r b n o2 r2 b2 n2 c2 c3 c4 d2 d3 d4 hq => ?_)
  refine gfI_i d2 rfl ⟨fun c => c_rcv h (c_refuseIf h (fun q => absurd rfl q) (fun _ => ?_)), fun c => c_rcv h (c_refuseIf h (fun _ G' q1 q2 => ?_) (fun q => absurd q (by decide)))⟩
  · have hn : n2 = 0 := Decidable.byContradiction fun e => nI_nle (by omega) (by omega) c
    rw [if_pos hn] at hq; exact (hq G (fr_rf _ _) h).1 rfl
  · have hn : ¬ n2 = 0 := fun e => c (by rw [e]; decide)
    rw [if_neg hn] at hq; exact (hq G' q1 q2).1 rfl
theorem c_code {v : Int32} (h : TwR G L S) (hp : tRes L G post postX (sp_li S (S_at S v) fun r b n => (0, coF (S_v S r b) n, S))) : w_X1_code K post postX (some L.1) v G := by
  refine c_rcv h (c_listAt h (fun c => ?_) (fun o r b n c1 c2 c3 c4 => ?_))
  · rw [c] at hp; exact (hp G (fr_rf _ _) h).2.1 rfl
  · rw [c1] at hp
    exact gfI_i c2 rfl (c_codeOf c2 (h.2.2.2.1 r c3) (by decide) c4 ((hp G (fr_rf _ _) h).1 rfl))
end CLF
