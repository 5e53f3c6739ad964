/-! rules over a list, the first place of a list in another one, what the house tells -/
theorem nI_sub {a b : Nat} (ha : a < 2 ^ 30) (hb : b < 2 ^ 30) : (nI a - nI b).toInt = (a : Int) - b := by
  rw [Int32.toInt_sub, nI_toInt (by omega), nI_toInt (by omega)]
  exact Int.bmod_eq_of_le (by omega) (by omega)
def iaF (f g : Nat → Int32) (n2 : Nat) : Nat → Nat → Int32
  | 0, _ => -1
  | k + 1, i => if haF (fun j => f (i + j)) g n2 0 = 0 then iaF f g n2 k (i + 1) else nI i
def paF (S : tS) : Nat → Int32
  | 0 => 0
  | k + 1 => paF S k + (if S.1 (3 + k) = none then 0 else 1)
def lnF (q : Option (Nat × Nat × Nat)) : Nat := match q with
  | none => 0
  | some (_, _, n) => n
def prF (S : tS) : Nat → Int32
  | 0 => 0
  | k + 1 => prF S k + nI (lnF (S.1 k))
section CLH
variable {K : tK} {G : tG} {L : tL} {S : tS} {post : Int32 → tG → Prop} {postX : String → tG → Prop}
theorem c_replaceAll {v rule w : Int32} (h : TwR G L S) (hp : tRes L G post postX (sp_li S (S_at S v) fun r b n => if inR rule 0 3 ∧ inR w (-99) 99 then (0, nI (slF 0 n 0), wrF S r b 0 0 rule w (slF 0 n 0)) else (2, 0, S))) : w_X1_replaceAll K post postX (some L.1) v rule w G := by
  refine c_rcv h (c_listAt h (fun c => ?_) (fun o r b n c1 c2 c3 c4 => ?_))
  · rw [c] at hp; exact (hp G (fr_rf _ _) h).2.1 rfl
  · rw [c1] at hp
    refine c_checkRule (fun q1 q2 => ?_) (fun q => ?_)
    · simp only [sp_li, if_pos (And.intro q1 q2)] at hp
      exact c_writeRuled (a := 0) h c2 c3 c4 (by omega) q1 q2 (fun G' p1 p2 => (hp G' p1 p2).1 rfl)
    · simp only [sp_li, if_neg q] at hp
      exact (hp G (fr_rf _ _) h).2.2 rfl
theorem c_walkSet {v p rule w back : Int32} (h : TwR G L S) (hp : tRes L G post postX (sp_li S (S_at S v) fun r b n => if inR p 0 (nI n) ∧ (inR rule 0 3 ∧ inR w (-99) 99) then (0, nI (slF p.toInt.toNat n back), wrF S r b p.toInt.toNat back rule w (slF p.toInt.toNat n back)) else (2, 0, S))) : w_X1_walkSet K post postX (some L.1) v p rule w back G := by
  refine c_rcv h (c_listAt h (fun c => ?_) (fun o r b n c1 c2 c3 c4 => ?_))
  · rw [c] at hp; exact (hp G (fr_rf _ _) h).2.1 rfl
  · rw [c1] at hp
    refine gfI_i c2 rfl (c_checkNumber (fun hq => c_checkRule (fun q1 q2 => ?_) (fun q => ?_)) (fun hq => ?_))
    · simp only [sp_li, if_pos (And.intro hq (And.intro q1 q2))] at hp
      obtain ⟨a, ha, rfl⟩ := nI_of2 (nI_toInt (n := n) (by omega)) hq.1 hq.2
      rw [nI_nat (by omega)] at hp
      exact c_writeRuled h c2 c3 c4 ha q1 q2 (fun G' p1 p2 => (hp G' p1 p2).1 rfl)
    · simp only [sp_li, if_neg (fun z : inR p 0 (nI n) ∧ (inR rule 0 3 ∧ inR w (-99) 99) => q z.2)] at hp
      exact (hp G (fr_rf _ _) h).2.2 rfl
    · simp only [sp_li, if_neg (fun z : inR p 0 (nI n) ∧ (inR rule 0 3 ∧ inR w (-99) 99) => hq z.1)] at hp
      exact (hp G (fr_rf _ _) h).2.2 rfl
theorem c_indexOfAll {v w : Int32} (h : TwR G L S) (hp : tRes L G post postX (sp_2 S (S_at S v) (S_at S w) fun r b n r2 b2 n2 => (0, iaF (S_v S r b) (S_v S r2 b2) n2 (n + 1 - n2) 0, S))) : w_X1_indexOfAll K post postX (some L.1) v w G := by
  refine c_two (PW := fun x y G => ∃ n : Nat, w_X1_indexOfAll_16 K post postX n x y ((0 : Int32)) G) h hp (fun o r b n o2 r2 b2 n2 c2 c3 c4 d2 d3 d4 hq => ?_)
  have hq := (hq G (fr_rf _ _) h).1 rfl
  have main : ∀ k i, i + k = n + 1 - n2 → post (iaF (S_v S r b) (S_v S r2 b2) n2 k i) G → w_X1_indexOfAll_16 K post postX (k + 1) (some o) (some o2) (nI i) G := by
    intro k
    induction k with
    | zero =>
      intro i hi hp
      show w_X1_indexOfAll_16_b K post postX (w_X1_indexOfAll_16 K post postX 0) (some o) (some o2) (nI i) G
      refine gfI_i c2 rfl (gfI_i d2 rfl ⟨fun _ => hp, fun c => absurd ?_ c⟩)
      rw [i32_lt, nI_sub (by omega) (by omega), nI_toInt (by omega)]
      omega
    | succ k ih =>
      intro i hi hp
      show w_X1_indexOfAll_16_b K post postX (w_X1_indexOfAll_16 K post postX (k + 1)) (some o) (some o2) (nI i) G
      refine gfI_i c2 rfl (gfI_i d2 rfl ⟨fun c => ?_, fun _ => c_hasAllFrom c2 (h.2.2.2.1 r c3) (by decide) d2 (h.2.2.2.1 r2 d3) (by decide) (by omega) d4 ⟨fun c => ?_, fun c => ?_⟩⟩)
      · exfalso
        rw [i32_lt, nI_sub (by omega) (by omega), nI_toInt (by omega)] at c
        omega
      · have c : haF (fun j => S_v S r b (i + j)) (S_v S r2 b2) n2 0 = 0 := c
        simp only [iaF, if_pos c] at hp
        rw [nI_1]
        exact ih (i + 1) (by omega) hp
      · have c : ¬ haF (fun j => S_v S r b (i + j)) (S_v S r2 b2) n2 0 = 0 := c
        simp only [iaF, if_neg c] at hp
        exact hp
  exact ⟨n + 1 - n2 + 1, main _ 0 (by omega) hq⟩
theorem c_rowOf {v : Int32} (h : TwR G L S) (hp : tRes L G post postX (if inR v 0 6 then (0, (match S_at S v with | none => -1 | some (r, _, _) => nI r), S) else (2, 0, S))) : w_X1_rowOf K post postX (some L.1) v G := by
  refine c_checkNumber (fun q => ?_) (fun q => ?_)
  · rw [if_pos q] at hp
    have hp := (hp G (fr_rf _ _) h).1 rfl
    refine c_rcv h (c_listOrNull h (fun c => ?_) (fun o r b n c1 c2 c3 c4 => ?_))
    · rw [c] at hp; exact ⟨fun z => absurd rfl z, fun _ => hp⟩
    · rw [c1] at hp; exact ⟨fun _ => gfI_i c2 rfl hp, fun z => by cases z⟩
  · rw [if_neg q] at hp
    exact (hp G (fr_rf _ _) h).2.2 rfl
theorem c_begin {v : Int32} (h : TwR G L S) (hp : tRes L G post postX (if inR v 0 6 then (0, (match S_at S v with | none => -1 | some (_, b, _) => nI b), S) else (2, 0, S))) : w_X1_begin K post postX (some L.1) v G := by
  refine c_checkNumber (fun q => ?_) (fun q => ?_)
  · rw [if_pos q] at hp
    have hp := (hp G (fr_rf _ _) h).1 rfl
    refine c_rcv h (c_listOrNull h (fun c => ?_) (fun o r b n c1 c2 c3 c4 => ?_))
    · rw [c] at hp; exact ⟨fun z => absurd rfl z, fun _ => hp⟩
    · rw [c1] at hp; exact ⟨fun _ => gfI_i c2 rfl hp, fun z => by cases z⟩
  · rw [if_neg q] at hp
    exact (hp G (fr_rf _ _) h).2.2 rfl
theorem c_partsThere {pk : Int32 → tG → Prop} (h : TwR G L S) (hp : pk (paF S 4) G) : w_X1_partsThere K pk (some L.1) G := by
  have main : ∀ k i, i + k = 4 → w_X1_partsThere_4 K pk (k + 1) (some L.1) (paF S i) (nI (3 + i)) G := by
    intro k
    induction k with
    | zero =>
      intro i hi
      show w_X1_partsThere_4_b K pk (w_X1_partsThere_4 K pk 0) (some L.1) (paF S i) (nI (3 + i)) G
      have e : i = 4 := by omega
      subst e
      exact ⟨fun _ => hp, fun c => absurd (by decide) c⟩
    | succ k ih =>
      intro i hi
      show w_X1_partsThere_4_b K pk (w_X1_partsThere_4 K pk (k + 1)) (some L.1) (paF S i) (nI (3 + i)) G
      have hi2 := ih (i + 1) (by omega)
      refine ⟨fun c => ?_, fun _ => c_rcv h (c_listOrNull h (fun c => ?_) (fun o r b n c1 c2 c3 c4 => ?_))⟩
      · exact absurd (show nI 7 ≤ nI (3 + i) from c) (nI_ge (by omega) (by omega))
      · rw [S_at_nI S (by omega)] at c
        refine ⟨fun z => absurd rfl z, fun _ => ?_⟩
        show w_X1_partsThere_4 K pk (k + 1) (some L.1) (paF S i + 0) (nI (3 + i) + 1) G
        rw [nI_1]
        have e : paF S (i + 1) = paF S i + 0 := by show _ + (if _ then _ else _) = _; rw [if_pos c]
        rw [e] at hi2; exact hi2
      · rw [S_at_nI S (by omega)] at c1
        refine ⟨fun _ => ?_, fun z => by cases z⟩
        show w_X1_partsThere_4 K pk (k + 1) (some L.1) (paF S i + 1) (nI (3 + i) + 1) G
        rw [nI_1]
        have e : paF S (i + 1) = paF S i + 1 := by show _ + (if _ then _ else _) = _; rw [if_neg (by rw [c1]; exact fun z => by cases z)]
        rw [e] at hi2; exact hi2
  exact ⟨5, main 4 0 (by omega)⟩
theorem c_placesOfRows {pk : Int32 → tG → Prop} (h : TwR G L S) (hp : pk (prF S 3) G) : w_X1_placesOfRows K pk postX (some L.1) G := by
  have main : ∀ k i, i + k = 3 → w_X1_placesOfRows_4 K pk postX (k + 1) i (6 * i) (some L.1) (prF S i) (nI i) G := by
    intro k
    induction k with
    | zero =>
      intro i hi
      show w_X1_placesOfRows_4_b K pk postX (w_X1_placesOfRows_4 K pk postX 0) i (6 * i) (some L.1) (prF S i) (nI i) G
      have e : i = 3 := by omega
      subst e
      exact ⟨fun _ => hp, fun c => absurd (by decide) c⟩
    | succ k ih =>
      intro i hi
      show w_X1_placesOfRows_4_b K pk postX (w_X1_placesOfRows_4 K pk postX (k + 1)) i (6 * i) (some L.1) (prF S i) (nI i) G
      refine ⟨fun c => ?_, fun _ => ⟨⟨by omega, by omega⟩, c_rcv h (c_twinAt h (fun c => ?_) (fun o r n e1 c1 c2 c3 c4 => ?_))⟩⟩
      · exact absurd (show nI 3 ≤ nI i from c) (nI_ge (by omega) (by omega))
      · exfalso
        unfold S_tw at c
        rw [nI_toInt (by omega), if_pos (by omega)] at c
        obtain ⟨n, e, -⟩ := h.1.1 i (by omega)
        have c : S.1 i = none := c
        rw [c] at e; cases e
      · have e : i = r := (nI_eq (by omega) (by omega)).mp e1
        subst e
        refine gfI_i c2 rfl ?_
        show w_X1_placesOfRows_4 K pk postX (k + 1) (i + 1) (6 * i + 6) (some L.1) (prF S i + nI n) (nI i + 1) G
        rw [nI_1]
        have hi2 := ih (i + 1) (by omega)
        have e2 : prF S (i + 1) = prF S i + nI n := by show _ + nI (lnF _) = _; rw [c1]; rfl
        rw [e2] at hi2; exact hi2
  exact ⟨4, main 3 0 (by omega)⟩
def hoF (S : tS) (v : Int32) : Int32 := if v = 0 then S.2.2.1 else if v = 1 then S.2.2.2 else if v = 2 then paF S 4 else prF S 3
theorem c_house {v : Int32} (h : TwR G L S) (hp : tRes L G post postX (if inR v 0 3 then (0, hoF S v, S) else (2, 0, S))) : w_X1_house K post postX (some L.1) v G := by
  refine c_checkNumber (fun q => ?_) (fun q => ?_)
  · rw [if_pos q] at hp
    have hp := (hp G (fr_rf _ _) h).1 rfl
    obtain ⟨lf, k2, k3, k4⟩ := h.2.1
    unfold hoF at hp
    refine ⟨fun c => ?_, fun c => ?_, fun c => ?_, fun c => ?_⟩
    · simp only [if_pos c] at hp; exact gfI_i k2 rfl hp
    · have c0 : ¬ v = 0 := by rw [c]; decide
      simp only [if_neg c0, if_pos c] at hp; exact gfI_i k2 rfl hp
    · have c0 : ¬ v = 0 := by rw [c]; decide
      have c1 : ¬ v = 1 := by rw [c]; decide
      simp only [if_neg c0, if_neg c1, if_pos c] at hp; exact c_rcv h (c_partsThere h hp)
    · have c0 : ¬ v = 0 := fun e => by rw [e] at c; revert c; decide
      have c1 : ¬ v = 1 := fun e => by rw [e] at c; revert c; decide
      have c2 : ¬ v = 2 := fun e => by rw [e] at c; revert c; decide
      simp only [if_neg c0, if_neg c1, if_neg c2] at hp; exact c_rcv h (c_placesOfRows h hp)
  · rw [if_neg q] at hp
    exact (hp G (fr_rf _ _) h).2.2 rfl
end CLH
