/-! the model's searching -/
theorem fpF_cg {f g : Nat → Int32} {x : Int32} : ∀ k i, (∀ t, i ≤ t → t < i + k → f t = g t) → fpF f x k i = fpF g x k i
  | 0, _, _ => rfl
  | k + 1, i, h => by
    show (if f i = x then nI i else fpF f x k (i + 1)) = (if g i = x then nI i else fpF g x k (i + 1))
    rw [h i (by omega) (by omega), fpF_cg k (i + 1) (fun t h1 h2 => h t (by omega) (by omega))]
theorem ofF_cg {f g : Nat → Int32} {x : Int32} : ∀ k, (∀ t, t < k → f t = g t) → ofF f x k = ofF g x k
  | 0, _ => rfl
  | k + 1, h => by
    show ofF f x k + (if f k = x then 1 else 0) = ofF g x k + (if g k = x then 1 else 0)
    rw [h k (by omega), ofF_cg k (fun t ht => h t (by omega))]
theorem coF_cg {f g : Nat → Int32} : ∀ k, (∀ t, t < k → f t = g t) → coF f k = coF g k
  | 0, _ => rfl
  | k + 1, h => by
    show 31 * coF f k + nuF (f k) = 31 * coF g k + nuF (g k)
    rw [h k (by omega), coF_cg k (fun t ht => h t (by omega))]
theorem suF_cg {f g : Nat → Int32} : ∀ k, (∀ t, t < k → f t = g t) → suF f k = suF g k
  | 0, _ => rfl
  | k + 1, h => by
    show suF f k + nuF (f k) = suF g k + nuF (g k)
    rw [h k (by omega), suF_cg k (fun t ht => h t (by omega))]
theorem haF_cg {f g f' g' : Nat → Int32} : ∀ k i, (∀ t, i ≤ t → t < i + k → f t = f' t ∧ g t = g' t) → haF f g k i = haF f' g' k i
  | 0, _, _ => rfl
  | k + 1, i, h => by
    show (if f i = g i then haF f g k (i + 1) else 0) = (if f' i = g' i then haF f' g' k (i + 1) else 0)
    rw [(h i (by omega) (by omega)).1, (h i (by omega) (by omega)).2, haF_cg k (i + 1) (fun t h1 h2 => h t (by omega) (by omega))]
/-- how often, as a number -/
def cnF (f : Nat → Int32) (x : Int32) : Nat → Nat
  | 0 => 0
  | k + 1 => cnF f x k + (if f k = x then 1 else 0)
theorem ofF_cn (f : Nat → Int32) (x : Int32) : ∀ k, ofF f x k = nI (cnF f x k)
  | 0 => rfl
  | k + 1 => by
    show ofF f x k + (if f k = x then 1 else 0) = nI (cnF f x k + (if f k = x then 1 else 0))
    rw [ofF_cn f x k]
    by_cases c : f k = x
    · rw [if_pos c, if_pos c, nI_1]
    · rw [if_neg c, if_neg c, Int32.add_zero]; rfl
theorem cnF_le (f : Nat → Int32) (x : Int32) : ∀ k, cnF f x k ≤ k
  | 0 => Nat.le_refl _
  | k + 1 => by
    have := cnF_le f x k
    show cnF f x k + (if f k = x then 1 else 0) ≤ k + 1
    split <;> omega
theorem cnF_0 (f : Nat → Int32) (x : Int32) : ∀ k, cnF f x k = 0 ↔ ∀ t, t < k → f t ≠ x
  | 0 => ⟨fun _ t h => absurd h (by omega), fun _ => rfl⟩
  | k + 1 => by
    have ih := cnF_0 f x k
    show cnF f x k + (if f k = x then 1 else 0) = 0 ↔ _
    by_cases c : f k = x
    · rw [if_pos c]
      exact ⟨fun z => absurd z (by omega), fun z => absurd c (z k (by omega))⟩
    · rw [if_neg c]
      constructor
      · intro z t ht
        by_cases e : t = k
        · rw [e]; exact c
        · exact ih.mp (by omega) t (by omega)
      · intro z
        have := ih.mpr (fun t ht => z t (by omega))
        omega
theorem fpF_cn (f : Nat → Int32) (x : Int32) {n : Nat} (hn : n < 2 ^ 31) : fpF f x n 0 = -1 ↔ cnF f x n = 0 := by
  rw [fpF_ne f x n 0 (by omega), cnF_0]
  exact ⟨fun z t ht => z t (by omega) (by omega), fun z t _ ht => z t (by omega)⟩
section MOG
variable {K : tK} {G : tG} {M : tM} {S : tS} {th : Int32} {post : Int32 → tG → Prop}
theorem m_placeOf {pk : Int32 → tG → Prop} {q n : Nat} {f : Nat → Int32} {x : Int32} (hq : G q = some (eI n f)) (hn : n < 2 ^ 31) (h : pk (fpF f x n 0) G) : w_X3_placeOf K pk (some q) x G := by
  have main : ∀ k i, i + k = n → pk (fpF f x k i) G → w_X3_placeOf_2 K pk (k + 1) (some q) x (nI i) G := by
    intro k
    induction k with
    | zero =>
      intro i hi hp
      show w_X3_placeOf_2_b K pk (w_X3_placeOf_2 K pk 0) (some q) x (nI i) G
      exact lenA_i hq ⟨fun _ => hp, fun c => absurd (nI_le (by omega) (by omega)) c⟩
    | succ k ih =>
      intro i hi hp
      show w_X3_placeOf_2_b K pk (w_X3_placeOf_2 K pk (k + 1)) (some q) x (nI i) G
      refine lenA_i hq ⟨fun c => absurd c (nI_ge (by omega) (by omega)), fun _ => alI_i hq rfl (by omega) hn ⟨fun c => ?_, fun c => ?_⟩⟩
      · simp only [fpF, if_neg c] at hp
        rw [nI_1]
        exact ih (i + 1) (by omega) hp
      · simp only [fpF, if_pos c] at hp
        exact hp
  exact ⟨n + 1, main n 0 (by omega) h⟩
theorem m_oftenIn {pk : Int32 → tG → Prop} {q n : Nat} {f : Nat → Int32} {x : Int32} (hq : G q = some (eI n f)) (hn : n < 2 ^ 31) (h : pk (nI (cnF f x n)) G) : w_X3_oftenIn K pk (some q) x G := by
  have main : ∀ k i, i + k = n → w_X3_oftenIn_11 K pk (k + 1) x (nI (cnF f x i)) (some q) (nI n) (nI i) G := by
    intro k
    induction k with
    | zero =>
      intro i hi
      show w_X3_oftenIn_11_b K pk (w_X3_oftenIn_11 K pk 0) x (nI (cnF f x i)) (some q) (nI n) (nI i) G
      have e : i = n := by omega
      subst e
      exact ⟨fun _ => h, fun c => absurd (nI_le (by omega) (by omega)) c⟩
    | succ k ih =>
      intro i hi
      show w_X3_oftenIn_11_b K pk (w_X3_oftenIn_11 K pk (k + 1)) x (nI (cnF f x i)) (some q) (nI n) (nI i) G
      have hi2 := ih (i + 1) (by omega)
      refine ⟨fun c => absurd c (nI_ge (by omega) (by omega)), fun _ => alI_i hq rfl (by omega) hn ⟨fun c => m_one (fun _ => ?_) (fun z => absurd rfl z), fun c => m_one (fun z => absurd z (by decide)) (fun _ => ?_)⟩⟩
      · have e : cnF f x (i + 1) = cnF f x i := by show _ + (if _ then _ else _) = _; rw [if_neg c]; rfl
        rw [e] at hi2
        show w_X3_oftenIn_11 K pk (k + 1) x (nI (cnF f x i) + 0) (some q) (nI n) (nI i + 1) G
        rw [nI_1, Int32.add_zero]; exact hi2
      · have e : cnF f x (i + 1) = cnF f x i + 1 := by show _ + (if _ then _ else _) = _; rw [if_pos c]
        rw [e] at hi2
        show w_X3_oftenIn_11 K pk (k + 1) x (nI (cnF f x i) + 1) (some q) (nI n) (nI i + 1) G
        rw [nI_1, nI_1]; exact hi2
  exact lenA_i hq ⟨n + 1, main n 0 (by omega)⟩
theorem m_length {v : Int32} (h : MoR G M S th) (hp : mRes M G post (sp_li S (S_at S v) fun r b n => (0, nI n, S))) : w_X3_length K post (some M.1.1) v G := by
  refine m_rcv h (m_isNoList h (fun c => ?_) (fun j r b n hj ev hs => ?_))
  · rw [c] at hp
    exact m_rcv h (m_fails h (fun G1 f1 h1 => ⟨fun z => absurd z (by decide), fun _ => mr (a := (1, 0, S)) hp f1 h1⟩))
  · subst ev
    rw [S_at_nI S hj, hs] at hp
    exact m_rcv h (m_fails h (fun G1 f1 h1 => ⟨fun _ => m_len h1 hj hs (mr hp f1 h1), fun z => absurd (by decide) z⟩))
theorem m_isEmpty {v : Int32} (h : MoR G M S th) (hp : mRes M G post (sp_li S (S_at S v) fun r b n => (0, if n = 0 then 1 else 0, S))) : w_X3_isEmpty K post (some M.1.1) v G := by
  refine m_rcv h (m_isNoList h (fun c => ?_) (fun j r b n hj ev hs => ?_))
  · rw [c] at hp
    exact m_rcv h (m_fails h (fun G1 f1 h1 => ⟨fun _ => ⟨by decide, mr (a := (1, 0, S)) hp f1 h1⟩, fun z => absurd z (by decide)⟩))
  · subst ev
    rw [S_at_nI S hj, hs] at hp
    have hn12 := (S_12 h.1 hj hs).2
    refine m_rcv h (m_fails h (fun G1 f1 h1 => ⟨fun z => absurd (by decide) z, fun _ => m_len h1 hj hs ⟨fun c => ⟨by decide, ?_⟩, fun c => ⟨by decide, ?_⟩⟩⟩))
    · have hn : ¬ n = 0 := fun e => c (by rw [e]; rfl)
      simp only [sp_li, if_neg hn] at hp
      exact mr hp f1 h1
    · have hn : n = 0 := Decidable.byContradiction fun e => nI_ne0 (by omega) (by omega) c
      simp only [sp_li, if_pos hn] at hp
      exact mr hp f1 h1
theorem fr_al {q : Nat} {G1 G2 : tG} (f1 : fr (moW M) G G1) (hq : G1 q = none) (hk : ∀ a, a ≠ q → G2 a = G1 a) : fr (moW M) G G2 := fr_tr f1 (fr_fresh hq hk _)
theorem m_indexOf {v x : Int32} (h : MoR G M S th) (hp : mRes M G post (sp_li S (S_at S v) fun r b n => if okV x then (0, fpF (S_v S r b) x n 0, S) else (2, 0, S))) : w_X3_indexOf K post (some M.1.1) v x G := by
  refine m_rcv h (m_isNoList h (fun c => ?_) (fun j r b n hj ev hs => ?_))
  · rw [c] at hp
    exact m_isNoValue (fun _ => m_rcv h (m_fails h (fun G1 f1 h1 => ⟨fun z => absurd z (by decide), fun _ => mr (a := (1, 0, S)) hp f1 h1⟩))) (fun _ => m_rcv h (m_fails h (fun G1 f1 h1 => ⟨fun z => absurd z (by decide), fun _ => mr (a := (1, 0, S)) hp f1 h1⟩)))
  · subst ev
    rw [S_at_nI S hj, hs] at hp
    have hn12 := (S_12 h.1 hj hs).2
    refine m_isNoValue (fun hx => ?_) (fun hx => ?_)
    · simp only [sp_li, if_neg hx] at hp
      exact m_rcv h (m_fails h (fun G1 f1 h1 => ⟨fun z => absurd z (by decide), fun _ => mr hp f1 h1⟩))
    · simp only [sp_li, if_pos hx] at hp
      refine m_rcv h (m_fails h (fun G1 f1 h1 => ⟨fun _ => m_rcv h1 (m_all h1 hj hs (fun q f G2 q0 q1 q2 q3 h2 => m_placeOf q1 (by omega) ?_)), fun z => absurd (by decide) z⟩))
      rw [fpF_cg n 0 (fun t _ ht => q2 t (by omega))]
      exact mr hp (fr_al f1 q0 q3) h2
theorem m_has {v x : Int32} (h : MoR G M S th) (hp : mRes M G post (sp_li S (S_at S v) fun r b n => if okV x then (0, if fpF (S_v S r b) x n 0 = -1 then 0 else 1, S) else (2, 0, S))) : w_X3_has K post (some M.1.1) v x G := by
  refine m_rcv h (m_isNoList h (fun c => ?_) (fun j r b n hj ev hs => ?_))
  · rw [c] at hp
    exact m_isNoValue (fun _ => m_rcv h (m_fails h (fun G1 f1 h1 => ⟨fun _ => ⟨by decide, mr (a := (1, 0, S)) hp f1 h1⟩, fun z => absurd z (by decide)⟩))) (fun _ => m_rcv h (m_fails h (fun G1 f1 h1 => ⟨fun _ => ⟨by decide, mr (a := (1, 0, S)) hp f1 h1⟩, fun z => absurd z (by decide)⟩)))
  · subst ev
    rw [S_at_nI S hj, hs] at hp
    have hn12 := (S_12 h.1 hj hs).2
    refine m_isNoValue (fun hx => ?_) (fun hx => ?_)
    · simp only [sp_li, if_neg hx] at hp
      exact m_rcv h (m_fails h (fun G1 f1 h1 => ⟨fun _ => ⟨by decide, mr hp f1 h1⟩, fun z => absurd z (by decide)⟩))
    · simp only [sp_li, if_pos hx] at hp
      refine m_rcv h (m_fails h (fun G1 f1 h1 => ⟨fun z => absurd (by decide) z, fun _ => m_rcv h1 (m_all h1 hj hs (fun q f G2 q0 q1 q2 q3 h2 => m_placeOf q1 (by omega) ?_))⟩))
      rw [fpF_cg n 0 (fun t _ ht => q2 t (by omega))]
      by_cases c : fpF (S_v S r b) x n 0 = -1
      · rw [if_pos c] at hp
        rw [c]
        exact ⟨fun _ => ⟨by decide, mr hp (fr_al f1 q0 q3) h2⟩, fun z => absurd (by decide) z⟩
      · rw [if_neg c] at hp
        have hc : ¬ fpF (S_v S r b) x n 0 < 0 := by
          have c2 : ¬ ∀ t, 0 ≤ t → t < 0 + n → S_v S r b t ≠ x := fun z => c ((fpF_ne _ _ n 0 (by omega)).mpr z)
          obtain ⟨t, ht⟩ := Classical.not_forall.mp c2
          obtain ⟨ht0, ht⟩ := Classical.not_imp.mp ht
          obtain ⟨ht1, ht⟩ := Classical.not_imp.mp ht
          obtain ⟨p, p1, p2, p3, p4⟩ := fpF_at (S_v S r b) x n 0 t (by omega) (by omega) (Classical.not_not.mp ht)
          rw [p3]; exact nI_pos (by omega)
        exact ⟨fun z => absurd z hc, fun _ => ⟨by decide, mr hp (fr_al f1 q0 q3) h2⟩⟩
theorem m_often {v x : Int32} (h : MoR G M S th) (hp : mRes M G post (sp_li S (S_at S v) fun r b n => if okV x then (0, ofF (S_v S r b) x n, S) else (2, 0, S))) : w_X3_often K post (some M.1.1) v x G := by
  refine m_rcv h (m_isNoList h (fun c => ?_) (fun j r b n hj ev hs => ?_))
  · rw [c] at hp
    exact m_isNoValue (fun _ => m_rcv h (m_fails h (fun G1 f1 h1 => ⟨fun z => absurd z (by decide), fun _ => mr (a := (1, 0, S)) hp f1 h1⟩))) (fun _ => m_rcv h (m_fails h (fun G1 f1 h1 => ⟨fun z => absurd z (by decide), fun _ => mr (a := (1, 0, S)) hp f1 h1⟩)))
  · subst ev
    rw [S_at_nI S hj, hs] at hp
    have hn12 := (S_12 h.1 hj hs).2
    refine m_isNoValue (fun hx => ?_) (fun hx => ?_)
    · simp only [sp_li, if_neg hx] at hp
      exact m_rcv h (m_fails h (fun G1 f1 h1 => ⟨fun z => absurd z (by decide), fun _ => mr hp f1 h1⟩))
    · simp only [sp_li, if_pos hx] at hp
      refine m_rcv h (m_fails h (fun G1 f1 h1 => ⟨fun _ => m_rcv h1 (m_all h1 hj hs (fun q f G2 q0 q1 q2 q3 h2 => m_oftenIn q1 (by omega) ?_)), fun z => absurd (by decide) z⟩))
      rw [← ofF_cn, ofF_cg n (fun t ht => q2 t ht)]
      exact mr hp (fr_al f1 q0 q3) h2
theorem m_removeValue {v x : Int32} (h : MoR G M S th) (hp : mRes M G post (sp_li S (S_at S v) fun r b n => if okV x then (if fpF (S_v S r b) x n 0 = -1 then (0, 0, S) else (0, -9, S_ref S)) else (2, 0, S))) : w_X3_removeValue K post (some M.1.1) v x G := by
  refine m_rcv h (m_isNoList h (fun c => ?_) (fun j r b n hj ev hs => ?_))
  · rw [c] at hp
    exact m_isNoValue (fun _ => m_rcv h (m_fails h (fun G1 f1 h1 => ⟨fun z => absurd z (by decide), fun _ => mr (a := (1, 0, S)) hp f1 h1⟩))) (fun _ => m_rcv h (m_fails h (fun G1 f1 h1 => ⟨fun z => absurd z (by decide), fun _ => mr (a := (1, 0, S)) hp f1 h1⟩)))
  · subst ev
    rw [S_at_nI S hj, hs] at hp
    have hn12 := (S_12 h.1 hj hs).2
    refine m_isNoValue (fun hx => ?_) (fun hx => ?_)
    · simp only [sp_li, if_neg hx] at hp
      exact m_rcv h (m_fails h (fun G1 f1 h1 => ⟨fun z => absurd z (by decide), fun _ => mr hp f1 h1⟩))
    · simp only [sp_li, if_pos hx] at hp
      refine m_rcv h (m_fails h (fun G1 f1 h1 => ⟨fun _ => m_rcv h1 (m_all h1 hj hs (fun q f G2 q0 q1 q2 q3 h2 => m_oftenIn q1 (by omega) ?_)), fun z => absurd (by decide) z⟩))
      rw [← ofF_cn, ofF_cg n (fun t ht => q2 t ht), ofF_cn]
      have hle := cnF_le (S_v S r b) x n
      have hcn := fpF_cn (S_v S r b) x (show n < 2 ^ 31 by omega)
      by_cases c : cnF (S_v S r b) x n = 0
      · rw [if_pos (hcn.mpr c)] at hp
        rw [c]
        exact ⟨fun _ => m_rcv h2 (m_refusedIf h2 (fun _ => mr hp (fr_al f1 q0 q3) h2) (fun z => absurd rfl z)), fun z => absurd (by decide) z⟩
      · rw [if_neg (fun z => c (hcn.mp z))] at hp
        exact ⟨fun z => absurd z (nI_nle (by omega) (by omega)), fun _ => m_rcv h2 (m_refusedIf h2 (fun z => absurd z (by decide)) (fun _ G3 f3 h3 => mr hp (fr_tr (fr_al f1 q0 q3) f3) h3))⟩
end MOG
