/-! the model: two lists -/
def shF (f g : Nat → Int32) (m : Nat) : Nat → Nat
  | 0 => 0
  | k + 1 => shF f g m k + (if cnF g (f k) m = 0 then 0 else 1)
theorem shF_le (f g : Nat → Int32) (m : Nat) : ∀ k, shF f g m k ≤ k
  | 0 => Nat.le_refl _
  | k + 1 => by
    have := shF_le f g m k
    show shF f g m k + (if cnF g (f k) m = 0 then 0 else 1) ≤ k + 1
    split <;> omega
theorem shF_0 (f g : Nat → Int32) (m : Nat) : ∀ k, shF f g m k = 0 ↔ ∀ t, t < k → cnF g (f t) m = 0
  | 0 => ⟨fun _ t h => absurd h (by omega), fun _ => rfl⟩
  | k + 1 => by
    have ih := shF_0 f g m k
    show shF f g m k + (if cnF g (f k) m = 0 then 0 else 1) = 0 ↔ _
    by_cases c : cnF g (f k) m = 0
    · rw [if_pos c]
      constructor
      · intro z t ht
        by_cases e : t = k
        · rw [e]; exact c
        · exact ih.mp (by omega) t (by omega)
      · intro z
        have := ih.mpr (fun t ht => z t (by omega))
        omega
    · rw [if_neg c]
      exact ⟨fun z => absurd z (by omega), fun z => absurd (z k (by omega)) c⟩
theorem shF_k (f g : Nat → Int32) (m : Nat) : ∀ k, shF f g m k = k ↔ ∀ t, t < k → cnF g (f t) m ≠ 0
  | 0 => ⟨fun _ t h => absurd h (by omega), fun _ => rfl⟩
  | k + 1 => by
    have ih := shF_k f g m k
    have hle := shF_le f g m k
    show shF f g m k + (if cnF g (f k) m = 0 then 0 else 1) = k + 1 ↔ _
    by_cases c : cnF g (f k) m = 0
    · rw [if_pos c]
      exact ⟨fun z => absurd z (by omega), fun z => absurd c (z k (by omega))⟩
    · rw [if_neg c]
      constructor
      · intro z t ht
        by_cases e : t = k
        · rw [e]; exact c
        · exact ih.mp (by omega) t (by omega)
      · intro z
        have := ih.mpr (fun t ht => z t (by omega))
        omega
theorem onF_0 (f g : Nat → Int32) (m : Nat) (is : Int32) : ∀ k i, onF f g m is k i = 0 ↔ ∀ t, i ≤ t → t < i + k → stF g m (f t) ≠ is
  | 0, i => ⟨fun _ t h1 h2 => absurd h2 (by omega), fun _ => rfl⟩
  | k + 1, i => by
    show (if stF g m (f i) = is then 1 else onF f g m is k (i + 1)) = 0 ↔ _
    by_cases c : stF g m (f i) = is
    · rw [if_pos c]
      exact ⟨fun z => absurd z (by decide), fun z => absurd c (z i (by omega) (by omega))⟩
    · rw [if_neg c, onF_0 f g m is k (i + 1)]
      refine ⟨fun q j h1 h2 => ?_, fun q j h1 h2 => q j (by omega) (by omega)⟩
      by_cases e : j = i
      · rw [e]; exact c
      · exact q j (by omega) (by omega)
theorem stF_1 (g : Nat → Int32) {m : Nat} (hm : m < 2 ^ 31) (x : Int32) : stF g m x ≠ 1 ↔ cnF g x m = 0 := by
  have := fpF_cn g x hm
  unfold stF
  by_cases c : cnF g x m = 0
  · rw [if_pos (this.mpr c)]; exact ⟨fun _ => c, fun _ => by decide⟩
  · rw [if_neg (fun z => c (this.mp z))]; exact ⟨fun z => absurd rfl z, fun z => absurd z c⟩
theorem stF_0 (g : Nat → Int32) {m : Nat} (hm : m < 2 ^ 31) (x : Int32) : stF g m x ≠ 0 ↔ cnF g x m ≠ 0 := by
  have := fpF_cn g x hm
  unfold stF
  by_cases c : cnF g x m = 0
  · rw [if_pos (this.mpr c)]; exact ⟨fun z => absurd rfl z, fun z => absurd c z⟩
  · rw [if_neg (fun z => c (this.mp z))]; exact ⟨fun _ => c, fun _ => by decide⟩
theorem onF_sh1 (f g : Nat → Int32) {m : Nat} (hm : m < 2 ^ 31) (k : Nat) : onF f g m 1 k 0 = 0 ↔ shF f g m k = 0 := by
  rw [onF_0, shF_0]
  exact ⟨fun z t ht => (stF_1 g hm _).mp (z t (by omega) (by omega)), fun z t _ ht => (stF_1 g hm _).mpr (z t (by omega))⟩
theorem onF_sh0 (f g : Nat → Int32) {m : Nat} (hm : m < 2 ^ 31) (k : Nat) : onF f g m 0 k 0 = 0 ↔ shF f g m k = k := by
  rw [onF_0, shF_k]
  exact ⟨fun z t ht => (stF_0 g hm _).mp (z t (by omega) (by omega)), fun z t _ ht => (stF_0 g hm _).mpr (z t (by omega))⟩
theorem cnF_cg {f g : Nat → Int32} {x : Int32} : ∀ k, (∀ t, t < k → f t = g t) → cnF f x k = cnF g x k
  | 0, _ => rfl
  | k + 1, h => by
    show cnF f x k + (if f k = x then 1 else 0) = cnF g x k + (if g k = x then 1 else 0)
    rw [h k (by omega), cnF_cg k (fun t ht => h t (by omega))]
theorem shF_cg {f f' g : Nat → Int32} {m : Nat} : ∀ k, (∀ t, t < k → f t = f' t) → shF f g m k = shF f' g m k
  | 0, _ => rfl
  | k + 1, h => by
    show shF f g m k + (if cnF g (f k) m = 0 then 0 else 1) = shF f' g m k + (if cnF g (f' k) m = 0 then 0 else 1)
    rw [h k (by omega), shF_cg k (fun t ht => h t (by omega))]
theorem sp_2_bad {S : tS} {p q : Option (Nat × Nat × Nat)} {F : Nat → Nat → Nat → Nat → Nat → Nat → tA} (c : p = none ∨ q = none) : sp_2 S p q F = (1, 0, S) := by
  rcases c with c | c
  · rw [c]; rfl
  · rw [c]; rcases p with _ | ⟨r, b, n⟩ <;> rfl
section MOI
variable {K : tK} {G : tG} {M : tM} {S : tS} {th : Int32} {post : Int32 → tG → Prop}
theorem m_shared {pk : Int32 → tG → Prop} {j r b n j2 r2 b2 n2 : Nat} (h : MoR G M S th) (hj : j < 7) (hs : S.1 j = some (r, b, n)) (hj2 : j2 < 7) (hs2 : S.1 j2 = some (r2, b2, n2)) (hp : ∀ G', fr (moW M) G G' → MoR G' M S th → pk (nI (shF (S_v S r b) (S_v S r2 b2) n2 n)) G') : w_X3_shared K pk (some M.1.1) (nI j) (nI j2) G := by
  have hn12 := (S_12 h.1 hj hs).2
  have hm12 := (S_12 h.1 hj2 hs2).2
  refine ⟨⟨by omega, by omega⟩, m_rcv h (m_all h hj hs (fun q f G2 q0 q1 q2 q3 h2 => lenA_i q1 ?_))⟩
  have main : ∀ k i G3, i + k = n → fr (moW M) G G3 → MoR G3 M S th → G3 q = some (eI n f) → w_X3_shared_17 K pk (k + 1) (1 + i) (12 + 12 * i) (some M.1.1) (nI j2) (nI (shF (S_v S r b) (S_v S r2 b2) n2 i)) (some q) (nI n) (nI i) G3 := by
    intro k
    induction k with
    | zero =>
      intro i G3 hi f3 h3 e3
      show w_X3_shared_17_b K pk (w_X3_shared_17 K pk 0) (1 + i) (12 + 12 * i) (some M.1.1) (nI j2) (nI (shF (S_v S r b) (S_v S r2 b2) n2 i)) (some q) (nI n) (nI i) G3
      have e : i = n := by omega
      subst e
      exact ⟨fun _ => hp G3 f3 h3, fun c => absurd (nI_le (by omega) (by omega)) c⟩
    | succ k ih =>
      intro i G3 hi f3 h3 e3
      show w_X3_shared_17_b K pk (w_X3_shared_17 K pk (k + 1)) (1 + i) (12 + 12 * i) (some M.1.1) (nI j2) (nI (shF (S_v S r b) (S_v S r2 b2) n2 i)) (some q) (nI n) (nI i) G3
      refine ⟨fun c => absurd c (nI_ge (by omega) (by omega)), fun _ => alI_i e3 rfl (by omega) (by omega) ⟨⟨by omega, by omega⟩, m_rcv h3 (m_all h3 hj2 hs2 (fun q' f' G4 p0 p1 p2 p3 h4 => m_oftenIn p1 (by omega) ?_))⟩⟩
      have hne : q ≠ q' := fun c => by rw [← c, e3] at p0; cases p0
      have e4 : G4 q = some (eI n f) := by rw [p3 q hne]; exact e3
      have hi2 := ih (i + 1) G4 (by omega) (fr_al f3 p0 p3) h4 e4
      rw [q2 i (by omega), cnF_cg n2 p2]
      have hle := cnF_le (S_v S r2 b2) (S_v S r b i) n2
      have e5 : shF (S_v S r b) (S_v S r2 b2) n2 (i + 1) = shF (S_v S r b) (S_v S r2 b2) n2 i + (if cnF (S_v S r2 b2) (S_v S r b i) n2 = 0 then 0 else 1) := rfl
      rw [e5] at hi2
      rw [show 1 + (i + 1) = 1 + i + 1 by omega, show 12 + 12 * (i + 1) = 12 + 12 * i + 12 by omega] at hi2
      refine ⟨fun c => m_one (fun _ => ?_) (fun z => absurd rfl z), fun c => m_one (fun z => absurd z (by decide)) (fun _ => ?_)⟩
      · have hc : cnF (S_v S r2 b2) (S_v S r b i) n2 = 0 := Decidable.byContradiction fun e => nI_nle (by omega) (by omega) c
        rw [if_pos hc, Nat.add_zero] at hi2
        rw [nI_1, Int32.add_zero]; exact hi2
      · have hc : ¬ cnF (S_v S r2 b2) (S_v S r b i) n2 = 0 := fun e => c (by rw [e]; decide)
        rw [if_neg hc] at hi2
        rw [nI_1, nI_1]; exact hi2
  have := main n 0 G2 (by omega) (fr_al (fr_rf _ _) q0 q3) h2 q1
  exact ⟨n + 1, this⟩
theorem m_hasAll {v w : Int32} (h : MoR G M S th) (hp : mRes M G post (sp_2 S (S_at S v) (S_at S w) fun r b n r2 b2 n2 => (0, if onF (S_v S r2 b2) (S_v S r b) n 0 n2 0 = 0 then 1 else 0, S))) : w_X3_hasAll K post (some M.1.1) v w G := by
  refine m_rcv h (m_isNoPair h (fun c => ?_) (fun j r b n j2 r2 b2 n2 hj ev hs hj2 ew hs2 => ?_))
  · rw [sp_2_bad c] at hp
    exact m_rcv h (m_fails h (fun G1 f1 h1 => ⟨fun _ => ⟨by decide, mr hp f1 h1⟩, fun z => absurd z (by decide)⟩))
  · subst ev; subst ew
    rw [S_at_nI S hj, S_at_nI S hj2, hs, hs2] at hp
    have hn12 := (S_12 h.1 hj hs).2
    have hm12 := (S_12 h.1 hj2 hs2).2
    have hon := onF_sh0 (S_v S r2 b2) (S_v S r b) (show n < 2 ^ 31 by omega) n2
    have hle := shF_le (S_v S r2 b2) (S_v S r b) n n2
    refine m_rcv h (m_fails h (fun G1 f1 h1 => ⟨fun z => absurd (by decide) z, fun _ => m_rcv h1 (m_shared h1 hj2 hs2 hj hs (fun G2 f2 h2 => m_len h2 hj2 hs2 ⟨fun c => ⟨by decide, ?_⟩, fun c => ⟨by decide, ?_⟩⟩))⟩))
    · have hc : ¬ shF (S_v S r2 b2) (S_v S r b) n n2 = n2 := fun e => c (by rw [e])
      simp only [sp_2, if_neg (fun z => hc (hon.mp z))] at hp
      exact mr hp (fr_tr f1 f2) h2
    · have hc := (nI_eq (by omega) (by omega)).mp c
      simp only [sp_2, if_pos (hon.mpr hc)] at hp
      exact mr hp (fr_tr f1 f2) h2
theorem m_areApart {v w : Int32} (h : MoR G M S th) (hp : mRes M G post (sp_2 S (S_at S v) (S_at S w) fun r b n r2 b2 n2 => (0, if onF (S_v S r b) (S_v S r2 b2) n2 1 n 0 = 0 then 1 else 0, S))) : w_X3_areApart K post (some M.1.1) v w G := by
  refine m_rcv h (m_isNoPair h (fun c => ?_) (fun j r b n j2 r2 b2 n2 hj ev hs hj2 ew hs2 => ?_))
  · rw [sp_2_bad c] at hp
    exact m_rcv h (m_fails h (fun G1 f1 h1 => ⟨fun _ => ⟨by decide, mr hp f1 h1⟩, fun z => absurd z (by decide)⟩))
  · subst ev; subst ew
    rw [S_at_nI S hj, S_at_nI S hj2, hs, hs2] at hp
    have hn12 := (S_12 h.1 hj hs).2
    have hm12 := (S_12 h.1 hj2 hs2).2
    have hon := onF_sh1 (S_v S r b) (S_v S r2 b2) (show n2 < 2 ^ 31 by omega) n
    have hle := shF_le (S_v S r b) (S_v S r2 b2) n2 n
    refine m_rcv h (m_fails h (fun G1 f1 h1 => ⟨fun z => absurd (by decide) z, fun _ => m_rcv h1 (m_shared h1 hj hs hj2 hs2 (fun G2 f2 h2 => ⟨fun c => ⟨by decide, ?_⟩, fun c => ⟨by decide, ?_⟩⟩))⟩))
    · have hc : ¬ shF (S_v S r b) (S_v S r2 b2) n2 n = 0 := fun e => c (by rw [e]; rfl)
      simp only [sp_2, if_neg (fun z => hc (hon.mp z))] at hp
      exact mr hp (fr_tr f1 f2) h2
    · have hc : shF (S_v S r b) (S_v S r2 b2) n2 n = 0 := (nI_eq (b := 0) (by omega) (by omega)).mp c
      simp only [sp_2, if_pos (hon.mpr hc)] at hp
      exact mr hp (fr_tr f1 f2) h2
theorem m_addAll {v w : Int32} (h : MoR G M S th) (hp : mRes M G post (sp_2 S (S_at S v) (S_at S w) fun _ _ _ _ _ n2 => if n2 = 0 then (0, 0, S) else (0, -9, S_ref S))) : w_X3_addAll K post (some M.1.1) v w G := by
  refine m_rcv h (m_isNoPair h (fun c => ?_) (fun j r b n j2 r2 b2 n2 hj ev hs hj2 ew hs2 => ?_))
  · rw [sp_2_bad c] at hp
    exact m_rcv h (m_fails h (fun G1 f1 h1 => ⟨fun z => absurd z (by decide), fun _ => mr hp f1 h1⟩))
  · subst ev; subst ew
    rw [S_at_nI S hj, S_at_nI S hj2, hs, hs2] at hp
    have hm12 := (S_12 h.1 hj2 hs2).2
    refine m_rcv h (m_fails h (fun G1 f1 h1 => ⟨fun _ => m_len h1 hj2 hs2 ⟨fun c => m_rcv h1 (m_refusedIf h1 (fun _ => ?_) (fun z => absurd rfl z)), fun c => m_rcv h1 (m_refusedIf h1 (fun z => absurd z (by decide)) (fun _ G2 f2 h2 => ?_))⟩, fun z => absurd (by decide) z⟩))
    · have hn : n2 = 0 := Decidable.byContradiction fun e => nI_nle (by omega) (by omega) c
      simp only [sp_2, if_pos hn] at hp
      exact mr hp f1 h1
    · have hn : ¬ n2 = 0 := fun e => c (by rw [e]; decide)
      simp only [sp_2, if_neg hn] at hp
      exact mr hp (fr_tr f1 f2) h2
theorem m_removeAll {v w : Int32} (h : MoR G M S th) (hp : mRes M G post (sp_2 S (S_at S v) (S_at S w) fun r b n r2 b2 n2 => if onF (S_v S r b) (S_v S r2 b2) n2 1 n 0 = 0 then (0, 0, S) else (0, -9, S_ref S))) : w_X3_removeAll K post (some M.1.1) v w G := by
  refine m_rcv h (m_isNoPair h (fun c => ?_) (fun j r b n j2 r2 b2 n2 hj ev hs hj2 ew hs2 => ?_))
  · rw [sp_2_bad c] at hp
    exact m_rcv h (m_fails h (fun G1 f1 h1 => ⟨fun z => absurd z (by decide), fun _ => mr hp f1 h1⟩))
  · subst ev; subst ew
    rw [S_at_nI S hj, S_at_nI S hj2, hs, hs2] at hp
    have hn12 := (S_12 h.1 hj hs).2
    have hm12 := (S_12 h.1 hj2 hs2).2
    have hon := onF_sh1 (S_v S r b) (S_v S r2 b2) (show n2 < 2 ^ 31 by omega) n
    have hle := shF_le (S_v S r b) (S_v S r2 b2) n2 n
    refine m_rcv h (m_fails h (fun G1 f1 h1 => ⟨fun _ => m_rcv h1 (m_shared h1 hj hs hj2 hs2 (fun G2 f2 h2 => ⟨fun c => m_rcv h2 (m_refusedIf h2 (fun _ => ?_) (fun z => absurd rfl z)), fun c => m_rcv h2 (m_refusedIf h2 (fun z => absurd z (by decide)) (fun _ G3 f3 h3 => ?_))⟩)), fun z => absurd (by decide) z⟩))
    · have hc : shF (S_v S r b) (S_v S r2 b2) n2 n = 0 := Decidable.byContradiction fun e => nI_nle (by omega) (by omega) c
      simp only [sp_2, if_pos (hon.mpr hc)] at hp
      exact mr hp (fr_tr f1 f2) h2
    · have hc : ¬ shF (S_v S r b) (S_v S r2 b2) n2 n = 0 := fun e => c (by rw [e]; decide)
      simp only [sp_2, if_neg (fun z => hc (hon.mp z))] at hp
      exact mr hp (fr_tr f1 (fr_tr f2 f3)) h3
theorem m_retainAll {v w : Int32} (h : MoR G M S th) (hp : mRes M G post (sp_2 S (S_at S v) (S_at S w) fun r b n r2 b2 n2 => if onF (S_v S r b) (S_v S r2 b2) n2 0 n 0 = 0 then (0, 0, S) else (0, -9, S_ref S))) : w_X3_retainAll K post (some M.1.1) v w G := by
  refine m_rcv h (m_isNoPair h (fun c => ?_) (fun j r b n j2 r2 b2 n2 hj ev hs hj2 ew hs2 => ?_))
  · rw [sp_2_bad c] at hp
    exact m_rcv h (m_fails h (fun G1 f1 h1 => ⟨fun z => absurd z (by decide), fun _ => mr hp f1 h1⟩))
  · subst ev; subst ew
    rw [S_at_nI S hj, S_at_nI S hj2, hs, hs2] at hp
    have hn12 := (S_12 h.1 hj hs).2
    have hm12 := (S_12 h.1 hj2 hs2).2
    have hon := onF_sh0 (S_v S r b) (S_v S r2 b2) (show n2 < 2 ^ 31 by omega) n
    have hle := shF_le (S_v S r b) (S_v S r2 b2) n2 n
    refine m_rcv h (m_fails h (fun G1 f1 h1 => ⟨fun _ => m_rcv h1 (m_shared h1 hj hs hj2 hs2 (fun G2 f2 h2 => m_len h2 hj hs ⟨fun c => m_rcv h2 (m_refusedIf h2 (fun _ => ?_) (fun z => absurd rfl z)), fun c => m_rcv h2 (m_refusedIf h2 (fun z => absurd z (by decide)) (fun _ G3 f3 h3 => ?_))⟩)), fun z => absurd (by decide) z⟩))
    · rw [nI_leI (by omega) (by omega)] at c
      have hc : shF (S_v S r b) (S_v S r2 b2) n2 n = n := by omega
      simp only [sp_2, if_pos (hon.mpr hc)] at hp
      exact mr hp (fr_tr f1 f2) h2
    · rw [nI_leI (by omega) (by omega)] at c
      have hc : ¬ shF (S_v S r b) (S_v S r2 b2) n2 n = n := by omega
      simp only [sp_2, if_neg (fun z => hc (hon.mp z))] at hp
      exact mr hp (fr_tr f1 (fr_tr f2 f3)) h3
end MOI
