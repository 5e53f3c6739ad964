/-! the model: one list in another one; tests -/
def iatF (f g : Nat → Int32) (n n2 a : Nat) : Int32 := if a + n2 ≤ n then haF (fun t => f (a + t)) g n2 0 else 0
def ixF (f g : Nat → Int32) (n n2 : Nat) : Nat → Nat → Int32
  | 0, _ => -1
  | k + 1, i => if iatF f g n n2 i = 0 then ixF f g n n2 k (i + 1) else nI i
theorem ixF_ia (f g : Nat → Int32) (n n2 : Nat) : ∀ k i, i + k = n + 1 → ixF f g n n2 k i = iaF f g n2 (n + 1 - n2 - i) i
  | 0, i, h => by
    rw [show n + 1 - n2 - i = 0 by omega]; rfl
  | k + 1, i, h => by
    show (if iatF f g n n2 i = 0 then ixF f g n n2 k (i + 1) else nI i) = _
    rw [ixF_ia f g n n2 k (i + 1) (by omega)]
    unfold iatF
    by_cases c : i + n2 ≤ n
    · rw [if_pos c, show n + 1 - n2 - i = (n + 1 - n2 - (i + 1)) + 1 by omega]; rfl
    · rw [if_neg c, if_pos rfl, show n + 1 - n2 - i = 0 by omega, show n + 1 - n2 - (i + 1) = 0 by omega]; rfl
theorem iatF_01 (f g : Nat → Int32) (n n2 a : Nat) : iatF f g n n2 a = 0 ∨ iatF f g n n2 a = 1 := by
  unfold iatF
  split
  · exact haF_01 _ _ _ _
  · exact Or.inl rfl
def orF (f : Nat → Int32) (t w : Int32) : Nat → Int32
  | 0 => 0
  | k + 1 => orF f t w k ||| tsF t w (f k)
theorem tsF_01 (t w x : Int32) : tsF t w x = 0 ∨ tsF t w x = 1 := by
  unfold tsF
  split
  · split
    · exact Or.inr rfl
    · exact Or.inl rfl
  · split
    · split
      · exact Or.inr rfl
      · exact Or.inl rfl
    · split
      · exact Or.inl rfl
      · split
        · exact Or.inl rfl
        · exact Or.inr rfl
theorem orF_01 (f : Nat → Int32) (t w : Int32) : ∀ k, (orF f t w k = 0 ∨ orF f t w k = 1) ∧ (orF f t w k = 0 ↔ ∀ i, i < k → tsF t w (f i) = 0)
  | 0 => ⟨Or.inl rfl, fun _ i h => absurd h (by omega), fun _ => rfl⟩
  | k + 1 => by
    obtain ⟨h1, h2⟩ := orF_01 f t w k
    show ((orF f t w k ||| tsF t w (f k)) = 0 ∨ (orF f t w k ||| tsF t w (f k)) = 1) ∧ ((orF f t w k ||| tsF t w (f k)) = 0 ↔ _)
    rcases tsF_01 t w (f k) with c | c
    · rcases h1 with d | d
      · rw [c, d]
        refine ⟨Or.inl (by decide), fun _ i hi => ?_, fun _ => by decide⟩
        by_cases e : i = k
        · rw [e]; exact c
        · exact h2.mp d i (by omega)
      · rw [c, d]
        refine ⟨Or.inr (by decide), fun z => absurd z (by decide), fun z => ?_⟩
        have := h2.mpr (fun i hi => z i (by omega))
        rw [d] at this; exact absurd this (by decide)
    · have e : (orF f t w k ||| tsF t w (f k)) = 1 := by
        rcases h1 with d | d <;> rw [c, d] <;> decide
      rw [e]
      refine ⟨Or.inr rfl, fun z => absurd z (by decide), fun z => ?_⟩
      have := z k (by omega)
      rw [c] at this; exact absurd this (by decide)
theorem otF_0 (f : Nat → Int32) (t w : Int32) : ∀ k i, otF f t w k i = 0 ↔ ∀ s, i ≤ s → s < i + k → tsF t w (f s) = 0
  | 0, i => ⟨fun _ s h1 h2 => absurd h2 (by omega), fun _ => rfl⟩
  | k + 1, i => by
    show (if tsF t w (f i) = 0 then otF f t w k (i + 1) else 1) = 0 ↔ _
    by_cases c : tsF t w (f i) = 0
    · rw [if_pos c, otF_0 f t w k (i + 1)]
      refine ⟨fun q j h1 h2 => ?_, fun q j h1 h2 => q j (by omega) (by omega)⟩
      by_cases e : j = i
      · rw [e]; exact c
      · exact q j (by omega) (by omega)
    · rw [if_neg c]
      exact ⟨fun z => absurd z (by decide), fun z => absurd (z i (by omega) (by omega)) c⟩
section MOJ
variable {K : tK} {G : tG} {M : tM} {S : tS} {th : Int32} {post : Int32 → tG → Prop}
theorem m_isAt {pk : Int32 → tG → Prop} {q q' n n2 a : Nat} {f g : Nat → Int32} (hq : G q = some (eI n f)) (hq' : G q' = some (eI n2 g)) (hn : n < 2 ^ 30) (hn2 : n2 < 2 ^ 30) (ha : a < 2 ^ 30) (h : pk (iatF f g n n2 a) G) : w_X3_isAt K pk (some q) (nI a) (some q') G := by
  unfold iatF at h
  refine lenA_i hq' (lenA_i hq ?_)
  have e0 : nI a + nI n2 = nI (a + n2) := nI_add _ _
  by_cases c : a + n2 ≤ n
  · rw [if_pos c] at h
    have main : ∀ k i, i + k = n2 → pk (haF (fun t => f (a + t)) g k i) G → w_X3_isAt_18 K pk (k + 1) (some q) (nI a) (some q') 1 (nI i) G := by
      intro k
      induction k with
      | zero =>
        intro i hi hp
        show w_X3_isAt_18_b K pk (w_X3_isAt_18 K pk 0) (some q) (nI a) (some q') 1 (nI i) G
        exact lenA_i hq' ⟨fun _ => ⟨by decide, hp⟩, fun c => absurd (nI_le (by omega) (by omega)) c⟩
      | succ k ih =>
        intro i hi hp
        show w_X3_isAt_18_b K pk (w_X3_isAt_18 K pk (k + 1)) (some q) (nI a) (some q') 1 (nI i) G
        refine lenA_i hq' ⟨fun c => absurd c (nI_ge (by omega) (by omega)), fun _ => ⟨fun z => absurd z (by decide), fun _ => alI_i hq (nI_add a i) (by omega) (by omega) (alI_i hq' rfl (by omega) (by omega) ⟨fun d => ?_, fun d => ?_⟩)⟩⟩
        · have d : ¬ (fun t => f (a + t)) i = g i := d
          simp only [haF, if_neg d] at hp
          show w_X3_isAt_18_b K pk (w_X3_isAt_18 K pk k) (some q) (nI a) (some q') 0 (nI i + 1) G
          exact lenA_i hq' ⟨fun _ => ⟨by decide, hp⟩, fun _ => ⟨fun _ => ⟨by decide, hp⟩, fun z => absurd rfl z⟩⟩
        · have d : (fun t => f (a + t)) i = g i := d
          simp only [haF, if_pos d] at hp
          show w_X3_isAt_18 K pk (k + 1) (some q) (nI a) (some q') 1 (nI i + 1) G
          rw [nI_1]
          exact ih (i + 1) (by omega) hp
    refine ⟨fun d => ?_, fun _ => ⟨n2 + 1, main n2 0 (by omega) h⟩⟩
    rw [e0] at d
    exact absurd d (nI_nlt (show a + n2 ≤ n from c) (by omega))
  · rw [if_neg c] at h
    refine ⟨fun _ => ⟨1, ?_⟩, fun d => absurd ?_ d⟩
    · show w_X3_isAt_18_b K pk (w_X3_isAt_18 K pk 0) (some q) (nI a) (some q') 0 0 G
      exact lenA_i hq' ⟨fun _ => ⟨by decide, h⟩, fun _ => ⟨fun _ => ⟨by decide, h⟩, fun z => absurd rfl z⟩⟩
    · rw [e0]
      exact nI_lt (show n < a + n2 by omega) (by omega)
theorem iatF_cg {f g f' g' : Nat → Int32} {n n2 a : Nat} (hf : ∀ t, t < n → f t = f' t) (hg : ∀ t, t < n2 → g t = g' t) : iatF f g n n2 a = iatF f' g' n n2 a := by
  unfold iatF
  by_cases c : a + n2 ≤ n
  · rw [if_pos c, if_pos c]
    exact haF_cg n2 0 (fun t _ ht => ⟨hf (a + t) (by omega), hg t (by omega)⟩)
  · rw [if_neg c, if_neg c]
theorem m_areEqual {v w : Int32} (h : MoR G M S th) (hp : mRes M G post (sp_2 S (S_at S v) (S_at S w) fun r b n r2 b2 n2 => (0, if n = n2 then haF (S_v S r b) (S_v S r2 b2) n2 0 else 0, S))) : w_X3_areEqual K post (some M.1.1) v w G := by
  refine m_rcv h (m_isNoPair h (fun c => ?_) (fun j r b n j2 r2 b2 n2 hj ev hs hj2 ew hs2 => ?_))
  · rw [sp_2_bad c] at hp
    exact m_rcv h (m_fails h (fun G1 f1 h1 => ⟨fun _ => ⟨by decide, mr hp f1 h1⟩, fun z => absurd z (by decide)⟩))
  · subst ev; subst ew
    rw [S_at_nI S hj, S_at_nI S hj2, hs, hs2] at hp
    have hn12 := (S_12 h.1 hj hs).2
    have hm12 := (S_12 h.1 hj2 hs2).2
    refine m_rcv h (m_fails h (fun G1 f1 h1 => ⟨fun z => absurd (by decide) z, fun _ => m_len h1 hj hs (m_len h1 hj2 hs2 ⟨fun c => ⟨by decide, ?_⟩, fun c => ?_⟩)⟩))
    · simp only [sp_2, if_neg (fun e : n = n2 => c (by rw [e]))] at hp
      exact mr hp f1 h1
    · have hc := (nI_eq (by omega) (by omega)).mp c
      simp only [sp_2, if_pos hc] at hp
      refine m_rcv h1 (m_all h1 hj hs (fun q f G2 q0 q1 q2 q3 h2 => m_rcv h2 (m_all h2 hj2 hs2 (fun q' f' G3 p0 p1 p2 p3 h3 => ?_))))
      have hne : q ≠ q' := fun c => by rw [← c, q1] at p0; cases p0
      have e3 : G3 q = some (eI n f) := by rw [p3 q hne]; exact q1
      refine m_isAt (a := 0) e3 p1 (by omega) (by omega) (by omega) ?_
      have e4 : iatF f f' n n2 0 = haF (S_v S r b) (S_v S r2 b2) n2 0 := by
        rw [iatF_cg q2 p2]
        unfold iatF
        rw [if_pos (by omega)]
        exact haF_cg n2 0 (fun t _ _ => ⟨by rw [Nat.zero_add], rfl⟩)
      rw [e4]
      have hq := mr hp (fr_al (fr_al f1 q0 q3) p0 p3) h3
      rcases haF_01 (S_v S r b) (S_v S r2 b2) n2 0 with d | d
      · rw [d] at hq ⊢
        exact ⟨fun _ => ⟨by decide, hq⟩, fun z => absurd rfl z⟩
      · rw [d] at hq ⊢
        exact ⟨fun z => absurd z (by decide), fun _ => ⟨by decide, hq⟩⟩
theorem m_indexOfAll {v w : Int32} (h : MoR G M S th) (hp : mRes M G post (sp_2 S (S_at S v) (S_at S w) fun r b n r2 b2 n2 => (0, iaF (S_v S r b) (S_v S r2 b2) n2 (n + 1 - n2) 0, S))) : w_X3_indexOfAll K post (some M.1.1) v w G := by
  refine m_rcv h (m_isNoPair h (fun c => ?_) (fun j r b n j2 r2 b2 n2 hj ev hs hj2 ew hs2 => ?_))
  · rw [sp_2_bad c] at hp
    exact m_rcv h (m_fails h (fun G1 f1 h1 => ⟨fun z => absurd z (by decide), fun _ => mr hp f1 h1⟩))
  · subst ev; subst ew
    rw [S_at_nI S hj, S_at_nI S hj2, hs, hs2] at hp
    have hn12 := (S_12 h.1 hj hs).2
    have hm12 := (S_12 h.1 hj2 hs2).2
    refine m_rcv h (m_fails h (fun G1 f1 h1 => ⟨fun _ => ?_, fun z => absurd (by decide) z⟩))
    have hp2 : ∀ G', fr (moW M) G G' → MoR G' M S 0 → post (ixF (S_v S r b) (S_v S r2 b2) n n2 (n + 1) 0) G' := fun G' f' h' => by
      rw [ixF_ia (S_v S r b) (S_v S r2 b2) n n2 (n + 1) 0 (by omega)]
      exact mr hp f' h'
    have main : ∀ k i G2, i + k = n + 1 → fr (moW M) G G2 → MoR G2 M S 0 → (∀ G', fr (moW M) G G' → MoR G' M S 0 → post (ixF (S_v S r b) (S_v S r2 b2) n n2 k i) G') → w_X3_indexOfAll_18 K post (k + 1) (2 * i) (24 * i) (some M.1.1) (nI j) (nI j2) (nI i) G2 := by
      intro k
      induction k with
      | zero =>
        intro i G2 hi f2 h2 hq
        show w_X3_indexOfAll_18_b K post (w_X3_indexOfAll_18 K post 0) (2 * i) (24 * i) (some M.1.1) (nI j) (nI j2) (nI i) G2
        exact m_len h2 hj hs ⟨fun _ => hq G2 f2 h2, fun c => absurd (nI_lt (by omega) (by omega)) c⟩
      | succ k ih =>
        intro i G2 hi f2 h2 hq
        show w_X3_indexOfAll_18_b K post (w_X3_indexOfAll_18 K post (k + 1)) (2 * i) (24 * i) (some M.1.1) (nI j) (nI j2) (nI i) G2
        refine m_len h2 hj hs ⟨fun c => absurd c (nI_nlt (by omega) (by omega)), fun _ => ⟨⟨by omega, by omega⟩, m_rcv h2 (m_all h2 hj hs (fun q f G3 q0 q1 q2 q3 h3 => ⟨⟨by omega, by omega⟩, m_rcv h3 (m_all h3 hj2 hs2 (fun q' f' G4 p0 p1 p2 p3 h4 => ?_))⟩))⟩⟩
        have hne : q ≠ q' := fun c => by rw [← c, q1] at p0; cases p0
        have e4 : G4 q = some (eI n f) := by rw [p3 q hne]; exact q1
        have f4 := fr_al (fr_al f2 q0 q3) p0 p3
        refine m_isAt e4 p1 (by omega) (by omega) (by omega) ?_
        rw [iatF_cg q2 p2]
        refine ⟨fun d => ?_, fun d => ?_⟩
        · simp only [ixF, if_pos d] at hq
          rw [nI_1, show 2 * i + 1 + 1 = 2 * (i + 1) by omega, show 24 * i + 12 + 12 = 24 * (i + 1) by omega]
          exact ih (i + 1) G4 (by omega) f4 h4 hq
        · simp only [ixF, if_neg d] at hq
          exact hq G4 f4 h4
    exact ⟨n + 1 + 1, main (n + 1) 0 G1 (by omega) f1 h1 hp2⟩
theorem m_tested {pk : Int32 → tG → Prop} {x t w : Int32} (h : pk (tsF t w x) G) : w_X3_tested K pk t x w G := by
  unfold tsF at h
  refine ⟨fun c => ⟨fun c1 => ⟨fun d => ⟨by decide, ?_⟩, fun d => ⟨fun d2 => ⟨by decide, ?_⟩, fun d2 => ⟨by decide, ?_⟩⟩⟩, fun c1 => ⟨fun d => ⟨by decide, ?_⟩, fun d => ⟨by decide, ?_⟩⟩⟩, fun c => ⟨fun d => ⟨by decide, ?_⟩, fun d => ⟨by decide, ?_⟩⟩⟩
  · rw [if_neg c, if_neg c1, if_pos d] at h; exact h
  · rw [if_neg c, if_neg c1, if_neg d, if_pos d2] at h; exact h
  · rw [if_neg c, if_neg c1, if_neg d, if_neg d2] at h; exact h
  · rw [if_neg c, if_pos c1, if_neg d] at h; exact h
  · rw [if_neg c, if_pos c1, if_pos d] at h; exact h
  · rw [if_pos c, if_neg d] at h; exact h
  · rw [if_pos c, if_pos d] at h; exact h
theorem orF_cg {f g : Nat → Int32} {t w : Int32} : ∀ k, (∀ s, s < k → f s = g s) → orF f t w k = orF g t w k
  | 0, _ => rfl
  | k + 1, h => by
    show (orF f t w k ||| tsF t w (f k)) = (orF g t w k ||| tsF t w (g k))
    rw [h k (by omega), orF_cg k (fun t ht => h t (by omega))]
theorem m_removeIf {v t w : Int32} (h : MoR G M S th) (hp : mRes M G post (sp_li S (S_at S v) fun r b n => if inR t 0 2 ∧ inR w (-99) 99 then (if otF (S_v S r b) t w n 0 = 0 then (0, 0, S) else (0, -9, S_ref S)) else (2, 0, S))) : w_X3_removeIf K post (some M.1.1) v t w G := by
  refine m_rcv h (m_isNoList h (fun c => ?_) (fun j r b n hj ev hs => ?_))
  · rw [c] at hp
    have hbad : ∀ u, w_X3_removeIf_31 K post (some M.1.1) v t w (some M.1.1) 1 u G := fun u => m_rcv h (m_fails h (fun G1 f1 h1 => ⟨fun z => absurd (show (1 : Int32) = 0 from z) (by decide), fun _ => mr (a := (1, 0, S)) hp f1 h1⟩))
    exact m_isIn (fun _ => ⟨fun z => absurd z (by decide), fun _ => m_isIn (fun _ => ⟨fun _ => hbad 0, fun z => absurd z (by decide)⟩) (fun _ => ⟨fun z => absurd rfl z, fun _ => hbad 1⟩)⟩) (fun _ => ⟨fun _ => hbad 1, fun z => absurd rfl z⟩)
  · subst ev
    rw [S_at_nI S hj, hs] at hp
    have hn12 := (S_12 h.1 hj hs).2
    have hbad : ¬ (inR t 0 2 ∧ inR w (-99) 99) → w_X3_removeIf_31 K post (some M.1.1) (nI j) t w (some M.1.1) 0 1 G := fun q => by
      simp only [sp_li, if_neg q] at hp
      exact m_rcv h (m_fails h (fun G1 f1 h1 => ⟨fun z => absurd z (by decide), fun _ => mr hp f1 h1⟩))
    refine m_isIn (fun ht => ⟨fun z => absurd z (by decide), fun _ => m_isIn (fun hw => ⟨fun _ => ?_, fun z => absurd z (by decide)⟩) (fun hw => ⟨fun z => absurd rfl z, fun _ => hbad (fun z => hw z.2)⟩)⟩) (fun ht => ⟨fun _ => hbad (fun z => ht z.1), fun z => absurd rfl z⟩)
    simp only [sp_li, if_pos (And.intro ht hw)] at hp
    refine m_rcv h (m_fails h (fun G1 f1 h1 => ⟨fun _ => m_rcv h1 (m_all h1 hj hs (fun q f G2 q0 q1 q2 q3 h2 => lenA_i q1 ?_)), fun z => absurd (by decide) z⟩))
    have hot := otF_0 (S_v S r b) t w n 0
    have hor := (orF_01 (S_v S r b) t w n).2
    have main : ∀ k i, i + k = n → w_X3_removeIf_57 K post (k + 1) (some M.1.1) t w (orF f t w i) (some q) (nI n) (nI i) G2 := by
      intro k
      induction k with
      | zero =>
        intro i hi
        show w_X3_removeIf_57_b K post (w_X3_removeIf_57 K post 0) (some M.1.1) t w (orF f t w i) (some q) (nI n) (nI i) G2
        have e : i = n := by omega
        subst e
        refine ⟨fun _ => ?_, fun c => absurd (nI_le (by omega) (by omega)) c⟩
        rw [orF_cg i q2]
        refine m_rcv h2 (m_refusedIf h2 (fun c => ?_) (fun c G3 f3 h3 => ?_))
        · rw [if_pos (hot.mpr (fun s _ hs => hor.mp c s (by omega)))] at hp
          exact mr hp (fr_al f1 q0 q3) h2
        · rw [if_neg (fun z => c (hor.mpr (fun s hs => hot.mp z s (by omega) (by omega))))] at hp
          exact mr hp (fr_tr (fr_al f1 q0 q3) f3) h3
      | succ k ih =>
        intro i hi
        show w_X3_removeIf_57_b K post (w_X3_removeIf_57 K post (k + 1)) (some M.1.1) t w (orF f t w i) (some q) (nI n) (nI i) G2
        refine ⟨fun c => absurd c (nI_ge (by omega) (by omega)), fun _ => alI_i q1 rfl (by omega) (by omega) (m_tested ?_)⟩
        rw [nI_1]
        exact ih (i + 1) (by omega)
    exact ⟨n + 1, main n 0 (by omega)⟩
end MOJ
