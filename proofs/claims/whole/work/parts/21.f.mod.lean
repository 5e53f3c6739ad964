theorem MoR_fr {G G' : tG} {M : tM} {S : tS} {th : Int32} {P : Nat → Prop} (h : MoR G M S th) (hf : fr P G G') (hp : ∀ q, moW M q → ¬ P q) : MoR G' M S th := by
  obtain ⟨h1, ⟨sm, h2⟩, ⟨mf, h3, h4⟩, ⟨fo, fb, fl, ⟨h5, h6, h7⟩, h8⟩, h9, h10, h11, h12⟩ := h
  refine ⟨h1, ⟨sm, hf _ _ h2 (hp _ (Or.inl rfl))⟩, ⟨mf, hf _ _ h3 (hp _ (Or.inr (Or.inl rfl))), h4⟩, ⟨fo, fb, fl, ⟨hf _ _ h5 (hp _ (Or.inr (Or.inr (Or.inl rfl)))), hf _ _ h6 (hp _ (Or.inr (Or.inr (Or.inr (Or.inl rfl))))), hf _ _ h7 (hp _ (Or.inr (Or.inr (Or.inr (Or.inr (Or.inl rfl))))))⟩, h8⟩, fun r hr => ?_, h10, h11, h12⟩
  obtain ⟨f, g1, g2⟩ := h9 r hr
  exact ⟨f, hf _ _ g1 (hp _ (moW_r hr)), g2⟩
theorem MoR_fresh {G G' : tG} {M : tM} {S : tS} {th : Int32} {q : Nat} (h : MoR G M S th) (hq : G q = none) (h' : ∀ a, a ≠ q → G' a = G a) : MoR G' M S th :=
  MoR_fr (P := fun _ => False) h (fr_fresh hq h' _) (fun _ _ z => z)
/-- the rows that are the same as far as lists tell them -/
def S_eq (S S' : tS) : Prop := (∀ j, j < 7 → S.1 j = S'.1 j) ∧ (∀ r i, r < 3 → i < lnF (S.1 r) → S.2.1 r i = S'.2.1 r i) ∧ S.2.2 = S'.2.2
theorem S_eq_rf (S : tS) : S_eq S S := ⟨fun _ _ => rfl, fun _ _ _ _ => rfl, rfl⟩
theorem MoR_eq {G : tG} {M : tM} {S S' : tS} {th : Int32} (h : MoR G M S th) (he : S_eq S S') (hs : S_ok S') : MoR G M S' th := by
  obtain ⟨h1, ⟨sm, h2⟩, h3, ⟨fo, fb, fl, h5, h8⟩, h9, h10⟩ := h
  refine ⟨hs, ⟨sm, ?_⟩, h3, ⟨fo, fb, fl, h5, fun j hj => ?_⟩, fun r hr => ?_, h10⟩
  · rw [← he.2.2]; exact h2
  · rw [← he.1 j hj]; exact h8 j hj
  · obtain ⟨f, g1, g2⟩ := h9 r hr
    rw [← he.1 r (by omega)]
    exact ⟨f, g1, fun i hi => by rw [g2 i hi]; exact he.2.1 r i hr hi⟩
section MOF
variable {K : tK} {G : tG} {M : tM} {S : tS} {th : Int32} {post : Int32 → tG → Prop}
/-- the three arrays by lists, and the rows -/
theorem m_row {P : Int32 → Prop} {j r b n : Nat} (h : MoR G M S th) (hj : j < 7) (hs : S.1 j = some (r, b, n)) (hp : P (nI r)) : gfR G (some M.1.1) 5 1 (fun x => alI G x (nI j) .int P) := by
  obtain ⟨-, ⟨sm, h2⟩, -, ⟨fo, fb, fl, ⟨h5, h6, h7⟩, h8⟩, -⟩ := h
  refine gfR_i _ h2 rfl (alI_i h5 rfl hj (by omega) ?_)
  rcases h8 j hj with ⟨c, -⟩ | ⟨r', b', n', c1, c2, c3, c4⟩
  · rw [hs] at c; cases c
  · rw [hs] at c1; cases c1; rw [c2]; exact hp
theorem m_rowN {P : Int32 → Prop} {j : Nat} (h : MoR G M S th) (hj : j < 7) (hs : S.1 j = none) (hp : P (-1)) : gfR G (some M.1.1) 5 1 (fun x => alI G x (nI j) .int P) := by
  obtain ⟨-, ⟨sm, h2⟩, -, ⟨fo, fb, fl, ⟨h5, h6, h7⟩, h8⟩, -⟩ := h
  refine gfR_i _ h2 rfl (alI_i h5 rfl hj (by omega) ?_)
  rcases h8 j hj with ⟨-, c⟩ | ⟨r', b', n', c1, c2, c3, c4⟩
  · rw [c]; exact hp
  · rw [hs] at c1; cases c1
theorem m_beg {P : Int32 → Prop} {j r b n : Nat} (h : MoR G M S th) (hj : j < 7) (hs : S.1 j = some (r, b, n)) (hp : P (nI b)) : gfR G (some M.1.1) 5 2 (fun x => alI G x (nI j) .int P) := by
  obtain ⟨-, ⟨sm, h2⟩, -, ⟨fo, fb, fl, ⟨h5, h6, h7⟩, h8⟩, -⟩ := h
  refine gfR_i _ h2 rfl (alI_i h6 rfl hj (by omega) ?_)
  rcases h8 j hj with ⟨c, -⟩ | ⟨r', b', n', c1, c2, c3, c4⟩
  · rw [hs] at c; cases c
  · rw [hs] at c1; cases c1; rw [c3]; exact hp
theorem m_len {P : Int32 → Prop} {j r b n : Nat} (h : MoR G M S th) (hj : j < 7) (hs : S.1 j = some (r, b, n)) (hp : P (nI n)) : gfR G (some M.1.1) 5 3 (fun x => alI G x (nI j) .int P) := by
  obtain ⟨-, ⟨sm, h2⟩, -, ⟨fo, fb, fl, ⟨h5, h6, h7⟩, h8⟩, -⟩ := h
  refine gfR_i _ h2 rfl (alI_i h7 rfl hj (by omega) ?_)
  rcases h8 j hj with ⟨c, -⟩ | ⟨r', b', n', c1, c2, c3, c4⟩
  · rw [hs] at c; cases c
  · rw [hs] at c1; cases c1; rw [c4]; exact hp
theorem m_rows {P : Option Nat → Prop} {r : Nat} (h : MoR G M S th) (hr : r < 3) (hp : P (some (M.2 r))) : gfR G (some M.1.1) 5 0 (fun x => alR G x (nI r) (.array .int) P) := by
  obtain ⟨-, ⟨sm, h2⟩, ⟨mf, h3, h4⟩, -⟩ := h
  refine gfR_i _ h2 rfl (alR_i h3 rfl hr (by omega) ?_)
  rw [h4 r hr]; exact hp
/-- a row's own array -/
theorem m_rowA {r n : Nat} (h : MoR G M S th) (hr : r < 3) (hs : S.1 r = some (r, 0, n)) : ∃ f, G (M.2 r) = some (eI n f) ∧ (∀ i, i < n → f i = S.2.1 r i) ∧ n ≤ 12 := by
  obtain ⟨h1, -, -, -, h9, -⟩ := h
  obtain ⟨f, g1, g2⟩ := h9 r hr
  rw [hs] at g1 g2
  obtain ⟨n1, d1, d2⟩ := h1.1 r hr
  rw [hs] at d1
  cases d1
  exact ⟨f, g1, g2, d2⟩
/-- a list's values, in an array of their own -/
theorem m_all {pq : Option Nat → tG → Prop} {j r b n : Nat} (h : MoR G M S th) (hj : j < 7) (hs : S.1 j = some (r, b, n)) (hp : ∀ q f G', G q = none → G' q = some (eI n f) → (∀ i, i < n → f i = S_v S r b i) → (∀ a, a ≠ q → G' a = G a) → MoR G' M S th → pq (some q) G') : w_X3_all K pq (some M.1.1) (nI j) G := by
  have hn12 := (S_12 h.1 hj hs).2
  refine m_len h hj hs ⟨n, nI_toInt (by omega), by omega, fun q hq => ?_⟩
  have main : ∀ k i G1 f, i + k = n → G1 q = some (eI n f) → (∀ t, t < i → f t = S_v S r b t) → (∀ a, a ≠ q → G1 a = G a) → w_X3_all_11 K pq (k + 1) (some M.1.1) (nI j) (some q) (nI i) G1 := by
    intro k
    induction k with
    | zero =>
      intro i G1 f hi e1 hf hk
      show w_X3_all_11_b K pq (w_X3_all_11 K pq 0) (some M.1.1) (nI j) (some q) (nI i) G1
      have e : i = n := by omega
      subst e
      exact lenA_i e1 ⟨fun _ => hp q f G1 hq e1 hf hk (MoR_fresh h hq hk), fun c => absurd (nI_le (by omega) (by omega)) c⟩
    | succ k ih =>
      intro i G1 f hi e1 hf hk
      show w_X3_all_11_b K pq (w_X3_all_11 K pq (k + 1)) (some M.1.1) (nI j) (some q) (nI i) G1
      have h1 := MoR_fresh h hq hk
      refine lenA_i e1 ⟨fun c => absurd c (nI_ge (by omega) (by omega)), fun _ => m_rcv h1 (m_value h1 hj hs (by omega) (asI_i e1 rfl (by omega) (by omega) ?_))⟩
      rw [nI_1]
      refine ih (i + 1) _ _ (by omega) (tg_s _ _ _) (fun t ht => ?_) (fun a ha => ?_)
      · simp only [upd]
        by_cases c : t = i
        · rw [if_pos c, c]
        · rw [if_neg c]; exact hf t (by omega)
      · rw [tg_n _ _ ha]; exact hk a ha
  exact ⟨n + 1, main n 0 _ _ (by omega) (tg_s _ _ _) (fun t ht => absurd ht (by omega)) (fun a ha => tg_n _ _ ha)⟩
end MOF
