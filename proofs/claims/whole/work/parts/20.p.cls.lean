theorem haF_eq (f g : Nat → Int32) : ∀ k i, (∀ j, i ≤ j → j < i + k → f j = g j) → haF f g k i = 1
  | 0, _, _ => rfl
  | k + 1, i, h => by
    show (if f i = g i then haF f g k (i + 1) else 0) = 1
    rw [if_pos (h i (by omega) (by omega))]
    exact haF_eq f g k (i + 1) (fun j h1 h2 => h j (by omega) (by omega))
theorem TwR_spare {G : tG} {L : tL} {S : tS} (h : TwR G L S) (g' : Nat → Int32) : TwR (tg_up G L.2.2.1 (eI 12 g')) L S := by
  obtain ⟨h1, ⟨lf, h2, h3, h4⟩, ⟨g, h5⟩, h6, h7, h8⟩ := h
  refine ⟨h1, ⟨lf, tg_keep h2 (ne_OI h2 h5), tg_keep h3 (ne_of_G h3 h5 (fun e => by cases e)), fun j hj => ?_⟩, ⟨g', tg_s _ _ _⟩, fun r hr => tg_keep (h6 r hr) (h7 r hr), h7, h8⟩
  rcases h4 j hj with c | ⟨o, r', b, n, c1, c2, c3⟩
  · exact Or.inl c
  · exact Or.inr ⟨o, r', b, n, c1, c2, tg_keep c3 (ne_OI c3 h5)⟩
section SNP
variable {K : tK} {G : tG} {L : tL} {S : tS}
theorem c_isEqualToOwn {pk : Int32 → tG → Prop} {o r b n : Nat} (h : TwR G L S) (ho : G o = some (oRL (nI r) (L.2.2.2 r) b n)) (hr : r < 3) (hn : b + n ≤ 12) (hp : ∀ G', fr (clsW L) G G' → TwR G' L S → G' o = some (oRL (nI r) (L.2.2.2 r) b n) → pk 1 G') : w_X1_isEqualToOwn K pk (some L.1) (some o) G := by
  intro q hq
  have ho2 : tg_up G q (.inr (2, [.int 0, .null, .int 0, .int 0])) o = some (oRL (nI r) (L.2.2.2 r) b n) := tg_keep ho (fun c => by rw [c, hq] at ho; cases ho)
  have h0 : TwR (tg_up G q (.inr (2, [.int 0, .null, .int 0, .int 0]))) L S := TwR_fresh h hq (fun a ha => tg_n _ _ ha)
  obtain ⟨⟨lf, k2, k3, k4⟩, -⟩ := TwR_C h0
  refine gfR_i _ k2 rfl (gfI_i ho2 rfl ⟨⟨q, rfl⟩, c_initRL (tg_s _ _ _) (fun G1 q1 q2 => ?_)⟩)
  have q3 : ∀ a, a ≠ q → G1 a = G a := fun a ha => by rw [q2 a ha, tg_n _ _ ha]
  have h1 := TwR_fresh h hq q3
  have q1 : G1 q = some (oRL (-1) L.2.2.1 0 n) := q1
  have hoq : o ≠ q := fun c => by rw [c, hq] at ho; cases ho
  have o1 : G1 o = some (oRL (nI r) (L.2.2.2 r) b n) := by rw [q3 o hoq]; exact ho
  have main : ∀ k i G2 g, i + k = n → fr (clsW L) G G2 → TwR G2 L S → G2 o = some (oRL (nI r) (L.2.2.2 r) b n) → G2 q = some (oRL (-1) L.2.2.1 0 n) → G2 L.2.2.1 = some (eI 12 g) → (∀ j, j < i → g j = S.2.1 r (b + j)) → w_X1_isEqualToOwn_20 K pk (k + 1) (some o) (some q) (nI i) G2 := by
    intro k
    induction k with
    | zero =>
      intro i G2 g hi hf h2 o2 p2 s2 hg
      show w_X1_isEqualToOwn_20_b K pk (w_X1_isEqualToOwn_20 K pk 0) (some o) (some q) (nI i) G2
      have e : i = n := by omega
      subst e
      refine gfI_i o2 rfl ⟨fun _ => ?_, fun c => absurd (nI_le (by omega) (by omega)) c⟩
      have hv := h2.2.2.2.1 r hr
      refine c_areSame o2 hv (by decide) p2 s2 (by decide) (by omega) (by omega) ?_
      rw [if_pos rfl, haF_eq _ _ _ _ (fun j _ hj => by simp only [Nat.zero_add]; exact (hg j (by omega)).symm)]
      refine ⟨fun c => absurd c (by decide), fun _ => ?_⟩
      refine c_areSame p2 s2 (by decide) o2 hv (by decide) (by omega) (by omega) ?_
      rw [if_pos rfl, haF_eq _ _ _ _ (fun j _ hj => by simp only [Nat.zero_add]; exact hg j (by omega))]
      exact ⟨fun c => absurd c (by decide), fun _ => ⟨by decide, hp G2 hf h2 o2⟩⟩
    | succ k ih =>
      intro i G2 g hi hf h2 o2 p2 s2 hg
      show w_X1_isEqualToOwn_20_b K pk (w_X1_isEqualToOwn_20 K pk (k + 1)) (some o) (some q) (nI i) G2
      refine gfI_i o2 rfl ⟨fun c => absurd c (nI_ge (by omega) (by omega)), fun _ => rcv_i o2 (l_read o2 (h2.2.2.2.1 r hr) rfl (by omega) (by omega) (rcv_i p2 (l_write p2 s2 rfl (by omega) (by omega) ?_)))⟩
      rw [nI_1]
      refine ih (i + 1) _ _ (by omega) (fr_tr hf (fr_up _ (Or.inr (Or.inr (Or.inl rfl))))) (TwR_spare h2 _) (tg_keep o2 (ne_OI o2 s2)) (tg_keep p2 (ne_OI p2 s2)) (tg_s _ _ _) (fun j hj => ?_)
      simp only [upd, Nat.zero_add]
      by_cases c : j = i
      · rw [if_pos c, c]
      · rw [if_neg c]; exact hg j (by omega)
  obtain ⟨g, hg⟩ := h1.2.2.1
  exact ⟨n + 1, main n 0 G1 g (by omega) (fr_fresh hq q3 _) h1 o1 q1 hg (fun j hj => absurd hj (by omega))⟩
end SNP
