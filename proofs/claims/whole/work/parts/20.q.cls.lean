theorem fpF_at (f : Nat → Int32) (x : Int32) : ∀ k i j, i ≤ j → j < i + k → f j = x → ∃ p, i ≤ p ∧ p ≤ j ∧ fpF f x k i = nI p ∧ f p = x
  | 0, i, j, h1, h2, _ => absurd h2 (by omega)
  | k + 1, i, j, h1, h2, h => by
    by_cases c : f i = x
    · exact ⟨i, by omega, h1, by show (if f i = x then nI i else _) = _; rw [if_pos c], c⟩
    · have hne : j ≠ i := fun e => c (e ▸ h)
      obtain ⟨p, g1, g2, g3, g4⟩ := fpF_at f x k (i + 1) j (by omega) (by omega) h
      exact ⟨p, by omega, g2, by show (if f i = x then nI i else _) = _; rw [if_neg c]; exact g3, g4⟩
theorem lpF_at (f : Nat → Int32) (x : Int32) : ∀ k j, j < k → f j = x → ∃ p, j ≤ p ∧ p < k ∧ lpF f x k = nI p ∧ f p = x
  | 0, j, h2, _ => absurd h2 (by omega)
  | k + 1, j, h2, h => by
    by_cases c : f k = x
    · exact ⟨k, by omega, by omega, by show (if f k = x then nI k else _) = _; rw [if_pos c], c⟩
    · have hne : j ≠ k := fun e => c (e ▸ h)
      obtain ⟨p, g1, g2, g3, g4⟩ := lpF_at f x k j (by omega) h
      exact ⟨p, g1, by omega, by show (if f k = x then nI k else _) = _; rw [if_neg c]; exact g3, g4⟩
section SNQ
variable {K : tK} {G : tG} {o v b n N : Nat} {r : Int32} {f : Nat → Int32}
theorem c_firstsLasts {pk : Int32 → tG → Prop} (ho : G o = some (oRL r v b n)) (hv : G v = some (eI N f)) (hN : N < 2 ^ 31) (hb : b + n ≤ N) (h : pk 1 G) : w_X1_areFirstsAndLasts K pk (some o) G := by
  have main : ∀ k i, i + k = n → w_X1_areFirstsAndLasts_2 K pk (k + 1) (some o) (nI i) G := by
    intro k
    induction k with
    | zero =>
      intro i hi
      show w_X1_areFirstsAndLasts_2_b K pk (w_X1_areFirstsAndLasts_2 K pk 0) (some o) (nI i) G
      exact gfI_i ho rfl ⟨fun _ => ⟨by decide, h⟩, fun c => absurd (nI_le (by omega) (by omega)) c⟩
    | succ k ih =>
      intro i hi
      show w_X1_areFirstsAndLasts_2_b K pk (w_X1_areFirstsAndLasts_2 K pk (k + 1)) (some o) (nI i) G
      refine gfI_i ho rfl ⟨fun c => absurd c (nI_ge (by omega) (by omega)), fun _ => rcv_i ho (l_read ho hv rfl (by omega) hN (c_firstPlace ho hv hN hb (c_lastPlace ho hv hN hb ?_)))⟩
      obtain ⟨p, p1, p2, p3, p4⟩ := fpF_at (fun i => f (b + i)) (f (b + i)) n 0 i (by omega) (by omega) rfl
      obtain ⟨q, q1, q2, q3, q4⟩ := lpF_at (fun i => f (b + i)) (f (b + i)) n i (by omega) rfl
      rw [p3, q3]
      refine rcv_i ho (l_isPlace ho (by omega) (by omega) ?_)
      rw [if_pos (by omega)]
      refine ⟨fun c => absurd c (by decide), fun _ => ⟨fun c => absurd c (nI_nlt (by omega) (by omega)), fun _ => rcv_i ho (l_read ho hv rfl (by omega) hN ⟨fun c => absurd p4 c, fun _ => ?_⟩)⟩⟩
      refine rcv_i ho (l_isPlace ho (by omega) (by omega) ?_)
      rw [if_pos (by omega)]
      refine ⟨fun c => absurd c (by decide), fun _ => ⟨fun c => absurd c (nI_nlt (by omega) (by omega)), fun _ => rcv_i ho (l_read ho hv rfl (by omega) hN ⟨fun _ => ?_, fun c => absurd q4 c⟩)⟩⟩
      rw [nI_1]
      exact ih (i + 1) (by omega)
  exact ⟨n + 1, main n 0 (by omega)⟩
end SNQ
section CLQ
variable {K : tK} {G : tG} {L : tL} {S : tS}
theorem c_isSoundList {pk : Int32 → tG → Prop} {o r b n j : Nat} (h : TwR G L S) (hj : j < 7) (hs : S.1 j = some (r, b, n)) (ho : G o = some (oRL (nI r) (L.2.2.2 r) b n)) (hr : r < 3) (hn : b + n ≤ 12) (hp : ∀ G', fr (clsW L) G G' → TwR G' L S → pk 1 G') : w_X1_isSoundList K pk (some L.1) (some o) G := by
  obtain ⟨-, n0, e0, le0⟩ := h.1.2.1 j r b n hj hs
  refine gfI_i ho rfl (c_rcv h (c_listOrNull h (fun c => ?_) (fun o2 r2 b2 n2 d1 d2 d3 d4 => ?_)))
  · rw [S_at_nI S (by omega), e0] at c; cases c
  · rw [S_at_nI S (by omega), e0] at d1
    cases d1
    refine ⟨fun c => (by cases c), fun _ => c_isInRow ho d2 (h.2.2.2.1 r hr) (by decide) le0 (by omega) ⟨fun c => absurd c (by decide), fun _ => ?_⟩⟩
    refine c_rcv h (c_isEqualToOwn h ho hr hn (fun G1 f1 h1 o1 => ⟨fun c => absurd c (by decide), fun _ => ?_⟩))
    have hv := h1.2.2.2.1 r hr
    refine c_sameBoth o1 hv (by decide) hn ⟨fun c => absurd c (by decide), fun _ => ?_⟩
    exact c_firstsLasts o1 hv (by decide) hn ⟨fun c => absurd c (by decide), fun _ => ⟨by decide, hp G1 f1 h1⟩⟩
theorem c_isSound {pk : Int32 → tG → Prop} (h : TwR G L S) (hp : ∀ G', fr (clsW L) G G' → TwR G' L S → pk 1 G') : w_X1_isSound K pk (some L.1) G := by
  have main : ∀ k i nc ns G1, i + k = 7 → nc ≤ i → ns ≤ 4 * i → fr (clsW L) G G1 → TwR G1 L S → w_X1_isSound_2 K pk (k + 1) nc ns (some L.1) (nI i) G1 := by
    intro k
    induction k with
    | zero =>
      intro i nc ns G1 hi hc hs hf h1
      show w_X1_isSound_2_b K pk (w_X1_isSound_2 K pk 0) nc ns (some L.1) (nI i) G1
      have e : i = 7 := by omega
      subst e
      exact ⟨fun _ => ⟨by decide, hp G1 hf h1⟩, fun c => absurd (by decide) c⟩
    | succ k ih =>
      intro i nc ns G1 hi hc hs hf h1
      show w_X1_isSound_2_b K pk (w_X1_isSound_2 K pk (k + 1)) nc ns (some L.1) (nI i) G1
      refine ⟨fun c => absurd (show nI 7 ≤ nI i from c) (nI_ge (by omega) (by omega)), fun _ => c_rcv h1 (c_listOrNull h1 (fun c => ⟨fun _ => ?_, fun z => absurd rfl z⟩) (fun o r b n d1 d2 d3 d4 => ⟨fun z => (by cases z), fun _ => ⟨⟨by omega, by omega⟩, c_rcv h1 (c_isSoundList h1 (j := i) (by omega) (by rw [S_at_nI S (by omega)] at d1; exact d1) d2 d3 d4 (fun G2 f2 h2 => ⟨fun _ => ?_, fun z => absurd z (by decide)⟩))⟩⟩))⟩
      · show w_X1_isSound_2 K pk (k + 1) nc ns (some L.1) (nI i + 1) G1
        rw [nI_1]
        exact ih (i + 1) nc ns G1 (by omega) (by omega) (by omega) hf h1
      · show w_X1_isSound_2 K pk (k + 1) (nc + 1) (ns + 4) (some L.1) (nI i + 1) G2
        rw [nI_1]
        exact ih (i + 1) (nc + 1) (ns + 4) G2 (by omega) (by omega) (by omega) (fr_tr hf f2) h2
  exact ⟨8, main 7 0 0 0 G (by omega) (by omega) (by omega) (fr_rf _ _) h⟩
end CLQ
