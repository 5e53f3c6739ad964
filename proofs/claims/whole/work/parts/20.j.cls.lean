/-! lay: a new twin; the row's parts go -/
def dpF (S : tS) (row : Nat) : Nat → tS × Int32
  | 0 => (S, 0)
  | k + 1 => match (dpF S row k).1.1 (3 + k) with
    | some (r, _, _) => if r = row then (S_lst (dpF S row k).1 (3 + k) none, (dpF S row k).2 + 1) else dpF S row k
    | none => dpF S row k
theorem dp_none {S : tS} {row k : Nat} (h : (dpF S row k).1.1 (3 + k) = none) : dpF S row (k + 1) = dpF S row k := by
  show (match (dpF S row k).1.1 (3 + k) with | some (r, _, _) => _ | none => _) = _
  rw [h]
theorem dp_no {S : tS} {row k r b n : Nat} (h : (dpF S row k).1.1 (3 + k) = some (r, b, n)) (hr : ¬ r = row) : dpF S row (k + 1) = dpF S row k := by
  show (match (dpF S row k).1.1 (3 + k) with | some (r, _, _) => _ | none => _) = _
  rw [h]; exact if_neg hr
theorem dp_yes {S : tS} {row k r b n : Nat} (h : (dpF S row k).1.1 (3 + k) = some (r, b, n)) (hr : r = row) : dpF S row (k + 1) = (S_lst (dpF S row k).1 (3 + k) none, (dpF S row k).2 + 1) := by
  show (match (dpF S row k).1.1 (3 + k) with | some (r, _, _) => _ | none => _) = _
  rw [h]; exact if_pos hr
/-- what stands behind k steps: what stood, but the row's parts among the first k -/
theorem dp_sub (S : tS) (row : Nat) : ∀ k, (dpF S row k).1.2 = S.2 ∧ ∀ j, ((dpF S row k).1.1 j = S.1 j ∨ ((dpF S row k).1.1 j = none ∧ 3 ≤ j)) ∧ (3 ≤ j → j < 3 + k → ∀ r b n, (dpF S row k).1.1 j = some (r, b, n) → ¬ r = row)
  | 0 => ⟨rfl, fun j => ⟨Or.inl rfl, fun h1 h2 => absurd h2 (by omega)⟩⟩
  | k + 1 => by
    have ih := dp_sub S row k
    cases hc : (dpF S row k).1.1 (3 + k) with
    | none =>
      rw [dp_none hc]
      refine ⟨ih.1, fun j => ⟨(ih.2 j).1, fun h1 h2 r b n e => ?_⟩⟩
      by_cases c : j = 3 + k
      · rw [c, hc] at e; cases e
      · exact (ih.2 j).2 h1 (by omega) r b n e
    | some q =>
      obtain ⟨r, b, n⟩ := q
      by_cases hr : r = row
      · rw [dp_yes hc hr]
        refine ⟨ih.1, fun j => ?_⟩
        show ((if j = 3 + k then none else (dpF S row k).1.1 j) = S.1 j ∨ ((if j = 3 + k then none else (dpF S row k).1.1 j) = none ∧ 3 ≤ j)) ∧ (3 ≤ j → j < 3 + (k + 1) → ∀ r b n, (if j = 3 + k then none else (dpF S row k).1.1 j) = some (r, b, n) → ¬ r = row)
        by_cases c : j = 3 + k
        · simp only [if_pos c]
          exact ⟨Or.inr ⟨trivial, by omega⟩, fun _ _ _ _ _ e => by cases e⟩
        · simp only [if_neg c]
          exact ⟨(ih.2 j).1, fun h1 h2 r b n e => (ih.2 j).2 h1 (by omega) r b n e⟩
      · rw [dp_no hc hr]
        refine ⟨ih.1, fun j => ⟨(ih.2 j).1, fun h1 h2 r' b' n' e => ?_⟩⟩
        by_cases c : j = 3 + k
        · rw [c, hc] at e; cases e; exact hr
        · exact (ih.2 j).2 h1 (by omega) r' b' n' e
section CLJ
variable {K : tK} {G : tG} {L : tL} {S : tS} {post : Int32 → tG → Prop} {postX : String → tG → Prop}
theorem c_dropPartsOf {pk : Int32 → tG → Prop} {row : Nat} (hrow : row < 3) (hb : ∀ j r b n, j < 7 → S.1 j = some (r, b, n) → r < 3) (h : TwC G L S) (hp : ∀ G', fr (clsW L) G G' → TwC G' L (dpF S row 4).1 → pk (dpF S row 4).2 G') : w_X1_dropPartsOf K pk (some L.1) (nI row) G := by
  have main : ∀ k i G1, i + k = 4 → fr (clsW L) G G1 → TwC G1 L (dpF S row i).1 → w_X1_dropPartsOf_4 K pk (k + 1) (some L.1) (nI row) (dpF S row i).2 (nI (3 + i)) G1 := by
    intro k
    induction k with
    | zero =>
      intro i G1 hi hf h1
      show w_X1_dropPartsOf_4_b K pk (w_X1_dropPartsOf_4 K pk 0) (some L.1) (nI row) (dpF S row i).2 (nI (3 + i)) G1
      have e : i = 4 := by omega
      subst e
      obtain ⟨⟨lf, k2, k3, k4⟩, -⟩ := id h1
      exact gfR_i _ k2 rfl (lenA_i k3 ⟨fun _ => hp G1 hf h1, fun c => absurd (show nI 7 ≤ nI 7 from by decide) c⟩)
    | succ k ih =>
      intro i G1 hi hf h1
      show w_X1_dropPartsOf_4_b K pk (w_X1_dropPartsOf_4 K pk (k + 1)) (some L.1) (nI row) (dpF S row i).2 (nI (3 + i)) G1
      obtain ⟨⟨lf, k2, k3, k4⟩, -⟩ := id h1
      refine gfR_i _ k2 rfl (lenA_i k3 ⟨fun c => ?_, fun _ => gfR_i _ k2 rfl (alR_i k3 rfl (j := 3 + i) (by omega) (by omega) ?_)⟩)
      · exact absurd (show nI 7 ≤ nI (3 + i) from c) (nI_ge (by omega) (by omega))
      · rcases k4 (3 + i) (by omega) with ⟨e1, e2⟩ | ⟨o, r, b, n, e1, e2, e3⟩
        · rw [e1]
          refine ⟨fun _ => ?_, fun z => absurd rfl z⟩
          show w_X1_dropPartsOf_4 K pk (k + 1) (some L.1) (nI row) (dpF S row i).2 (nI (3 + i) + 1) G1
          rw [nI_1]
          have := ih (i + 1) G1 (by omega) hf (by rw [dp_none e2]; exact h1)
          rw [dp_none e2] at this
          exact this
        · rw [e1]
          have hr3 : r < 3 := by
            rcases ((dp_sub S row i).2 (3 + i)).1 with q | q
            · rw [q] at e2; exact hb (3 + i) r b n (by omega) e2
            · rw [q.1] at e2; cases e2
          refine ⟨fun z => (by cases z), fun _ => gfI_i e3 rfl ⟨fun c => ?_, fun c => ?_⟩⟩
          · have hne : ¬ r = row := fun q => c (by rw [q])
            show w_X1_dropPartsOf_4 K pk (k + 1) (some L.1) (nI row) (dpF S row i).2 (nI (3 + i) + 1) G1
            rw [nI_1]
            have := ih (i + 1) G1 (by omega) hf (by rw [dp_no e2 hne]; exact h1)
            rw [dp_no e2 hne] at this
            exact this
          · have heq : r = row := (nI_eq (by omega) (by omega)).mp c
            refine gfR_i _ k2 rfl (asR_i k3 rfl (j := 3 + i) (by omega) (by omega) (Or.inl rfl) ?_)
            show w_X1_dropPartsOf_4 K pk (k + 1) (some L.1) (nI row) ((dpF S row i).2 + 1) (nI (3 + i) + 1) _
            rw [nI_1]
            have := ih (i + 1) _ (by omega) (fr_tr hf (fr_up _ (Or.inr (Or.inl rfl)))) (by rw [dp_yes e2 heq]; exact TwC_lst h1 k3 (Or.inl ⟨rfl, rfl⟩))
            rw [dp_yes e2 heq] at this
            exact this
  exact ⟨5, main 4 0 G (by omega) (fr_rf _ _) h⟩
end CLJ
