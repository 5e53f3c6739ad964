/-! the model: part, lay -/
def MoC (G : tG) (M : tM) (S : tS) (th : Int32) : Prop := (∃ sm, G M.1.1 = some (oMo M S.2.2.1 S.2.2.2 th sm)) ∧ (∃ mf, G M.1.2.1 = some (eR mf) ∧ ∀ r, r < 3 → mf r = some (M.2 r)) ∧
  (∃ fo fb fl, (G M.1.2.2.1 = some (eI 7 fo) ∧ G M.1.2.2.2.1 = some (eI 7 fb) ∧ G M.1.2.2.2.2 = some (eI 7 fl)) ∧ moL S fo fb fl) ∧
  (∀ r, r < 3 → ∃ f, G (M.2 r) = some (eI (lnF (S.1 r)) f) ∧ ∀ i, i < lnF (S.1 r) → f i = S.2.1 r i) ∧
  (M.1.2.2.1 ≠ M.1.2.2.2.1 ∧ M.1.2.2.1 ≠ M.1.2.2.2.2 ∧ M.1.2.2.2.1 ≠ M.1.2.2.2.2) ∧ (∀ r, r < 3 → M.2 r ≠ M.1.2.2.1 ∧ M.2 r ≠ M.1.2.2.2.1 ∧ M.2 r ≠ M.1.2.2.2.2) ∧ (∀ r r', r < 3 → r' < 3 → M.2 r = M.2 r' → r = r')
theorem MoR_C {G : tG} {M : tM} {S : tS} {th : Int32} (h : MoR G M S th) : MoC G M S th := h.2
theorem MoC_R {G : tG} {M : tM} {S : tS} {th : Int32} (h : MoC G M S th) (hs : S_ok S) : MoR G M S th := ⟨hs, h⟩
theorem MoC_lst {G G1 : tG} {M : tM} {S : tS} {th : Int32} {p : Nat} {q : Option (Nat × Nat × Nat)} {fo fb fl : Nat → Int32} (h : MoC G M S th) (hp : 3 ≤ p) (h5 : G1 M.1.2.2.1 = some (eI 7 fo)) (h6 : G1 M.1.2.2.2.1 = some (eI 7 fb)) (h7 : G1 M.1.2.2.2.2 = some (eI 7 fl)) (hl : moL (S_lst S p q) fo fb fl) (hk : ∀ a, a ≠ M.1.2.2.1 → a ≠ M.1.2.2.2.1 → a ≠ M.1.2.2.2.2 → G1 a = G a) : MoC G1 M (S_lst S p q) th := by
  obtain ⟨⟨sm, h2⟩, ⟨mf, h3, h4⟩, ⟨fo0, fb0, fl0, ⟨g5, g6, g7⟩, -⟩, h9, h10, h11, h12⟩ := h
  refine ⟨⟨sm, ?_⟩, ⟨mf, ?_, h4⟩, ⟨fo, fb, fl, ⟨h5, h6, h7⟩, hl⟩, fun r hr => ?_, h10, h11, h12⟩
  · rw [hk _ (ne_OI h2 g5) (ne_OI h2 g6) (ne_OI h2 g7)]; exact h2
  · rw [hk _ (ne_of_G h3 g5 (fun e => by cases e)) (ne_of_G h3 g6 (fun e => by cases e)) (ne_of_G h3 g7 (fun e => by cases e))]; exact h3
  · obtain ⟨f, e1, e2⟩ := h9 r hr
    have e0 : (S_lst S p q).1 r = S.1 r := by show (if r = p then q else S.1 r) = _; rw [if_neg (by omega)]
    rw [e0]
    refine ⟨f, ?_, e2⟩
    have d := h11 r hr
    rw [hk _ d.1 d.2.1 d.2.2]; exact e1
theorem upd_s {f : Nat → Int32} {j : Nat} {x : Int32} : upd f j x j = x := by simp [upd]
theorem upd_n {f : Nat → Int32} {j k : Nat} {x : Int32} (h : k ≠ j) : upd f j x k = f k := by simp [upd, h]
section MOM
variable {K : tK} {G : tG} {M : tM} {S : tS} {th : Int32} {post : Int32 → tG → Prop}
theorem sp_part_1 {p v x y : Int32} (h : ¬ (3 ≤ p.toInt ∧ p.toInt < 7) ∨ S_at S v = none) : sp_part S p v x y = (1, 0, S) := by
  unfold sp_part
  by_cases c : 3 ≤ p.toInt ∧ p.toInt < 7
  · rw [if_pos c]
    rcases h with d | d
    · exact absurd c d
    · rw [d]; rfl
  · rw [if_neg c]
theorem m_part {p v x y : Int32} (h : MoR G M S th) (hp : mRes M G post (sp_part S p v x y)) : w_X3_part K post (some M.1.1) p v x y G := by
  have bad1 : sp_part S p v x y = (1, 0, S) → w_X3_part_18 K post (some M.1.1) p v x y G := fun e => by
    rw [e] at hp
    refine ⟨fun _ => m_rcv h (m_fails h (fun G1 f1 h1 => ⟨fun z => absurd z (by decide), fun _ => mr hp f1 h1⟩)), fun z => absurd z (by decide)⟩
  have e3 : (3 : Int32).toInt = 3 := rfl
  have e6 : (6 : Int32).toInt = 6 := rfl
  refine m_isIn (fun q => ⟨fun z => absurd z (by decide), fun _ => ?_⟩) (fun q => ⟨fun _ => bad1 (sp_part_1 (Or.inl (fun z => q ⟨by rw [i32_lt]; omega, by rw [i32_le]; omega⟩))), fun z => absurd rfl z⟩)
  refine m_rcv h (m_isNoList h (fun c => ⟨fun z => absurd z (by decide), fun _ => bad1 (sp_part_1 (Or.inr c))⟩) (fun j r b n hj ev hs => ⟨fun _ => ?_, fun z => absurd rfl z⟩))
  subst ev
  have hn12 := (S_12 h.1 hj hs).2
  have q1 := q.1
  have q2 := q.2
  rw [i32_lt] at q1
  rw [i32_le] at q2
  have hpn : ∃ p0, 3 ≤ p0 ∧ p0 < 7 ∧ p = nI p0 := by
    obtain ⟨w, hw, e⟩ := nI_of (x := p) (by rw [i32_lt]; have : (0 : Int32).toInt = 0 := rfl; omega)
    subst e
    rw [nI_toInt hw] at q1 q2
    exact ⟨w, by omega, by omega, rfl⟩
  obtain ⟨p0, hp3, hp7, ep⟩ := hpn
  subst ep
  unfold sp_part at hp
  rw [nI_toInt (by omega), if_pos (by omega), S_at_nI S hj, hs] at hp
  have bad2 : ¬ (inR y 0 (nI n) ∧ inR x 0 y) → w_X3_part_62 K post (some M.1.1) (nI p0) (nI j) x y (some M.1.1) 0 G := fun e => by
    simp only [sp_li, if_neg e] at hp
    exact m_rcv h (m_fails h (fun G1 f1 h1 => ⟨fun z => absurd z (by decide), fun _ => mr hp f1 h1⟩))
  have e0 : (0 : Int32).toInt = 0 := rfl
  refine ⟨fun z => absurd rfl z, fun _ => m_len h hj hs (m_isIn (fun hx => ⟨fun z => absurd z (by decide), fun _ => m_len h hj hs (m_isIn (fun hy => ⟨fun _ => ?_, fun z => absurd z (by decide)⟩) (fun hy => ⟨fun z => absurd rfl z, fun _ => bad2 (fun z => hy ?_)⟩))⟩) (fun hx => ⟨fun _ => bad2 (fun z => hx ?_), fun z => absurd rfl z⟩))⟩
  · obtain ⟨a, ha, rfl⟩ := nI_of2 (nI_toInt (n := n) (by omega)) hx.1 hx.2
    have hy1 := hy.1
    have hy2 := hy.2
    rw [i32_lt, nI_toInt (by omega)] at hy1
    rw [i32_le, nI_toInt (by omega)] at hy2
    obtain ⟨e, he, rfl⟩ : ∃ e, e < 2 ^ 31 ∧ y = nI e := nI_of (by rw [i32_lt]; omega)
    rw [nI_toInt he] at hy1 hy2
    have hgood : inR (nI e) 0 (nI n) ∧ inR (nI a) 0 (nI e) := ⟨⟨nI_pos he, nI_le (by omega) (by omega)⟩, ⟨nI_pos (by omega), nI_le (by omega) (by omega)⟩⟩
    simp only [sp_li, if_pos hgood, nI_nat he, nI_nat (show a < 2 ^ 31 by omega)] at hp
    refine m_rcv h (m_fails h (fun G1 f1 h1 => ⟨fun _ => m_row h1 hj hs (m_beg h1 hj hs ?_), fun z => absurd (by decide) z⟩))
    obtain ⟨⟨sm, h2⟩, hrows, ⟨fo, fb, fl, ⟨h5, h6, h7⟩, h8⟩, h9, ⟨n1, n2, n3⟩, h11, h12⟩ := MoR_C h1
    refine gfR_i _ h2 rfl (asI_i h5 rfl hp7 (by omega) ?_)
    refine gfR_i _ (tg_keep h2 (ne_OI h2 h5)) rfl (asI_i (tg_keep h6 (fun e => n1 e.symm)) rfl hp7 (by omega) ?_)
    refine gfR_i _ (tg_keep (tg_keep h2 (ne_OI h2 h5)) (ne_OI h2 h6)) rfl (asI_i (tg_keep (tg_keep h7 (fun e => n2 e.symm)) (fun e => n3 e.symm)) rfl hp7 (by omega) ?_)
    rw [nI_subN (by omega), nI_add]
    refine mr hp (fr_tr f1 (fr_tr (fr_up _ (Or.inr (Or.inr (Or.inl rfl)))) (fr_tr (fr_up _ (Or.inr (Or.inr (Or.inr (Or.inl rfl))))) (fr_up _ (Or.inr (Or.inr (Or.inr (Or.inr (Or.inl rfl))))))))) ?_
    refine MoC_R (MoC_lst (MoR_C h1) hp3 (tg_keep (tg_keep (tg_s _ _ _) n1) n2) (tg_keep (tg_s _ _ _) n3) (tg_s _ _ _) (fun t ht => ?_) (fun t t1 t2 t3 => by rw [tg_n _ _ t3, tg_n _ _ t2, tg_n _ _ t1])) (S_part_ok h.1 hp3 hj hs (by omega) (by omega))
    by_cases c : t = p0
    · subst c
      refine Or.inr ⟨r, b + a, e - a, ?_, upd_s, upd_s, upd_s⟩
      show (if t = t then _ else _) = _
      rw [if_pos rfl]
    · rw [upd_n c, upd_n c, upd_n c]
      show (((if t = p0 then _ else S.1 t) = none ∧ _) ∨ ∃ r' b' n', (if t = p0 then _ else S.1 t) = _ ∧ _)
      rw [if_neg c]
      exact h8 t ht
  · obtain ⟨⟨z1, z2⟩, z3, z4⟩ := z
    exact ⟨by rw [i32_lt]; rw [i32_le] at z4; omega, z2⟩
  · obtain ⟨⟨z1, z2⟩, z3, z4⟩ := z
    exact ⟨z3, by rw [i32_le] at z2 z4 ⊢; omega⟩
end MOM
theorem S_map_v (S : tS) (r b : Nat) (F : Nat → Int32 → Int32) : ∀ k r' i, (S_map S r b F k).2.1 r' i = if r' = r ∧ b ≤ i ∧ i < b + k then F (i - b) (S.2.1 r i) else S.2.1 r' i
  | 0, r', i => by rw [if_neg (by omega)]; rfl
  | k + 1, r', i => by
    show (if r' = r then upd ((S_map S r b F k).2.1 r) (b + k) (F k ((S_map S r b F k).2.1 r (b + k))) else (S_map S r b F k).2.1 r') i = _
    by_cases c : r' = r
    · subst c
      rw [if_pos rfl]
      by_cases d : i = b + k
      · subst d
        rw [upd_s, S_map_v S r' b F k, if_neg (by omega), if_pos (by omega), show b + k - b = k by omega]
      · rw [upd_n d, S_map_v S r' b F k]
        by_cases e : b ≤ i ∧ i < b + k
        · rw [if_pos ⟨rfl, e⟩, if_pos (by omega)]
        · rw [if_neg (fun z => e z.2), if_neg (by omega)]
    · rw [if_neg c, S_map_v S r b F k, if_neg (fun z => c z.1), if_neg (fun z => c z.1)]
section MON
variable {K : tK} {G : tG} {M : tM} {S : tS} {th : Int32} {post : Int32 → tG → Prop}
theorem m_dropPartsOf {pk : Int32 → tG → Prop} {row : Nat} {v : Int32} (hv : v = nI row) (hrow : row < 3) (hb : ∀ j r b n, j < 7 → S.1 j = some (r, b, n) → r < 3) (h : MoC G M S th) (hp : ∀ G', fr (moW M) G G' → MoC G' M (dpF S row 4).1 th → pk (dpF S row 4).2 G') : ∃ n : Nat, w_X3_lay_59 K pk n (some M.1.1) v 0 3 G := by
  subst hv
  have main : ∀ k i G1, i + k = 4 → fr (moW M) G G1 → MoC G1 M (dpF S row i).1 th → w_X3_lay_59 K pk (k + 1) (some M.1.1) (nI row) (dpF S row i).2 (nI (3 + i)) G1 := by
    intro k
    induction k with
    | zero =>
      intro i G1 hi hf h1
      show w_X3_lay_59_b K pk (w_X3_lay_59 K pk 0) (some M.1.1) (nI row) (dpF S row i).2 (nI (3 + i)) G1
      have e : i = 4 := by omega
      subst e
      exact ⟨fun _ => hp G1 hf h1, fun c => absurd (by decide) c⟩
    | succ k ih =>
      intro i G1 hi hf h1
      show w_X3_lay_59_b K pk (w_X3_lay_59 K pk (k + 1)) (some M.1.1) (nI row) (dpF S row i).2 (nI (3 + i)) G1
      obtain ⟨⟨sm, h2⟩, hrows, ⟨fo, fb, fl, ⟨h5, h6, h7⟩, h8⟩, h9, ⟨n1, n2, n3⟩, h11, h12⟩ := id h1
      refine ⟨fun c => absurd (show nI 7 ≤ nI (3 + i) from c) (nI_ge (by omega) (by omega)), fun _ => gfR_i _ h2 rfl (alI_i h5 rfl (j := 3 + i) (by omega) (by omega) ?_)⟩
      rcases h8 (3 + i) (by omega) with ⟨e1, e2⟩ | ⟨r, b, n, e1, e2, e3, e4⟩
      · rw [e2]
        have hne : ¬ (-1 : Int32) = nI row := fun z => absurd (show nI row < 0 by rw [← z]; decide) (nI_pos (by omega))
        refine ⟨fun _ => ?_, fun z => absurd z hne⟩
        show w_X3_lay_59 K pk (k + 1) (some M.1.1) (nI row) (dpF S row i).2 (nI (3 + i) + 1) G1
        rw [nI_1]
        have := ih (i + 1) G1 (by omega) hf (by rw [dp_none e1]; exact h1)
        rw [dp_none e1] at this
        exact this
      · rw [e2]
        have hr3 : r < 3 := by
          rcases ((dp_sub S row i).2 (3 + i)).1 with q | q
          · rw [q] at e1; exact hb (3 + i) r b n (by omega) e1
          · rw [q.1] at e1; cases e1
        refine ⟨fun c => ?_, fun c => ?_⟩
        · have hne : ¬ r = row := fun q => c (by rw [q])
          show w_X3_lay_59 K pk (k + 1) (some M.1.1) (nI row) (dpF S row i).2 (nI (3 + i) + 1) G1
          rw [nI_1]
          have := ih (i + 1) G1 (by omega) hf (by rw [dp_no e1 hne]; exact h1)
          rw [dp_no e1 hne] at this
          exact this
        · have heq : r = row := (nI_eq (by omega) (by omega)).mp c
          refine gfR_i _ h2 rfl (asI_i (j := 3 + i) h5 rfl (by omega) (by omega) ?_)
          show w_X3_lay_59 K pk (k + 1) (some M.1.1) (nI row) ((dpF S row i).2 + 1) (nI (3 + i) + 1) _
          rw [nI_1]
          have := ih (i + 1) (tg_up G1 M.1.2.2.1 (eI 7 (upd fo (3 + i) (-1)))) (by omega) (fr_tr hf (fr_up _ (Or.inr (Or.inr (Or.inl rfl))))) (by
            rw [dp_yes e1 heq]
            refine MoC_lst h1 (by omega) (tg_s _ _ _) (tg_keep h6 (fun e => n1 e.symm)) (tg_keep h7 (fun e => n2 e.symm)) (fun t ht => ?_) (fun t t1 _ _ => tg_n _ _ t1)
            by_cases c : t = 3 + i
            · subst c
              refine Or.inl ⟨?_, upd_s⟩
              show (if 3 + i = 3 + i then none else _) = none
              rw [if_pos rfl]
            · rw [upd_n c]
              show (((if t = 3 + i then none else (dpF S row i).1.1 t) = none ∧ _) ∨ ∃ r' b' n', (if t = 3 + i then none else (dpF S row i).1.1 t) = _ ∧ _)
              rw [if_neg c]
              exact h8 t ht)
          rw [dp_yes e1 heq] at this
          exact this
  exact ⟨5, main 4 0 G (by omega) (fr_rf _ _) h⟩
end MON
