/-! the model: turning -/
theorem S_exch_v (S : tS) (r i j r' p : Nat) : (S_exch S r i j).2.1 r' p = if r' = r ∧ p = j then S.2.1 r i else if r' = r ∧ p = i then S.2.1 r j else S.2.1 r' p := by
  unfold S_exch
  rw [S_put_v, S_put_v]
theorem S_exch_ok {S : tS} (h : S_ok S) {r i j : Nat} (hr : r < 3) (hi : i < 12) (hj : j < 12) : S_ok (S_exch S r i j) :=
  S_put_ok (S_put_ok h r i (h.2.2 r j hr hj)) r j (h.2.2 r i hr hi)
theorem tuF_1 (r b : Nat) : ∀ k i e S, (tuF r b k i e S).1 = S.1 ∧ (tuF r b k i e S).2.2 = S.2.2
  | 0, _, _, _ => ⟨rfl, rfl⟩
  | k + 1, i, e, S => by
    show (if i + 1 < e then tuF r b k (i + 1) (e - 1) (S_exch S r (b + i) (b + (e - 1))) else S).1 = S.1 ∧ (if i + 1 < e then tuF r b k (i + 1) (e - 1) (S_exch S r (b + i) (b + (e - 1))) else S).2.2 = S.2.2
    split
    · have := tuF_1 r b k (i + 1) (e - 1) (S_exch S r (b + i) (b + (e - 1)))
      exact ⟨this.1, this.2⟩
    · exact ⟨rfl, rfl⟩
theorem tuF_ok {r b : Nat} (hr : r < 3) : ∀ k i e S, b + e ≤ 12 → S_ok S → S_ok (tuF r b k i e S)
  | 0, _, _, _, _, h => h
  | k + 1, i, e, S, he, h => by
    show S_ok (if i + 1 < e then tuF r b k (i + 1) (e - 1) (S_exch S r (b + i) (b + (e - 1))) else S)
    split
    · exact tuF_ok hr k (i + 1) (e - 1) _ (by omega) (S_exch_ok h hr (by omega) (by omega))
    · exact h
theorem S_cg {S : tS} {r p p' : Nat} (h : p = p') : S.2.1 r p = S.2.1 r p' := by rw [h]
theorem tuF_v (r b : Nat) : ∀ k i e S r' p, e ≤ i + 2 * k + 1 → (tuF r b k i e S).2.1 r' p = if r' = r ∧ b + i ≤ p ∧ p < b + e then S.2.1 r (b + i + (b + e - 1 - p)) else S.2.1 r' p
  | 0, i, e, S, r', p, h => by
    show S.2.1 r' p = _
    by_cases d : r' = r ∧ b + i ≤ p ∧ p < b + e
    · refine Eq.trans ?_ (if_pos d).symm
      obtain ⟨d1, d2, d3⟩ := d
      subst d1
      exact S_cg (by omega)
    · rw [if_neg d]
  | k + 1, i, e, S, r', p, h => by
    show (if i + 1 < e then tuF r b k (i + 1) (e - 1) (S_exch S r (b + i) (b + (e - 1))) else S).2.1 r' p = _
    by_cases c : i + 1 < e
    · rw [if_pos c, tuF_v r b k (i + 1) (e - 1) _ r' p (by omega)]
      by_cases d : r' = r ∧ b + i ≤ p ∧ p < b + e
      · refine Eq.trans ?_ (if_pos d).symm
        obtain ⟨d1, d2, d3⟩ := d
        subst d1
        by_cases p1 : p = b + i
        · rw [if_neg (by omega), S_exch_v, if_neg (by omega), if_pos ⟨rfl, p1⟩]
          exact S_cg (by omega)
        · by_cases p2 : p = b + (e - 1)
          · rw [if_neg (by omega), S_exch_v, if_pos ⟨rfl, p2⟩]
            exact S_cg (by omega)
          · rw [if_pos ⟨rfl, by omega, by omega⟩, S_exch_v, if_neg (by omega), if_neg (by omega)]
            exact S_cg (by omega)
      · refine Eq.trans ?_ (if_neg d).symm
        rw [if_neg (fun z => d ⟨z.1, by omega⟩), S_exch_v, if_neg (fun z => d ⟨z.1, by omega⟩), if_neg (fun z => d ⟨z.1, by omega⟩)]
    · rw [if_neg c]
      by_cases d : r' = r ∧ b + i ≤ p ∧ p < b + e
      · refine Eq.trans ?_ (if_pos d).symm
        obtain ⟨d1, d2, d3⟩ := d
        subst d1
        exact S_cg (by omega)
      · rw [if_neg d]
/-- values written to given places, one behind another -/
def pcF (S : tS) (r : Nat) (po : Nat → Nat) (f : Nat → Int32) : Nat → tS
  | 0 => S
  | k + 1 => S_put (pcF S r po f k) r (po k) (f k)
theorem pcF_1 (S : tS) (r : Nat) (po : Nat → Nat) (f : Nat → Int32) : ∀ k, (pcF S r po f k).1 = S.1 ∧ (pcF S r po f k).2.2 = S.2.2
  | 0 => ⟨rfl, rfl⟩
  | k + 1 => pcF_1 S r po f k
theorem pcF_miss (S : tS) (r : Nat) (po : Nat → Nat) (f : Nat → Int32) {r' i : Nat} : ∀ k, (r' ≠ r ∨ ∀ t, t < k → i ≠ po t) → (pcF S r po f k).2.1 r' i = S.2.1 r' i
  | 0, _ => rfl
  | k + 1, h => by
    show (S_put (pcF S r po f k) r (po k) (f k)).2.1 r' i = _
    rw [S_put_v, if_neg (fun z => h.elim (fun q => q z.1) (fun q => q k (by omega) z.2))]
    exact pcF_miss S r po f k (h.imp id (fun q t ht => q t (by omega)))
theorem pcF_hit (S : tS) (r : Nat) (po : Nat → Nat) (f : Nat → Int32) {n : Nat} (hi : ∀ t t', t < n → t' < n → po t = po t' → t = t') : ∀ k, k ≤ n → ∀ t, t < k → (pcF S r po f k).2.1 r (po t) = f t
  | 0, _, t, h => absurd h (by omega)
  | k + 1, hk, t, h => by
    show (S_put (pcF S r po f k) r (po k) (f k)).2.1 r (po t) = _
    rw [S_put_v]
    by_cases c : t = k
    · rw [c, if_pos ⟨rfl, rfl⟩]
    · rw [if_neg (fun z => c (hi t k (by omega) (by omega) z.2))]
      exact pcF_hit S r po f hi k (by omega) t (by omega)
def mdF (x y : Int32) : Int32 := ((x - x / y * y) + y) - ((x - x / y * y) + y) / y * y
set_option maxRecDepth 100000 in
theorem md_tab : ((List.range 210).all fun i => (List.range 12).all fun n => decide (mdF (nI i - nI 99) (nI (n + 1)) = nI ((i + 99 * n) % (n + 1)))) = true := by decide +kernel
set_option maxRecDepth 100000 in
theorem fm_tab2 : ((List.range 199).all fun i => (List.range 12).all fun n => decide (fmF (nI i - nI 99) (nI (n + 1)) = nI ((i + 99 * n) % (n + 1)))) = true := by decide +kernel
theorem md_at {x : Int32} {n : Nat} (hx : inR x (-99) 99) (h0 : 0 < n) (hn : n ≤ 12) : ∃ s, s < n ∧ fmF x (nI n) = nI s ∧ ∀ k, k < n → mdF (nI k + x) (nI n) = nI (if k + s < n then k + s else k + s - n) := by
  have e1 : (99 : Int32).toInt = 99 := rfl
  have e2 : (-99 : Int32).toInt = -99 := rfl
  have h1 := hx.1
  have h2 := hx.2
  rw [i32_lt] at h1
  rw [i32_le] at h2
  obtain ⟨i0, hi0, ex⟩ : ∃ i0, i0 < 199 ∧ x = nI i0 - nI 99 := by
    refine ⟨(x.toInt + 99).toNat, by omega, ?_⟩
    apply Int32.toInt_inj.mp
    rw [nI_sub (by omega) (by omega)]
    omega
  subst ex
  have t := List.all_eq_true.mp (List.all_eq_true.mp fm_tab2 i0 (List.mem_range.mpr (by omega))) (n - 1) (List.mem_range.mpr (by omega))
  have t := of_decide_eq_true t
  rw [show n - 1 + 1 = n by omega] at t
  refine ⟨_, Nat.mod_lt _ h0, t, fun k hk => ?_⟩
  have t2 := List.all_eq_true.mp (List.all_eq_true.mp md_tab (k + i0) (List.mem_range.mpr (by omega))) (n - 1) (List.mem_range.mpr (by omega))
  have t2 := of_decide_eq_true t2
  rw [show n - 1 + 1 = n by omega] at t2
  have e3 : nI k + (nI i0 - nI 99) = nI (k + i0) - nI 99 := by
    rw [Int32.sub_eq_add_neg, ← Int32.add_assoc, nI_add, ← Int32.sub_eq_add_neg]
  rw [e3, t2]
  congr 1
  have hs := Nat.mod_lt (i0 + 99 * (n - 1)) h0
  have e4 : (k + i0 + 99 * (n - 1)) % n = (k + (i0 + 99 * (n - 1)) % n) % n := by
    rw [show k + i0 + 99 * (n - 1) = k + (i0 + 99 * (n - 1)) by omega, Nat.add_mod, Nat.add_mod k ((i0 + 99 * (n - 1)) % n), Nat.mod_mod]
  rw [e4]
  by_cases c : k + (i0 + 99 * (n - 1)) % n < n
  · rw [if_pos c, Nat.mod_eq_of_lt c]
  · rw [if_neg c, Nat.mod_eq_sub_mod (by omega), Nat.mod_eq_of_lt (by omega)]
def poF (b n s k : Nat) : Nat := b + (if k + s < n then k + s else k + s - n)
theorem poF_inj {b n s : Nat} (hs : s < n) : ∀ t t', t < n → t' < n → poF b n s t = poF b n s t' → t = t' := by
  intro t t' ht ht' e
  unfold poF at e
  split at e <;> split at e <;> omega
section MOQ
variable {K : tK} {G : tG} {M : tM} {S : tS} {th : Int32} {post : Int32 → tG → Prop}
theorem m_reverse {v : Int32} (h : MoR G M S th) (hp : mRes M G post (sp_li S (S_at S v) fun r b n => (0, nI n, tuF r b n 0 n S))) : w_X3_reverse K post (some M.1.1) v G := by
  refine m_rcv h (m_isNoList h (fun c => ?_) (fun j r b n hj ev hs => ?_))
  · rw [c] at hp
    exact m_rcv h (m_fails h (fun G1 f1 h1 => ⟨fun z => absurd z (by decide), fun _ => mr (a := (1, 0, S)) hp f1 h1⟩))
  · subst ev
    rw [S_at_nI S hj, hs] at hp
    have hn12 := (S_12 h.1 hj hs).2
    have hr3 := (S_12 h.1 hj hs).1
    refine m_rcv h (m_fails h (fun G1 f1 h1 => ⟨fun _ => m_rcv h1 (m_all h1 hj hs (fun q f G2 q0 q1 q2 q3 h2 => ?_)), fun z => absurd (by decide) z⟩))
    have hqm := MoC_no (MoR_C h1) q0
    have main : ∀ k i G3, i + k = n → fr (moW M) G2 G3 → MoR G3 M (pcF S r (fun k => b + (n - 1 - k)) f i) 0 → w_X3_reverse_23 K post (k + 1) (some M.1.1) (nI j) (some q) (nI i) G3 := by
      intro k
      induction k with
      | zero =>
        intro i G3 hi f3 h3
        show w_X3_reverse_23_b K post (w_X3_reverse_23 K post 0) (some M.1.1) (nI j) (some q) (nI i) G3
        have e : i = n := by omega
        subst e
        have e3 := f3 _ _ q1 hqm
        refine lenA_i e3 ⟨fun _ => lenA_i e3 (mr hp (fr_tr (fr_al f1 q0 q3) f3) ?_), fun c => absurd (nI_le (by omega) (by omega)) c⟩
        refine MoR_eq h3 ⟨fun j' _ => ?_, fun r' p _ _ => ?_, (pcF_1 S r _ f i).2.trans (tuF_1 r b i 0 i S).2.symm⟩ (tuF_ok hr3 i 0 i S hn12 h.1)
        · rw [(pcF_1 S r _ f i).1]; show _ = (tuF r b i 0 i S).1 j'; rw [(tuF_1 r b i 0 i S).1]
        · show _ = (tuF r b i 0 i S).2.1 r' p
          rw [tuF_v r b i 0 i S r' p (by omega)]
          by_cases d : r' = r ∧ b + 0 ≤ p ∧ p < b + i
          · rw [if_pos d]
            obtain ⟨d1, d2, d3⟩ := d
            subst d1
            have hinj : ∀ t t', t < i → t' < i → (fun k => b + (i - 1 - k)) t = (fun k => b + (i - 1 - k)) t' → t = t' := fun t t' ht ht' e => by
              have e : b + (i - 1 - t) = b + (i - 1 - t') := e
              omega
            have hh := pcF_hit S r' (fun k => b + (i - 1 - k)) f hinj i (Nat.le_refl _) (b + i - 1 - p) (by omega)
            have ep : b + (i - 1 - (b + i - 1 - p)) = p := by omega
            have hh : (pcF S r' (fun k => b + (i - 1 - k)) f i).2.1 r' (b + (i - 1 - (b + i - 1 - p))) = f (b + i - 1 - p) := hh
            rw [ep] at hh
            rw [hh, q2 _ (by omega)]
            show S.2.1 r' (b + (b + i - 1 - p)) = _
            exact S_cg (by omega)
          · rw [if_neg d, pcF_miss]
            by_cases c : r' = r
            · exact Or.inr (fun t ht z => d ⟨c, by omega, by omega⟩)
            · exact Or.inl c
      | succ k ih =>
        intro i G3 hi f3 h3
        show w_X3_reverse_23_b K post (w_X3_reverse_23 K post (k + 1)) (some M.1.1) (nI j) (some q) (nI i) G3
        have e3 := f3 _ _ q1 hqm
        have hs3 : (pcF S r (fun k => b + (n - 1 - k)) f i).1 j = some (r, b, n) := by rw [(pcF_1 S r _ f i).1]; exact hs
        have eq : nI n - 1 = nI (n - 1) := by
          have q2 : n = n - 1 + 1 := by omega
          rw [q2, nI_pred]; congr 1
        refine lenA_i e3 ⟨fun c => absurd c (nI_ge (by omega) (by omega)), fun _ => lenA_i e3 (alI_i e3 rfl (by omega) (by omega) (m_rcv h3 ?_))⟩
        show w_X3_write K _ (some M.1.1) (nI j) (nI n - 1 - nI i) (f i) G3
        rw [eq, nI_subN (by omega)]
        refine m_write h3 hj hs3 (show n - 1 - i < n by omega) (by rw [q2 i (by omega)]; exact h.1.2.2 r _ hr3 (by omega)) (fun G4 f4 h4 => ?_)
        rw [nI_1]
        exact ih (i + 1) G4 (by omega) (fr_tr f3 f4) h4
    exact ⟨n + 1, main n 0 G2 (by omega) (fr_rf _ _) h2⟩
theorem roS_v {r b n s : Nat} (hs : s < n) (r' p : Nat) : (roS S r b n s).2.1 r' p = if r' = r ∧ b ≤ p ∧ p < b + n then (if p < b + s then S.2.1 r (p + (n - s)) else S.2.1 r (p - s)) else S.2.1 r' p := by
  unfold roS
  rw [tuF_v r b n s n _ r' p (by omega)]
  by_cases d : r' = r ∧ b ≤ p ∧ p < b + n
  · refine Eq.trans ?_ (if_pos d).symm
    obtain ⟨d1, d2, d3⟩ := d
    subst d1
    by_cases c : p < b + s
    · refine Eq.trans ?_ (if_pos c).symm
      rw [if_neg (by omega), tuF_v r' b s 0 s _ r' p (by omega), if_pos ⟨rfl, by omega, by omega⟩, tuF_v r' b n 0 n _ _ _ (by omega), if_pos ⟨rfl, by omega, by omega⟩]
      exact S_cg (by omega)
    · refine Eq.trans ?_ (if_neg c).symm
      rw [if_pos ⟨rfl, by omega, by omega⟩, tuF_v r' b s 0 s _ _ _ (by omega), if_neg (by omega), tuF_v r' b n 0 n _ _ _ (by omega), if_pos ⟨rfl, by omega, by omega⟩]
      exact S_cg (by omega)
  · refine Eq.trans ?_ (if_neg d).symm
    rw [if_neg (fun z => d ⟨z.1, by omega⟩), tuF_v r b s 0 s _ r' p (by omega), if_neg (fun z => d ⟨z.1, by omega⟩), tuF_v r b n 0 n _ r' p (by omega), if_neg (fun z => d ⟨z.1, by omega⟩)]
theorem roS_1 (r b n s : Nat) : (roS S r b n s).1 = S.1 ∧ (roS S r b n s).2.2 = S.2.2 := by
  unfold roS
  exact ⟨(tuF_1 r b n s n _).1.trans ((tuF_1 r b s 0 s _).1.trans (tuF_1 r b n 0 n S).1), (tuF_1 r b n s n _).2.trans ((tuF_1 r b s 0 s _).2.trans (tuF_1 r b n 0 n S).2)⟩
theorem roS_ok (h : S_ok S) {r b n s : Nat} (hr : r < 3) (hn : b + n ≤ 12) (hs : s ≤ n) : S_ok (roS S r b n s) :=
  tuF_ok hr n s n _ hn (tuF_ok hr s 0 s _ (by omega) (tuF_ok hr n 0 n S hn h))
theorem m_rotate {v x : Int32} (h : MoR G M S th) (hp : mRes M G post (sp_li S (S_at S v) fun r b n => if inR x (-99) 99 then (0, nI n, if n = 0 then S else roS S r b n (fmF x (nI n)).toInt.toNat) else (2, 0, S))) : w_X3_rotate K post (some M.1.1) v x G := by
  refine m_rcv h (m_isNoList h (fun c => ?_) (fun j r b n hj ev hs => ?_))
  · rw [c] at hp
    have hbad : ∀ u, w_X3_rotate_22 K post (some M.1.1) v x (some M.1.1) 1 u G := fun u => m_rcv h (m_fails h (fun G1 f1 h1 => ⟨fun z => absurd (show (1 : Int32) = 0 from z) (by decide), fun _ => mr (a := (1, 0, S)) hp f1 h1⟩))
    exact m_isIn (fun _ => ⟨fun _ => hbad 0, fun z => absurd z (by decide)⟩) (fun _ => ⟨fun z => absurd rfl z, fun _ => hbad 1⟩)
  · subst ev
    rw [S_at_nI S hj, hs] at hp
    have hn12 := (S_12 h.1 hj hs).2
    have hr3 := (S_12 h.1 hj hs).1
    refine m_isIn (fun hx => ⟨fun _ => ?_, fun z => absurd z (by decide)⟩) (fun hx => ⟨fun z => absurd rfl z, fun _ => ?_⟩)
    · simp only [sp_li, if_pos hx] at hp
      refine m_rcv h (m_fails h (fun G1 f1 h1 => ⟨fun _ => m_rcv h1 (m_all h1 hj hs (fun q f G2 q0 q1 q2 q3 h2 => ?_)), fun z => absurd (by decide) z⟩))
      have hqm := MoC_no (MoR_C h1) q0
      by_cases hn : n = 0
      · rw [if_pos hn] at hp
        subst hn
        refine ⟨1, ?_⟩
        show w_X3_rotate_39_b K post (w_X3_rotate_39 K post 0) (some M.1.1) (nI j) x (some q) 0 G2
        exact lenA_i q1 ⟨fun _ => lenA_i q1 (mr hp (fr_al f1 q0 q3) h2), fun c => absurd (show nI 0 ≤ 0 by decide) c⟩
      · rw [if_neg hn] at hp
        obtain ⟨s, hsn, es, emd⟩ := md_at hx (by omega) (show n ≤ 12 by omega)
        rw [es, nI_nat (by omega)] at hp
        have main : ∀ k i G3, i + k = n → fr (moW M) G2 G3 → MoR G3 M (pcF S r (poF b n s) f i) 0 → w_X3_rotate_39 K post (k + 1) (some M.1.1) (nI j) x (some q) (nI i) G3 := by
          intro k
          induction k with
          | zero =>
            intro i G3 hi f3 h3
            show w_X3_rotate_39_b K post (w_X3_rotate_39 K post 0) (some M.1.1) (nI j) x (some q) (nI i) G3
            have e : i = n := by omega
            subst e
            have e3 := f3 _ _ q1 hqm
            refine lenA_i e3 ⟨fun _ => lenA_i e3 (mr hp (fr_tr (fr_al f1 q0 q3) f3) ?_), fun c => absurd (nI_le (by omega) (by omega)) c⟩
            refine MoR_eq h3 ⟨fun j' _ => ?_, fun r' p _ _ => ?_, (pcF_1 S r _ f i).2.trans (roS_1 r b i s).2.symm⟩ (roS_ok h.1 hr3 hn12 (by omega))
            · rw [(pcF_1 S r _ f i).1]; show _ = (roS S r b i s).1 j'; rw [(roS_1 r b i s).1]
            · show _ = (roS S r b i s).2.1 r' p
              rw [roS_v hsn]
              by_cases d : r' = r ∧ b ≤ p ∧ p < b + i
              · rw [if_pos d]
                obtain ⟨d1, d2, d3⟩ := d
                subst d1
                have hh := fun t ht => pcF_hit S r' (poF b i s) f (n := i) (poF_inj hsn) i (Nat.le_refl _) t ht
                by_cases c : p < b + s
                · rw [if_pos c]
                  have hh := hh (p - b + (i - s)) (by omega)
                  have ep : poF b i s (p - b + (i - s)) = p := by unfold poF; rw [if_neg (by omega)]; omega
                  rw [ep] at hh
                  rw [hh, q2 _ (by omega)]
                  show S.2.1 r' (b + (p - b + (i - s))) = _
                  exact S_cg (by omega)
                · rw [if_neg c]
                  have hh := hh (p - b - s) (by omega)
                  have ep : poF b i s (p - b - s) = p := by unfold poF; rw [if_pos (by omega)]; omega
                  rw [ep] at hh
                  rw [hh, q2 _ (by omega)]
                  show S.2.1 r' (b + (p - b - s)) = _
                  exact S_cg (by omega)
              · rw [if_neg d, pcF_miss]
                by_cases c : r' = r
                · refine Or.inr (fun t ht z => d ⟨c, ?_⟩)
                  unfold poF at z
                  split at z <;> omega
                · exact Or.inl c
          | succ k ih =>
            intro i G3 hi f3 h3
            show w_X3_rotate_39_b K post (w_X3_rotate_39 K post (k + 1)) (some M.1.1) (nI j) x (some q) (nI i) G3
            have e3 := f3 _ _ q1 hqm
            have hs3 : (pcF S r (poF b n s) f i).1 j = some (r, b, n) := by rw [(pcF_1 S r _ f i).1]; exact hs
            refine lenA_i e3 ⟨fun c => absurd c (nI_ge (by omega) (by omega)), fun _ => lenA_i e3 ⟨nI_ne0 (by omega) (by omega), lenA_i e3 (lenA_i e3 ⟨nI_ne0 (by omega) (by omega), alI_i e3 rfl (by omega) (by omega) (m_rcv h3 ?_)⟩)⟩⟩
            show w_X3_write K _ (some M.1.1) (nI j) (mdF (nI i + x) (nI n)) (f i) G3
            rw [emd i (by omega)]
            refine m_write h3 hj hs3 (show (if i + s < n then i + s else i + s - n) < n by split <;> omega) (by rw [q2 i (by omega)]; exact h.1.2.2 r _ hr3 (by omega)) (fun G4 f4 h4 => ?_)
            rw [nI_1]
            exact ih (i + 1) G4 (by omega) (fr_tr f3 f4) h4
        exact ⟨n + 1, main n 0 G2 (by omega) (fr_rf _ _) h2⟩
    · simp only [sp_li, if_neg hx] at hp
      exact m_rcv h (m_fails h (fun G1 f1 h1 => ⟨fun z => absurd z (by decide), fun _ => mr hp f1 h1⟩))
end MOQ
