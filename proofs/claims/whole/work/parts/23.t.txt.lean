/-! texts: the class's and the model's, one spec -/
theorem MoC_B {G : tG} {M : tM} {S : tS} {th : Int32} (h : MoC G M S th) {q : Nat} {x : vp_A} (hq : G q = some (.inl (.byte, x))) : ¬ moW M q := by
  obtain ⟨⟨sm, h2⟩, ⟨mf, h3, -⟩, ⟨fo, fb, fl, ⟨h5, h6, h7⟩, -⟩, h9, -⟩ := h
  rintro (e | e | e | e | e | e | e | e) <;> subst e
  · rw [h2] at hq; cases hq
  · rw [h3] at hq; cases hq
  · rw [h5] at hq; cases hq
  · rw [h6] at hq; cases hq
  · rw [h7] at hq; cases hq
  · obtain ⟨f, g, -⟩ := h9 0 (by omega); rw [g] at hq; cases hq
  · obtain ⟨f, g, -⟩ := h9 1 (by omega); rw [g] at hq; cases hq
  · obtain ⟨f, g, -⟩ := h9 2 (by omega); rw [g] at hq; cases hq
theorem STR_mo {K : tK} {G G' : tG} {M : tM} {S : tS} {th : Int32} (hm : MoR G M S th) (hf : fr (moW M) G G') (r : Option Nat) (n : Nat) (l : List Int32) (h : STR K G r n l) : STR K G' r n l := by
  refine ⟨h.1, ?_⟩
  rcases h.2 with ⟨a, w, f, x, y, h1, h2, h3, h4⟩ | h
  · exact Or.inl ⟨a, w, f, x, y, h1, hf _ _ h2 (MoC_obj (MoR_C hm) h2 (by decide)), hf _ _ h3 (MoC_B (MoR_C hm) h3), h4⟩
  · exact Or.inr h
theorem STR_up {K : tK} {G : tG} {r : Option Nat} {n u : Nat} {l : List Int32} {fs : List Value} (h : STR K G r n l) (hu : G u = some (.inr (4, fs))) (e : tE) : STR K (tg_up G u e) r n l := by
  refine ⟨h.1, ?_⟩
  rcases h.2 with ⟨a, w, f, x, y, h1, h2, h3, h4⟩ | h
  · refine Or.inl ⟨a, w, f, x, y, h1, tg_keep h2 (fun c => ?_), tg_keep h3 (fun c => ?_), h4⟩
    · rw [c, hu] at h2; cases h2
    · rw [c, hu] at h3; cases h3
  · exact Or.inr h
def sp_tx (q : Option (Nat × Nat × Nat)) (F : Nat → Nat → Nat → Nat × List Int32) : Nat × List Int32 := match q with
  | none => (1, [])
  | some (r, b, n) => F r b n
def q_text (K : tK) (S : tS) (v : Int32) : Nat × List Int32 := sp_tx (S_at S v) fun r b n => (0, ctF 0 (fun i => dgX K (nI (plF 0 0 i))) (fun i => shX K (S.2.1 r (b + plF 0 0 i))) n)
def q_back (K : tK) (S : tS) (v : Int32) : Nat × List Int32 := sp_tx (S_at S v) fun r b n => (0, ctF 0 (fun i => dgX K (nI (plF n 1 i))) (fun i => shX K (S.2.1 r (b + plF n 1 i))) n)
def q_walk (K : tK) (S : tS) (v p many back : Int32) : Nat × List Int32 := sp_tx (S_at S v) fun r b n => if inR p 0 (nI n) ∧ inR many 0 12 then (0, ctF 1 (fun i => dgX K (nI (plF p.toInt.toNat back i))) (fun i => shX K (S.2.1 r (b + plF p.toInt.toNat back i))) (min many.toInt.toNat (slF p.toInt.toNat n back))) else (2, [])
theorem q3_text (K : tK) (S : tS) (v : Int32) : (q_text K S v).1 < 3 := by
  unfold q_text
  rcases S_at S v with _ | ⟨r, b, n⟩
  · exact Nat.le_of_ble_eq_true rfl
  · exact Nat.le_of_ble_eq_true rfl
theorem q3_back (K : tK) (S : tS) (v : Int32) : (q_back K S v).1 < 3 := by
  unfold q_back
  rcases S_at S v with _ | ⟨r, b, n⟩
  · exact Nat.le_of_ble_eq_true rfl
  · exact Nat.le_of_ble_eq_true rfl
theorem q3_walk (K : tK) (S : tS) (v p many back : Int32) : (q_walk K S v p many back).1 < 3 := by
  unfold q_walk
  rcases S_at S v with _ | ⟨r, b, n⟩
  · exact Nat.le_of_ble_eq_true rfl
  · show (if inR p 0 (nI n) ∧ inR many 0 12 then (0, ctF 1 (fun i => dgX K (nI (plF p.toInt.toNat back i))) (fun i => shX K (S.2.1 r (b + plF p.toInt.toNat back i))) (min many.toInt.toNat (slF p.toInt.toNat n back))) else (2, [])).1 < 3
    split
    · exact Nat.le_of_ble_eq_true rfl
    · exact Nat.le_of_ble_eq_true rfl
section STT
variable {K : tK} {G : tG} {L : tL} {M : tM} {S S' : tS} {th : Int32} {u : Nat} {n : Int64} {s : Value} {post : Int32 → tG → Prop} {pr : Option Nat → tG → Prop}
def txC (K : tK) (G : tG) (s : Value) (q : Nat × List Int32) : Prop := q.1 = 0 → ∃ r n', s = va_rf r ∧ STR K G r n' q.2 ∧ n' ≤ 200
def txM (K : tK) (G : tG) (x : Option Nat) (q : Nat × List Int32) : Prop := q.1 = 0 → ∃ n', STR K G x n' q.2 ∧ n' ≤ 200
theorem Lc_text {v : Int32} {mc ms : Nat} (hK : KOK K) (h : Bo G L M S S' th u n s) (hmc : 70 ≤ mc) (hms : 600 ≤ ms) (hp : ∀ G' s', Bo G' L M S S' th u n s' → txC K G' s' (q_text K S v) → post (nI (q_text K S v).1) G') : w_L_text K mc ms post (some L.1) v (some u) G := by
  refine ⟨mc, ms, by omega, by omega, c_rcv h.1 (c_text hK h.1 hmc hms (fun c => ?_) (fun r b m c x G' n' f h' hs hn => ?_))⟩
  · unfold q_text at hp
    rw [c] at hp
    exact ⟨fun _ => hp _ s h (fun z => absurd (show (1 : Nat) = 0 from z) (by decide)), fun z => absurd rfl z⟩
  · unfold q_text at hp
    rw [c] at hp
    have hb := Bo_cls h f h'
    exact pfV_i hb.2.2.1 (Nat.le_of_ble_eq_true rfl) (hp _ _ (Bo_out hb n (va_rf x)) (fun _ => ⟨x, n', rfl, STR_up hs hb.2.2.1 _, hn⟩))
theorem Lc_back {v : Int32} {mc ms : Nat} (hK : KOK K) (h : Bo G L M S S' th u n s) (hmc : 70 ≤ mc) (hms : 600 ≤ ms) (hp : ∀ G' s', Bo G' L M S S' th u n s' → txC K G' s' (q_back K S v) → post (nI (q_back K S v).1) G') : w_L_back K mc ms post (some L.1) v (some u) G := by
  refine ⟨mc, ms, by omega, by omega, c_rcv h.1 (c_back hK h.1 hmc hms (fun c => ?_) (fun r b m c x G' n' f h' hs hn => ?_))⟩
  · unfold q_back at hp
    rw [c] at hp
    exact ⟨fun _ => hp _ s h (fun z => absurd (show (1 : Nat) = 0 from z) (by decide)), fun z => absurd rfl z⟩
  · unfold q_back at hp
    rw [c] at hp
    have hb := Bo_cls h f h'
    exact pfV_i hb.2.2.1 (Nat.le_of_ble_eq_true rfl) (hp _ _ (Bo_out hb n (va_rf x)) (fun _ => ⟨x, n', rfl, STR_up hs hb.2.2.1 _, hn⟩))
theorem Lc_walk {v p many back : Int32} {mc ms : Nat} (hK : KOK K) (h : Bo G L M S S' th u n s) (hmc : 70 ≤ mc) (hms : 600 ≤ ms) (hp : ∀ G' s', Bo G' L M S S' th u n s' → txC K G' s' (q_walk K S v p many back) → post (nI (q_walk K S v p many back).1) G') : w_L_walk K mc ms post (some L.1) v p many back (some u) G := by
  refine ⟨mc, ms, by omega, by omega, c_rcv h.1 (c_walk hK h.1 hmc hms (fun c => ?_) (fun r b m c q => ?_) (fun r b m c q1 q2 x G' n' f h' hs hn => ?_))⟩
  · unfold q_walk at hp
    rw [c] at hp
    exact ⟨fun _ => hp _ s h (fun z => absurd (show (1 : Nat) = 0 from z) (by decide)), fun z => absurd rfl z⟩
  · unfold q_walk at hp
    rw [c] at hp
    simp only [sp_tx, if_neg q] at hp
    exact ⟨fun z => absurd z (by decide), fun _ => ⟨fun _ => hp _ s h (fun z => absurd z (by decide)), fun z => absurd rfl z⟩⟩
  · unfold q_walk at hp
    rw [c] at hp
    simp only [sp_tx, if_pos (show inR p 0 (nI m) ∧ inR many 0 12 from ⟨q1, q2⟩)] at hp
    have hb := Bo_cls h f h'
    exact pfV_i hb.2.2.1 (Nat.le_of_ble_eq_true rfl) (hp _ _ (Bo_out hb n (va_rf x)) (fun _ => ⟨x, n', rfl, STR_up hs hb.2.2.1 _, hn⟩))
theorem Lm_text {v : Int32} {mc ms : Nat} (hK : KOK K) (h : Bo G L M S S' th u n s) (hmc : 160 ≤ mc) (hms : 3200 ≤ ms) (hp : ∀ x G', Bo G' L M S S' (nI (q_text K S' v).1) u n s → (∀ r n l, STR K G r n l → STR K G' r n l) → txM K G' x (q_text K S' v) → pr x G') : rcv G (some M.1.1) 5 (w_X3_text K mc ms pr (some M.1.1) v G) := by
  refine m_rcv h.2.1 (m_text hK h.2.1 hmc hms (fun c x G' f h' => ?_) (fun j r b m hj ev hs x G' n' f h' hst hn => ?_))
  · unfold q_text at hp
    rw [c] at hp
    exact hp x G' (Bo_mod h f (fun _ z => Or.inl z) h') (STR_mo h.2.1 f) (fun z => absurd (show (1 : Nat) = 0 from z) (by decide))
  · have c : S_at S' v = some (r, b, m) := by rw [ev, S_at_nI S' hj]; exact hs
    unfold q_text at hp
    rw [c] at hp
    refine hp x G' (Bo_mod h f (fun _ z => Or.inl z) h') (STR_mo h.2.1 f) (fun _ => ⟨n', STR_cg hst ?_, hn⟩)
    show lineF (fun i => shX K (S_v S' r b i)) 0 m = ctF 0 (fun i => dgX K (nI (plF 0 0 i))) (fun i => shX K (S'.2.1 r (b + plF 0 0 i))) m
    rw [ln_ct (d := fun i => dgX K (nI (plF 0 0 i))) (fun i => shX_pos K _)]
    congr 1
    funext i
    unfold plF
    rw [if_pos rfl, Nat.zero_add]
theorem Lm_back {v : Int32} {mc ms : Nat} (hK : KOK K) (h : Bo G L M S S' th u n s) (hmc : 160 ≤ mc) (hms : 3200 ≤ ms) (hp : ∀ x G', Bo G' L M S S' (nI (q_back K S' v).1) u n s → (∀ r n l, STR K G r n l → STR K G' r n l) → txM K G' x (q_back K S' v) → pr x G') : rcv G (some M.1.1) 5 (w_X3_back K mc ms pr (some M.1.1) v G) := by
  refine m_rcv h.2.1 (m_back hK h.2.1 hmc hms (fun c x G' f h' => ?_) (fun j r b m hj ev hs x G' n' f h' hst hn => ?_))
  · unfold q_back at hp
    rw [c] at hp
    exact hp x G' (Bo_mod h f (fun _ z => Or.inl z) h') (STR_mo h.2.1 f) (fun z => absurd (show (1 : Nat) = 0 from z) (by decide))
  · have c : S_at S' v = some (r, b, m) := by rw [ev, S_at_nI S' hj]; exact hs
    unfold q_back at hp
    rw [c] at hp
    refine hp x G' (Bo_mod h f (fun _ z => Or.inl z) h') (STR_mo h.2.1 f) (fun _ => ⟨n', STR_cg hst ?_, hn⟩)
    show lineF (fun i => shX K (S_v S' r b i)) 1 m = ctF 0 (fun i => dgX K (nI (plF m 1 i))) (fun i => shX K (S'.2.1 r (b + plF m 1 i))) m
    rw [lb_ct (d := fun i => dgX K (nI (plF m 1 i))) (fun i => shX_pos K _)]
    congr 1
theorem Lm_walk {v p many back : Int32} {mc ms : Nat} (hK : KOK K) (h : Bo G L M S S' th u n s) (hmc : 200 ≤ mc) (hms : 6100 ≤ ms) (hp : ∀ x G', Bo G' L M S S' (nI (q_walk K S' v p many back).1) u n s → (∀ r n l, STR K G r n l → STR K G' r n l) → txM K G' x (q_walk K S' v p many back) → pr x G') : rcv G (some M.1.1) 5 (w_X3_walk K mc ms pr (some M.1.1) v p many back G) := by
  refine m_rcv h.2.1 (m_walk hK h.2.1 hmc hms (fun c x G' f h' => ?_) (fun j r b m hj ev hs q x G' f h' => ?_) (fun j r b m hj ev hs q1 q2 x G' n' f h' hst hn => ?_))
  · unfold q_walk at hp
    rw [c] at hp
    exact hp x G' (Bo_mod h f (fun _ z => Or.inl z) h') (STR_mo h.2.1 f) (fun z => absurd (show (1 : Nat) = 0 from z) (by decide))
  · have c : S_at S' v = some (r, b, m) := by rw [ev, S_at_nI S' hj]; exact hs
    unfold q_walk at hp
    rw [c] at hp
    simp only [sp_tx, if_neg q] at hp
    exact hp x G' (Bo_mod h f (fun _ z => Or.inl z) h') (STR_mo h.2.1 f) (fun z => absurd z (by decide))
  · have c : S_at S' v = some (r, b, m) := by rw [ev, S_at_nI S' hj]; exact hs
    unfold q_walk at hp
    rw [c] at hp
    simp only [sp_tx, if_pos (show inR p 0 (nI m) ∧ inR many 0 12 from ⟨q1, q2⟩)] at hp
    exact hp x G' (Bo_mod h f (fun _ z => Or.inl z) h') (STR_mo h.2.1 f) (fun _ => ⟨n', STR_cg hst (wl_ct (fun i => shX_pos K _) _), hn⟩)
/-- Out's text against the model's -/
theorem tx_cmp {q : Nat × List Int32} {x : Option Nat} {G0 : tG} {post2 : Int32 → tG → Prop} (h : Bo G L M S S' th u n s) (h1 : txC K G0 s q) (hk : ∀ r n l, STR K G0 r n l → STR K G r n l) (h2 : txM K G x q) (hq : q.1 = 0) (hp : post2 1 G) : gfR G (some u) 4 1 (fun y => rcvS K G y 0 (w_J0_equals_9ea2d K post2 y x G)) := by
  obtain ⟨r, n1, es, s1, b1⟩ := h1 hq
  obtain ⟨n2, s2, b2⟩ := h2 hq
  subst es
  exact ⟨u, _, r, rfl, h.2.2.1, rfl, s_rcv (hk r n1 _ s1) (s_equals (hk r n1 _ s1) s2 b1 hp)⟩
end STT
