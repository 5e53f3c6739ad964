/-! texts: numbers, signs and texts behind a builder's content -/
theorem neg_at : ∀ i, i < 100 → (-100 : Int32) < -nI i ∧ -(-nI i) = nI i ∧ ((-9 : Int32) ≤ -nI i ↔ i ≤ 9) ∧ (-nI i ≤ (-10 : Int32) ↔ ¬ i ≤ 9) := by decide +kernel
theorem num_of {x : Int32} (hx : inR x (-99) 99) : ∃ j d : Nat, j < 100 ∧ ((d = 0 ∧ ¬ x < 0 ∧ x = nI j) ∨ (d = 1 ∧ x < 0 ∧ x = -nI j)) ∧ szF x = (if j ≤ 9 then 1 else 2) + d := by
  have h1 := hx.1
  have h2 := hx.2
  rw [i32_lt] at h1
  rw [i32_le] at h2
  have e1 : (99 : Int32).toInt = 99 := rfl
  have e2 : (-99 : Int32).toInt = -99 := rfl
  have e0 : (0 : Int32).toInt = 0 := rfl
  by_cases c : x < 0
  · have c' := c
    rw [i32_lt] at c'
    have ex : x = -nI (-x.toInt).toNat := by
      apply Int32.toInt_inj.mp
      have := nI_sub (a := 0) (b := (-x.toInt).toNat) (by omega) (by omega)
      rw [nI_0, Int32.zero_sub] at this
      omega
    refine ⟨(-x.toInt).toNat, 1, by omega, Or.inr ⟨rfl, c, ex⟩, ?_⟩
    have t := (neg_at (-x.toInt).toNat (by omega)).2.2.2
    rw [← ex] at t
    unfold szF
    rw [if_pos c, if_pos c]
    by_cases d : (-x.toInt).toNat ≤ 9
    · rw [if_pos d, if_neg (fun z => (t.mp z) d)]
    · rw [if_neg d, if_pos (t.mpr d)]
  · obtain ⟨j, hj, rfl⟩ := nI_of c
    rw [nI_toInt hj] at h2
    refine ⟨j, 0, by omega, Or.inl ⟨rfl, c, rfl⟩, ?_⟩
    have t := (neg_at j (by omega)).2.2.2
    unfold szF
    rw [if_neg c, if_neg c]
    by_cases d : j ≤ 9
    · rw [if_pos d, if_neg (fun z => (t.mp z) d)]
    · rw [if_neg d, if_pos (t.mpr d)]
theorem nI_dec {a : Nat} (h : 0 < a) : nI a + (-1 : Int32) = nI (a - 1) := by
  rw [nI_m1]
  have e : a = a - 1 + 1 := by omega
  rw [e, nI_pred]
  congr 1
/-- a text, in any state: its signs -/
def STR (K : tK) (G : tG) (r : Option Nat) (n : Nat) (l : List Int32) : Prop := l.length = n ∧ ((∃ (a w : Nat) (f : Nat → Int32) (x y : Value), r = some a ∧ G a = some (.inr (0, [.ref w, .int 0, x, y])) ∧ G w = some (eB n f) ∧ bOK f n ∧ isL f l) ∨ (∃ (a w : Nat) (f : Nat → Int32), r = some a ∧ K.1 a = some w ∧ K.2.1 w = some (n, f) ∧ bOK f n ∧ isL f l))
theorem STR_ext {K : tK} {G G' : tG} {r : Option Nat} {n : Nat} {l : List Int32} (h : STR K G r n l) (he : ext G G') : STR K G' r n l := by
  refine ⟨h.1, ?_⟩
  rcases h.2 with ⟨a, w, f, x, y, h1, h2, h3, h4⟩ | h
  · exact Or.inl ⟨a, w, f, x, y, h1, he _ _ h2, he _ _ h3, h4⟩
  · exact Or.inr h
theorem STR_fr {K : tK} {G G' : tG} {r : Option Nat} {n o : Nat} {l : List Int32} {fs : List Value} (h : STR K G r n l) (ho : G o = some (.inr (1, fs))) (he : fr (fun q => q = o) G G') : STR K G' r n l := by
  refine ⟨h.1, ?_⟩
  rcases h.2 with ⟨a, w, f, x, y, h1, h2, h3, h4⟩ | h
  · refine Or.inl ⟨a, w, f, x, y, h1, he _ _ h2 (fun c => ?_), he _ _ h3 (fun c => ?_), h4⟩
    · rw [c, ho] at h2; cases h2
    · rw [c, ho] at h3; cases h3
  · exact Or.inr h
def KS (K : tK) (t n : Nat) (l : List Int32) : Prop := l.length = n ∧ ∃ (w : Nat) (f : Nat → Int32), K.1 (K.2.2 t) = some w ∧ K.2.1 w = some (n, f) ∧ bOK f n ∧ isL f l
def KOK (K : tK) : Prop := KS K 5 1 [45] ∧ KS K 6 0 [] ∧ KS K 7 1 [32] ∧ KS K 8 1 [58] ∧ (∃ f, K.2.1 (K.2.2 20) = some (100, f)) ∧ (∃ f, K.2.1 (K.2.2 21) = some (100, f))
theorem STR_K {K : tK} {G : tG} {t n : Nat} {l : List Int32} (h : KS K t n l) : STR K G (some (K.2.2 t)) n l := by
  obtain ⟨h0, w, f, h1, h2, h3⟩ := h
  exact ⟨h0, Or.inr ⟨_, w, f, rfl, h1, h2, h3⟩⟩
/-- the signs of a number, out of the tables of digits -/
def tbK (K : tK) (t j : Nat) : Int32 := match K.2.1 (K.2.2 t) with
  | some q => q.2 j
  | none => 0
def dgN (K : tK) (j : Nat) : List Int32 := if j ≤ 9 then [vp_nar .byte (tbK K 21 j)] else [vp_nar .byte (tbK K 20 j), vp_nar .byte (tbK K 21 j)]
def dgX (K : tK) (x : Int32) : List Int32 := if x < 0 then vp_nar .byte 45 :: dgN K (-x).toInt.toNat else dgN K x.toInt.toNat
def shX (K : tK) (x : Int32) : List Int32 := if x = -1000 then [45] else dgX K x
theorem dgN_len (K : tK) (j : Nat) : (dgN K j).length = if j ≤ 9 then 1 else 2 := by
  unfold dgN
  split <;> rfl
theorem dgX_of {K : tK} {x : Int32} {j d : Nat} (hj : j < 100) (h : (d = 0 ∧ ¬ x < 0 ∧ x = nI j) ∨ (d = 1 ∧ x < 0 ∧ x = -nI j)) : dgX K x = if d = 0 then dgN K j else vp_nar .byte 45 :: dgN K j := by
  unfold dgX
  rcases h with ⟨d0, h1, h2⟩ | ⟨d1, h1, h2⟩
  · rw [if_neg h1, if_pos d0, h2, nI_nat (by omega)]
  · rw [if_pos h1, if_neg (by omega), h2, (neg_at j hj).2.1, nI_nat (by omega)]
theorem dgX_len {K : tK} {x : Int32} (hx : inR x (-99) 99) : (dgX K x).length = szF x := by
  obtain ⟨j, d, hj, hjd, hsz⟩ := num_of hx
  rw [dgX_of hj hjd, hsz]
  by_cases c : d = 0
  · rw [if_pos c, dgN_len, c, Nat.add_zero]
  · have d1 : d = 1 := by omega
    rw [if_neg c, List.length_cons, dgN_len, d1]
/-- signs written down to a place, from an end on -/
def isE (f' : Nat → Int32) (idx : Nat) (l : List Int32) (f : Nat → Int32) : Prop := l.length ≤ idx ∧ (∀ i, i < idx - l.length → f' i = f i) ∧ ∀ i, i < l.length → l[i]? = some (f' (idx - l.length + i))
theorem isE_nil (f : Nat → Int32) (idx : Nat) : isE f idx [] f := ⟨Nat.zero_le _, fun _ _ => rfl, fun i hi => absurd hi (Nat.not_lt_zero i)⟩
theorem isE_cons {f' f : Nat → Int32} {idx j : Nat} {l : List Int32} (h : isE f' idx l f) (hj : j + l.length + 1 = idx) (x : Int32) : isE (upd f' j x) idx (x :: l) f := by
  obtain ⟨h1, h2, h3⟩ := h
  have e : idx - (x :: l).length = j := by rw [List.length_cons]; omega
  refine ⟨by rw [List.length_cons]; omega, fun i hi => ?_, fun i hi => ?_⟩
  · rw [e] at hi
    rw [upd_n (by omega)]
    exact h2 i (by omega)
  · rw [e]
    cases i with
    | zero => rw [Nat.add_zero, upd_s]; rfl
    | succ k =>
      rw [List.length_cons] at hi
      have := h3 k (by omega)
      rw [upd_n (by omega), show j + (k + 1) = idx - l.length + k by omega]
      exact this
theorem isE_app {f' f : Nat → Int32} {idx : Nat} {l m : List Int32} (h : isE f' idx m f) (hl : isL f l) (e : l.length + m.length = idx) : isL f' (l ++ m) := by
  obtain ⟨h1, h2, h3⟩ := h
  refine isL_app (isL_cg hl (fun i hi => h2 i (by omega))) (fun i hi => ?_)
  have := h3 i hi
  rw [show idx - m.length = l.length by omega] at this
  exact this
section STB
variable {K : tK} {G0 G : tG} {L : List Int32}
theorem s_rcv {P : Prop} {r : Option Nat} {n : Nat} (h : STR K G r n L) (hp : P) : rcvS K G r 0 P := by
  rcases h.2 with ⟨a, w, f, x, y, h1, h2, h3, h4⟩ | ⟨a, w, f, h1, h2, h3, h4⟩
  · exact ⟨a, h1, Or.inl ⟨_, h2⟩, hp⟩
  · exact ⟨a, h1, Or.inr ⟨w, h2⟩, hp⟩
theorem s_val {P : Option Nat → Prop} {r : Option Nat} {n : Nat} (h : STR K G r n L) (hp : ∀ w f, (G w = some (eB n f) ∨ K.2.1 w = some (n, f)) → bOK f n → isL f L → P (some w)) : gsV K G r 0 P := by
  rcases h.2 with ⟨a, w, f, x, y, h1, h2, h3, h4, h5⟩ | ⟨a, w, f, h1, h2, h3, h4, h5⟩
  · subst h1
    exact Or.inl (gfR_i w h2 rfl (hp w f (Or.inl h3) h4 h5))
  · exact Or.inr ⟨a, w, h1, h2, hp w f (Or.inr h3) h4 h5⟩
theorem s_lenK {P : Int32 → Prop} {w n : Nat} {f : Nat → Int32} (h : G w = some (eB n f) ∨ K.2.1 w = some (n, f)) (hp : P (nI n)) : lenK K G (some w) P := by
  rcases h with h | h
  · exact Or.inl (lenA_i h hp)
  · exact Or.inr ⟨w, n, f, rfl, h, hp⟩
theorem s_coder {post : Int32 → tG → Prop} {r : Option Nat} {n : Nat} (h : STR K G r n L) (hp : post 0 G) : w_J0_coder_7d493 K post r G := by
  refine ⟨fun z => absurd z (by decide), fun _ => ?_⟩
  rcases h.2 with ⟨a, w, f, x, y, h1, h2, h3, h4⟩ | ⟨a, w, f, h1, h2, h3, h4⟩
  · subst h1
    exact Or.inl (gfI_i h2 rfl ⟨by decide, hp⟩)
  · exact Or.inr ⟨a, w, h1, h2, by decide, hp⟩
theorem s_length {post : Int32 → tG → Prop} {r : Option Nat} {n : Nat} (h : STR K G r n L) (hp : post (nI n) G) : w_J0_length_8abf5 K post r G := by
  refine s_val h (fun w f hw _ _ => s_lenK hw (s_rcv h (s_coder h ?_)))
  show post (nI n >>> ((0 : Int32) &&& 31)) G
  rw [shr0]; exact hp
theorem s_isEmpty {post : Int32 → tG → Prop} {r : Option Nat} {n : Nat} (h : STR K G r n L) (hn : n < 2 ^ 30) (hp : post (if n = 0 then 1 else 0) G) : w_J0_isEmpty_aae02 K post r G := by
  refine s_val h (fun w f hw _ _ => s_lenK hw ⟨fun c => ⟨by decide, ?_⟩, fun c => ⟨by decide, ?_⟩⟩)
  · have hc : ¬ n = 0 := fun e => c (by rw [e]; rfl)
    rw [if_neg hc] at hp; exact hp
  · have hc : n = 0 := Decidable.byContradiction fun e => nI_ne0 (by omega) (by omega) c
    rw [if_pos hc] at hp; exact hp
theorem a_latin {post : Int32 → tG → Prop} {o v k : Nat} {fl : Int32} (ho : G o = some (oSB v fl k)) (h : post 1 G) : w_J5_isLatin1_aae02 K post (some o) G :=
  ⟨fun z => absurd z (by decide), fun _ => gfI_i ho rfl ⟨fun z => absurd rfl z, fun _ => ⟨by decide, h⟩⟩⟩
theorem asB_i {v c j : Nat} {f : Nat → Int32} {i x : Int32} {P : tG → Prop} (hv : G v = some (eB c f)) (hi : i = nI j) (hj : j < c) (hc : c < 2 ^ 31) (h : P (tg_up G v (eB c (upd f j x)))) : asI G (some v) i .byte x P := asI_i hv hi hj hc h
theorem a_getChars {post : Int32 → tG → Prop} {x : Int32} {v c idx : Nat} {f : Nat → Int32} (hK : KOK K) (hx : inR x (-99) 99) (hv : G v = some (eB c f)) (hf : bOK f c) (hi : szF x ≤ idx) (hic : idx ≤ c) (hc : c < 10000) (hp : ∀ y G' f', G' v = some (eB c f') → bOK f' c → isE f' idx (dgX K x) f → (∀ a, a ≠ v → G' a = G a) → post y G') : w_J6_getChars_ba4f3 K post x (nI idx) (some v) G := by
  obtain ⟨-, -, -, -, ⟨ft, kt⟩, ⟨fo, ko⟩⟩ := hK
  obtain ⟨j, d, hj, hjd, hsz⟩ := num_of hx
  have hdg := dgX_of (K := K) hj hjd
  have eO : tbK K 21 j = fo j := by unfold tbK; rw [ko]
  have eT : tbK K 20 j = ft j := by unfold tbK; rw [kt]
  rw [hsz] at hi
  have t := neg_at j hj
  have key : ∀ (z : Int32) (G1 : tG) (f1 : Nat → Int32) (i1 : Nat), G1 v = some (eB c f1) → bOK f1 c → isE f1 idx (dgN K j) f → i1 + (dgN K j).length = idx → (∀ a, a ≠ v → G1 a = G a) → i1 ≤ c → ((z = 0 ∧ d = 0) ∨ (z = 1 ∧ d = 1 ∧ 1 ≤ i1)) → w_J6_getChars_ba4f3_104 K post (some v) (nI i1) z G1 := by
    intro z G1 f1 i1 g1 g2 gE gI g3 g4 g5
    refine ⟨fun hz => hp _ G1 f1 g1 g2 ?_ g3, fun hz => ?_⟩
    · have d0 : d = 0 := g5.elim (fun q => q.2) (fun q => absurd (q.1.symm.trans hz) (by decide))
      rw [hdg, if_pos d0]; exact gE
    have h1 : d = 1 ∧ 1 ≤ i1 := by
      rcases g5 with q | q
      · exact absurd q.1 hz
      · exact q.2
    have hi1 := h1.2
    rw [nI_dec (by omega)]
    refine asB_i g1 rfl (by omega) (by omega) (hp _ _ _ (tg_s _ _ _) (bOK_upd g2 _ (fit_nar _)) ?_ (fun a ha => by rw [tg_n _ _ ha]; exact g3 a ha))
    rw [hdg, if_neg (by omega)]
    exact isE_cons gE (by omega) _
  have main : ∀ z : Int32, ((z = 0 ∧ d = 0) ∨ (z = 1 ∧ d = 1)) → ∃ n : Nat, w_J6_getChars_ba4f3_22 K post n (-nI j) (some v) (nI idx) z G := by
    intro z hz
    refine ⟨1, ?_⟩
    show w_J6_getChars_ba4f3_22_b K post (w_J6_getChars_ba4f3_22 K post 0) (-nI j) (some v) (nI idx) z G
    refine ⟨fun _ => ⟨_, 100, fo, j, rfl, ko, by rw [t.2.1]; exact nI_toInt (by omega), hj, ?_⟩, fun q => absurd t.1 q⟩
    have hidx : 0 < idx := by
      split at hi <;> omega
    rw [nI_dec hidx]
    refine asB_i hv rfl (by omega) (by omega) ⟨fun q => ?_, fun q => ⟨_, 100, ft, j, rfl, kt, by rw [t.2.1]; exact nI_toInt (by omega), hj, ?_⟩⟩
    · have q9 := t.2.2.1.mp q
      rw [if_pos q9] at hi
      have eD : dgN K j = [vp_nar .byte (fo j)] := by unfold dgN; rw [if_pos q9, eO]
      refine key z _ _ _ (tg_s _ _ _) (bOK_upd hf _ (fit_nar _)) ?_ (by rw [eD]; show idx - 1 + 1 = idx; omega) (fun a ha => tg_n _ _ ha) (by omega) (hz.elim (fun h => Or.inl h) (fun h => Or.inr ⟨h.1, h.2, by omega⟩))
      rw [eD]
      exact isE_cons (isE_nil f idx) (by show idx - 1 + 0 + 1 = idx; omega) _
    · have q9 : ¬ j ≤ 9 := fun z => q (t.2.2.1.mpr z)
      rw [if_neg q9] at hi
      have eD : dgN K j = [vp_nar .byte (ft j), vp_nar .byte (fo j)] := by unfold dgN; rw [if_neg q9, eO, eT]
      rw [nI_dec (by omega)]
      refine asB_i (tg_s _ _ _) rfl (by omega) (by omega) ?_
      refine key z _ _ _ (tg_s _ _ _) (bOK_upd (bOK_upd hf _ (fit_nar _)) _ (fit_nar _)) ?_ (by rw [eD]; show idx - 1 - 1 + 2 = idx; omega) (fun a ha => by rw [tg_n _ _ ha, tg_n _ _ ha]) (by omega) (hz.elim (fun h => Or.inl h) (fun h => Or.inr ⟨h.1, h.2, by omega⟩))
      rw [eD]
      exact isE_cons (isE_cons (isE_nil f idx) (by show idx - 1 + 0 + 1 = idx; omega) _) (by show idx - 1 - 1 + 1 + 1 = idx; omega) _
  have e0 : (0 : Int32).toInt = 0 := rfl
  rcases hjd with ⟨d0, hx0, ex⟩ | ⟨d1, hx0, ex⟩
  · refine ⟨fun _ => ⟨fun z => absurd rfl z, fun _ => ?_⟩, fun q => absurd ?_ q⟩
    · rw [ex]; exact main 0 (Or.inl ⟨rfl, d0⟩)
    · rw [i32_le]; rw [i32_lt] at hx0; omega
  · refine ⟨fun q => absurd hx0 ?_, fun _ => ⟨fun _ => ?_, fun z => absurd z (by decide)⟩⟩
    · rw [i32_lt]; rw [i32_le] at q; omega
    · rw [ex]; exact main 1 (Or.inr ⟨rfl, d1⟩)
/-- StringBuilder.append(int) -/
theorem a_appI {post : Option Nat → tG → Prop} {o v c k mc ms : Nat} {x : Int32} (hK : KOK K) (hx : inR x (-99) 99) (h0 : ext G0 G) (h : SB G0 G o v c k L) (hc : c < 5000) (hk : k < 1000) (hmc : 1 ≤ mc) (hms : groF c (k + szF x) ≤ ms) (hp : ∀ G' v', ext G0 G' → SB G0 G' o v' (capF c (k + szF x)) (k + szF x) (L ++ dgX K x) → post (some o) G') : w_J4_append_bf812 K mc ms post (some o) x G := by
  obtain ⟨⟨n1, n2⟩, ⟨fl, ho⟩, ⟨f, hv, hf, hL⟩, hkc, hkL⟩ := id h
  have hz := szF_in x
  refine ⟨mc, ms, by omega, by omega, rcv_i ho (gfI_i ho rfl (a_size hx ⟨mc, ms, by omega, by omega, rcv_i ho ?_⟩))⟩
  rw [nI_add]
  refine a_ensure h0 h (by omega) (by omega) hmc hms (fun G1 v1 x1 f1 h1 => ?_)
  obtain ⟨⟨m1, m2⟩, ⟨fl1, ho1⟩, ⟨g, hv1, hg, hgL⟩, hkc1, hkL1⟩ := h1
  have cf := cap_facts c (k + szF x)
  have hcb : capF c (k + szF x) < 10000 := Nat.lt_of_le_of_lt (cf.2.2.2 (max c (2 * (k + szF x))) (by omega) (by omega)) (by omega)
  refine rcv_i ho1 (a_latin ho1 ⟨fun z => absurd z (by decide), fun _ => gfR_i v1 ho1 rfl ?_⟩)
  refine a_getChars hK hx hv1 hg (by omega) cf.1 hcb (fun y G2 g2 e1 e2 eE e3 => ?_)
  have hov : o ≠ v1 := ne_OI ho1 hv1
  have ho2 : G2 o = some (oSB v1 fl1 k) := by rw [e3 o hov]; exact ho1
  refine pfV_i ho2 (Nat.le_of_ble_eq_true rfl) (hp _ v1 ?_ ?_)
  · refine ext_up (fun a e ha => ?_) _ m1
    rw [e3 a (fun z => by rw [z, m2] at ha; cases ha)]; exact x1 a e ha
  · exact ⟨⟨m1, m2⟩, ⟨fl1, tg_s _ _ _⟩, ⟨g2, tg_keep e1 (fun z => hov z.symm), e2, isE_app eE hgL (by rw [hkL, dgX_len hx])⟩, cf.1, by rw [List.length_append, dgX_len hx, hkL]⟩
/-- StringBuilder.append(char), of a sign below 256 -/
theorem a_appC {post : Option Nat → tG → Prop} {o v c k mc ms : Nat} {x y : Int32} (hx : ¬ (255 : Int32) < x) (hy : vp_nar .byte x.toInt8.toInt32 = y) (h0 : ext G0 G) (h : SB G0 G o v c k L) (hc : c < 5000) (hk : k < 1000) (hmc : 1 ≤ mc) (hms : groF c (k + 1) ≤ ms) (hp : ∀ G' v', ext G0 G' → SB G0 G' o v' (capF c (k + 1)) (k + 1) (L ++ [y]) → post (some o) G') : w_J4_append_cf468 K mc ms post (some o) x G := by
  obtain ⟨⟨n1, n2⟩, ⟨fl, ho⟩, ⟨f, hv, hf, hL⟩, hkc, hkL⟩ := id h
  refine ⟨mc, ms, by omega, by omega, rcv_i ho (gfI_i ho rfl ⟨mc, ms, by omega, by omega, rcv_i ho ?_⟩)⟩
  rw [nI_1]
  refine a_ensure h0 h (by omega) (by omega) hmc hms (fun G1 v1 x1 f1 h1 => ?_)
  obtain ⟨⟨m1, m2⟩, ⟨fl1, ho1⟩, ⟨g, hv1, hg, hgL⟩, hkc1, hkL1⟩ := h1
  have cf := cap_facts c (k + 1)
  have hcb : capF c (k + 1) < 10000 := Nat.lt_of_le_of_lt (cf.2.2.2 (max c (2 * (k + 1))) (by omega) (by omega)) (by omega)
  refine rcv_i ho1 (a_latin ho1 ⟨fun z => absurd z (by decide), fun _ => ⟨fun z => absurd z hx, fun _ => ⟨by decide, fun z => absurd z (by decide), fun _ => gfR_i v1 ho1 rfl (gfI_i ho1 rfl (pfV_i ho1 (Nat.le_of_ble_eq_true rfl) ?_))⟩⟩⟩)
  have hov : o ≠ v1 := ne_OI ho1 hv1
  refine asB_i (tg_keep hv1 (fun z => hov z.symm)) rfl (show k < capF c (k + 1) by omega) (by omega) (hp _ v1 ?_ ?_)
  · exact ext_up (ext_up x1 _ m1) _ m2
  · refine ⟨⟨m1, m2⟩, ⟨fl1, ?_⟩, ⟨_, tg_s _ _ _, bOK_upd hg _ (fit_nar _), ?_⟩, cf.1, by rw [List.length_append, hkL]; rfl⟩
    · refine tg_keep ?_ hov
      show tg_up G1 o (.inr (1, [.ref v1, .int 0, .int fl1, .int (nI k + 1)])) o = _
      rw [tg_s, nI_1]
    · have q := isL_upd hgL y
      rw [hkL1] at q
      rw [hy]
      exact q
/-- StringBuilder.append(String) -/
theorem a_appS {post : Option Nat → tG → Prop} {o v c k n mc ms : Nat} {r : Option Nat} {M : List Int32} (hr : STR K G r n M) (hn : n < 1000) (h0 : ext G0 G) (h : SB G0 G o v c k L) (hc : c < 5000) (hk : k < 1000) (hmc : 1 ≤ mc) (hms : groF c (k + n) ≤ ms) (hp : ∀ G' v', ext G0 G' → SB G0 G' o v' (capF c (k + n)) (k + n) (L ++ M) → post (some o) G') : w_J4_append_15ec4 K mc ms post (some o) r G := by
  obtain ⟨⟨n1, n2⟩, ⟨fl, ho⟩, ⟨f, hv, hf, hL⟩, hkc, hkL⟩ := id h
  refine ⟨mc, ms, by omega, by omega, rcv_i ho ⟨fun _ => s_rcv hr (s_length hr (gfI_i ho rfl ⟨mc, ms, by omega, by omega, rcv_i ho ?_⟩)), fun z => ?_⟩⟩
  · rw [nI_add]
    refine a_ensure h0 h (by omega) (by omega) hmc hms (fun G1 v1 x1 f1 h1 => ?_)
    have hr1 := STR_fr hr ho f1
    obtain ⟨⟨m1, m2⟩, ⟨fl1, ho1⟩, ⟨g, hv1, hg, hgL⟩, hkc1, hkL1⟩ := h1
    have cf := cap_facts c (k + n)
    have hcb : capF c (k + n) < 10000 := Nat.lt_of_le_of_lt (cf.2.2.2 (max c (2 * (k + n))) (by omega) (by omega)) (by omega)
    have hov : o ≠ v1 := ne_OI ho1 hv1
    refine gfI_i ho1 rfl (rcv_i ho1 (rcv_i ho1 ⟨fun z => absurd z (by decide), fun _ => gfI_i ho1 rfl (s_rcv hr1 (s_coder hr1 ⟨fun _ => ?_, fun z => absurd rfl z⟩))⟩))
    refine gfR_i v1 ho1 rfl (gfI_i ho1 rfl (s_rcv hr1 (s_rcv hr1 (s_coder hr1 ⟨fun z => absurd rfl z, fun _ => s_val hr1 (fun w fw hw hfw hMw => s_val hr1 (fun w2 fw2 hw2 hfw2 _ => s_lenK hw2 ?_))⟩))))
    refine cpB_i (sp' := 0) (dp' := k) (n' := n) rfl hw rfl hv1 rfl (shl0 _) rfl (by omega) (by omega) (by omega) (by omega) (fun i hi => by rw [Nat.zero_add]; exact hfw i hi) ?_
    refine gfI_i (tg_keep ho1 hov) rfl (pfV_i (tg_keep ho1 hov) (Nat.le_of_ble_eq_true rfl) (hp _ v1 ?_ ?_))
    · exact ext_up (ext_up x1 _ m2) _ m1
    · refine ⟨⟨m1, m2⟩, ⟨fl1, ?_⟩, ⟨_, tg_keep (tg_s _ _ _) (fun z => hov z.symm), bOK_cpy (fun i hi => by rw [Nat.zero_add]; exact hfw i hi) hg, isL_cpy hMw hgL hkL1 hr.1⟩, cf.1, by rw [List.length_append, hkL, hr.1]⟩
      show tg_up _ o (.inr (1, [.ref v1, .int 0, .int fl1, .int (nI k + nI n)])) o = _
      rw [tg_s, nI_add]
  · rcases hr.2 with ⟨a, w, f', x, y, q, -⟩ | ⟨a, w, f', q, -⟩
    · rw [q] at z; cases z
    · rw [q] at z; cases z
/-- StringBuilder.toString() -/
theorem a_toString {post : Option Nat → tG → Prop} {o v c k mc ms : Nat} (h : SB G0 G o v c k L) (hc : c < 10000) (hmc : 2 ≤ mc) (hms : 4 + k ≤ ms) (hp : ∀ s G', ext G G' → STR K G' (some s) k L → post (some s) G') : w_J4_toString_0e30d K mc ms post (some o) G := by
  obtain ⟨⟨n1, n2⟩, ⟨fl, ho⟩, ⟨f, hv, hf, hL⟩, hkc, hkL⟩ := id h
  refine ⟨⟨by omega, by omega⟩, fun s hs => ⟨1, k, by omega, by omega, ⟨s, rfl⟩, 1, k, by omega, by omega, ⟨s, rfl⟩, ⟨s, rfl⟩, ?_⟩⟩
  have hos : o ≠ s := fun z => by rw [z, hs] at ho; cases ho
  have hvs : v ≠ s := fun z => by rw [z, hs] at hv; cases hv
  have ho1 : tg_up G s (.inr (0, [.null, .int 0, .int 0, .int 0])) o = some (oSB v fl k) := tg_keep ho hos
  refine rcv_i ho1 (gfR_i v ho1 rfl (rcv_i ho1 (rcv_i ho1 (gfI_i ho1 rfl (rcv_i ho1 (a_latin ho1 ⟨fun z => absurd z (by decide), fun _ => pfV_i (tg_s _ _ _) (Nat.le_of_ble_eq_true rfl) ⟨1, k, by omega, by omega, ?_⟩⟩))))))
  have hv2 : ∀ e1 e2 : tE, tg_up (tg_up G s e1) s e2 v = some (eB c f) := fun e1 e2 => tg_keep (tg_keep hv hvs) hvs
  -- what is done with the copy
  have fin : ∀ (q : Nat) (G2 : tG) (g : Nat → Int32), (tg_up (tg_up G s (.inr (0, [.null, .int 0, .int 0, .int 0]))) s (.inr (0, [.null, .int 0, .int 0, .int 0]))) q = none → G2 q = some (eB k g) → bOK g k → isL g L → (∀ a, a ≠ q → G2 a = (tg_up (tg_up G s (.inr (0, [.null, .int 0, .int 0, .int 0]))) s (.inr (0, [.null, .int 0, .int 0, .int 0]))) a) → pfV G2 (some s) 0 0 (va_rf (some q)) (fun G_35 => w_J0_init_db425_97 K 1 k (fun G_5 => post (some s) G_5) (0 + 1) (0 + k) G_35) := by
    intro q G2 g q0 q1 q2 q4 q3
    have hsq : s ≠ q := fun z => by rw [← z, tg_s] at q0; cases q0
    have hs2 : G2 s = some (.inr (0, [.null, .int 0, .int 0, .int 0])) := by rw [q3 s hsq, tg_s]
    refine pfV_i hs2 (Nat.le_of_ble_eq_true rfl) (hp s _ (fun a e ha => ?_) ⟨hkL, Or.inl ⟨s, q, g, .int 0, .int 0, rfl, tg_s _ _ _, tg_keep q1 (fun z => hsq z.symm), q2, q4⟩⟩)
    have has : a ≠ s := fun z => by rw [z, hs] at ha; cases ha
    have haq : a ≠ q := fun z => by
      rw [← z, tg_n _ _ has, tg_n _ _ has] at q0
      rw [q0] at ha; cases ha
    rw [tg_n _ _ has, q3 a haq, tg_n _ _ has, tg_n _ _ has]; exact ha
  refine ⟨fun z => absurd rfl z, fun _ => lenA_i (hv2 _ _) ⟨fun z => ?_, fun z => ?_⟩⟩
  · have z : nI k = nI c := z
    have ek := (nI_eq (by omega) (by omega)).mp z
    subst ek
    refine ⟨k, ⟨by omega, by omega⟩, v, k, f, rfl, hv2 _ _, Nat.le_refl _, hf, fun q hq => ⟨q, _, rfl, tg_s _ _ _, ?_⟩⟩
    exact fin q _ f hq (tg_s _ _ _) hf hL (fun a ha => tg_n _ _ ha)
  · refine ⟨1, k, by omega, by omega, ⟨fun _ => ⟨k, by omega, ⟨by omega, by omega⟩, k, ?_, Nat.le_refl _, fun q hq => ?_⟩, fun z => absurd (nI_le (a := 0) (b := k) (by omega) (by omega)) z⟩⟩
    · show (nI k - nI 0).toInt = _
      rw [nI_subN (by omega)]; exact nI_toInt (by omega)
    · have hvq : v ≠ q := fun z => by rw [← z] at hq; rw [hv2] at hq; cases hq
      have hv3 : tg_up (tg_up (tg_up G s (.inr (0, [.null, .int 0, .int 0, .int 0]))) s (.inr (0, [.null, .int 0, .int 0, .int 0]))) q (eB k fun _ => 0) v = some (eB c f) := tg_keep (hv2 _ _) hvq
      refine lenA_i hv3 (cpB_i (sp' := 0) (dp' := 0) (n' := k) rfl (Or.inl hv3) rfl (tg_s _ _ _) rfl rfl ?_ (by omega) (by omega) (by omega) (by omega) (fun i hi => by rw [Nat.zero_add]; exact hf i (by omega)) ?_)
      · show (if nI k - nI 0 < nI c - nI 0 then nI k - nI 0 else nI c - nI 0) = nI k
        rw [nI_subN (by omega), nI_subN (by omega)]
        by_cases q9 : k < c
        · rw [if_pos (nI_lt (by omega) (by omega))]; rfl
        · rw [if_neg (nI_nlt (by omega) (by omega))]; congr 1; omega
      · exact fin q _ _ hq (tg_s _ _ _) (bOK_cpy (fun i hi => by rw [Nat.zero_add]; exact hf i (by omega)) (bOK_0 k)) (isL_cg hL (fun i hi => by unfold va_cpy; rw [if_pos (by omega), show 0 + (i - 0) = i by omega])) (fun a ha => by rw [tg_n _ _ ha, tg_n _ _ ha]; rfl)
/-- a new builder -/
theorem a_init {pv : tG → Prop} {o mc ms : Nat} (hG0 : G0 o = none) (he : ∀ a, a ≠ o → G a = G0 a) (ho : G o = some (.inr (1, [.null, .int 0, .int 0, .int 0]))) (hmc : 1 ≤ mc) (hms : 16 ≤ ms) (hp : ∀ G' v', ext G0 G' → SB G0 G' o v' 16 0 [] → pv G') : w_J4_init_da8c8 K mc ms pv (some o) G := by
  refine ⟨1, 16, by omega, by omega, ⟨o, rfl⟩, ⟨o, rfl⟩, fun z => absurd z (by decide), fun _ => ⟨16, by omega, ⟨by omega, by omega⟩, 16, rfl, Nat.le_refl _, fun v hv => ?_⟩⟩
  have hov : o ≠ v := fun z => by rw [z, hv] at ho; cases ho
  have hv0 : G0 v = none := by rw [← he v (fun z => hov z.symm)]; exact hv
  refine pfV_i (tg_keep ho hov) (Nat.le_of_ble_eq_true rfl) (pfV_i (tg_s _ _ _) (Nat.le_of_ble_eq_true rfl) (hp _ v ?_ ?_))
  · refine ext_up (ext_up (ext_up (fun a e ha => ?_) _ hv0) _ hG0) _ hG0
    rw [he a (fun z => by rw [z, hG0] at ha; cases ha)]; exact ha
  · exact ⟨⟨hG0, hv0⟩, ⟨0, tg_s _ _ _⟩, ⟨_, tg_keep (tg_keep (tg_s _ _ _) (fun z => hov z.symm)) (fun z => hov z.symm), bOK_0 16, isL_nil _⟩, by omega, rfl⟩
end STB
