section GRP23x0
/-! texts: what is made on the way, by bounds -/
def ext (G0 G : tG) : Prop := ∀ (q : Nat) (e : tE), G0 q = some e → G q = some e
theorem ext_rf (G : tG) : ext G G := fun _ _ h => h
theorem ext_tr {G1 G2 G3 : tG} (h : ext G1 G2) (h2 : ext G2 G3) : ext G1 G3 := fun q e hq => h2 q e (h q e hq)
theorem ext_up {G0 G : tG} (h : ext G0 G) {a : Nat} (e : tE) (ha : G0 a = none) : ext G0 (tg_up G a e) := fun q e' hq => by
  rw [tg_n _ _ (fun c => by rw [c, ha] at hq; cases hq)]; exact h q e' hq
theorem ext_none {G0 G : tG} (h : ext G0 G) {a : Nat} (ha : G a = none) : G0 a = none := by
  cases e : G0 a with
  | none => rfl
  | some x => rw [h a x e] at ha; cases ha
theorem ext_fr {G0 G : tG} (h : ext G0 G) (P : Nat → Prop) : fr P G0 G := fun q e hq _ => h q e hq
theorem fr_ext {G0 G G' : tG} {P : Nat → Prop} (h : ext G0 G) (hf : fr P G G') (hp : ∀ q, P q → G0 q = none) : ext G0 G' := fun q e hq =>
  hf q e (h q e hq) (fun c => by rw [hp q c] at hq; cases hq)
abbrev eB (c : Nat) (f : Nat → Int32) : tE := .inl (.byte, c, .inl f)
abbrev oSB (v : Nat) (fl : Int32) (k : Nat) : tE := .inr (1, [.ref v, .int 0, .int fl, .int (nI k)])
def bOK (f : Nat → Int32) (n : Nat) : Prop := ∀ i, i < n → fits .byte (.int (f i)) = true
theorem fit_nar (x : Int32) : fits .byte (.int (vp_nar .byte x)) = true := by
  rw [vp_nar_byte]
  show (decide ((-128 : Int32) ≤ x.toInt8.toInt32) && decide (x.toInt8.toInt32 ≤ 127)) = true
  have h0 : x.toInt8.toInt32.toInt = x.toInt8.toInt := Int8.toInt_toInt32 _
  have h1 := Int8.le_toInt x.toInt8
  have h2 := Int8.toInt_lt x.toInt8
  have e1 : (-128 : Int32).toInt = -128 := rfl
  have e2 : (127 : Int32).toInt = 127 := rfl
  rw [Bool.and_eq_true]
  refine ⟨decide_eq_true ?_, decide_eq_true ?_⟩
  · rw [i32_le, h0, e1]; omega
  · rw [i32_le, h0, e2]; omega
theorem bOK_0 (n : Nat) : bOK (fun _ => 0) n := fun _ _ => (show fits .byte (.int 0) = true by decide)
theorem bOK_upd {f : Nat → Int32} {n : Nat} (h : bOK f n) (j : Nat) {x : Int32} (hx : fits .byte (.int x) = true) : bOK (upd f j x) n := fun i hi => by
  by_cases c : i = j
  · rw [c, upd_s]; exact hx
  · rw [upd_n c]; exact h i hi
theorem bOK_cpy {f g : Nat → Int32} {sp dp n N : Nat} (hf : ∀ i, i < n → fits .byte (.int (f (sp + i))) = true) (hg : bOK g N) : bOK (va_cpy f g sp dp n) N := fun i hi => by
  unfold va_cpy
  by_cases c : dp ≤ i ∧ i < dp + n
  · rw [if_pos c]; exact hf (i - dp) (by omega)
  · rw [if_neg c]; exact hg i hi
theorem shr0 (x : Int32) : x >>> ((0 : Int32) &&& 31) = x := by
  rw [show ((0 : Int32) &&& 31) = 0 by decide]; exact Int32.shiftRight_zero
theorem shl0 (x : Int32) : x <<< ((0 : Int32) &&& 31) = x := by
  rw [show ((0 : Int32) &&& 31) = 0 by decide]; exact Int32.shiftLeft_zero
theorem nI_le0 {m c : Nat} (h : m ≤ c) (hc : c < 2 ^ 30) : nI m - nI c ≤ 0 := by
  rw [i32_le, nI_sub (by omega) hc]
  have : (0 : Int32).toInt = 0 := rfl
  omega
theorem nI_nle0 {m c : Nat} (h : c < m) (hm : m < 2 ^ 30) : ¬ nI m - nI c ≤ 0 := by
  rw [i32_le, nI_sub hm (by omega)]
  have : (0 : Int32).toInt = 0 := rfl
  omega
/-- a builder: its object and its array, both made since G0; its capacity, its length -/
def SB (G0 G : tG) (o v c k : Nat) : Prop := (G0 o = none ∧ G0 v = none) ∧ (∃ fl, G o = some (oSB v fl k)) ∧ (∃ f, G v = some (eB c f) ∧ bOK f c) ∧ k ≤ c
theorem SB_ext {G0 G G' : tG} {o v c k : Nat} (h : SB G0 G o v c k) (he : ext G G') : SB G0 G' o v c k := by
  obtain ⟨h1, ⟨fl, h2⟩, ⟨f, h3, h4⟩, h5⟩ := h
  exact ⟨h1, ⟨fl, he _ _ h2⟩, ⟨f, he _ _ h3, h4⟩, h5⟩
def capF (c m : Nat) : Nat := if m ≤ c then c else max m (2 * c + 2)
def groF (c m : Nat) : Nat := if m ≤ c then 0 else max m (2 * c + 2)
theorem cap_facts (c m : Nat) : m ≤ capF c m ∧ c ≤ capF c m ∧ groF c m + 2 * c ≤ 2 * capF c m ∧ (∀ B, c ≤ B → 2 * m ≤ B → capF c m ≤ B) := by
  unfold capF groF
  by_cases h : m ≤ c
  · rw [if_pos h, if_pos h]
    exact ⟨h, by omega, by omega, fun B h1 h2 => h1⟩
  · rw [if_neg h, if_neg h]
    exact ⟨by omega, by omega, by omega, fun B h1 h2 => by omega⟩
section STA
variable {K : tK} {G0 G : tG}
theorem cpB_i {r r2 : Option Nat} {sp dp n : Int32} {a n0 b n1 sp' dp' n' : Nat} {f g : Nat → Int32} {P : tG → Prop} (hr : r = some a) (ha : G a = some (eB n0 f) ∨ K.2.1 a = some (n0, f)) (hr2 : r2 = some b) (hb : G b = some (eB n1 g)) (hsp : sp = nI sp') (hdp : dp = nI dp') (hn : n = nI n') (h1 : sp' + n' ≤ n0) (h2 : dp' + n' ≤ n1) (h3 : n0 < 2 ^ 30) (h4 : n1 < 2 ^ 30) (hf : ∀ i, i < n' → fits .byte (.int (f (sp' + i))) = true) (hp : P (tg_up G b (eB n1 (va_cpy f g sp' dp' n')))) : cpB K G r sp r2 dp n P :=
  ⟨a, n0, f, b, n1, g, sp', dp', n', hr, ha, hr2, hb, by rw [hsp]; exact nI_toInt (by omega), by rw [hdp]; exact nI_toInt (by omega), by rw [hn]; exact nI_toInt (by omega), h1, h2, hf, hp⟩
theorem a_newLength {post : Int32 → tG → Prop} {c a b : Nat} (hc : c + a + b < 1000000) (h0 : 0 < c + max a b) (h : post (nI (c + max a b)) G) : w_J8_newLength_cabcc K post (nI c) (nI a) (nI b) G := by
  have e : nI c + (if nI a < nI b then nI b else nI a) = nI (c + max a b) := by
    by_cases q : a < b
    · rw [if_pos (nI_lt q (by omega)), nI_add, Nat.max_eq_right (by omega)]
    · rw [if_neg (nI_nlt (by omega) (by omega)), nI_add, Nat.max_eq_left (by omega)]
  unfold w_J8_newLength_cabcc
  rw [e]
  refine ⟨fun q => absurd q (nI_nle h0 (by omega)), fun _ => ⟨fun q => ?_, fun _ => h⟩⟩
  rw [i32_lt, nI_toInt (by omega)] at q
  have : (2147483639 : Int32).toInt = 2147483639 := rfl
  omega
theorem a_copyOf {post : Option Nat → tG → Prop} {v c N mc ms : Nat} {f : Nat → Int32} (hv : G v = some (eB c f)) (hf : bOK f c) (hN : c < N) (hN2 : N ≤ 65536) (hmc : 1 ≤ mc) (hms : N ≤ ms) (hp : ∀ q f' G', G q = none → G' q = some (eB N f') → bOK f' N → (∀ a, a ≠ q → G' a = G a) → post (some q) G') : w_J7_copyOf_9075b K mc ms post (some v) (nI N) G := by
  refine lenA_i hv ⟨fun _ => ⟨N, hN2, ⟨by omega, by omega⟩, N, nI_toInt (by omega), Nat.le_refl _, fun q hq => ?_⟩, fun z => ?_⟩
  · have hne : v ≠ q := fun z => by rw [z, hq] at hv; cases hv
    have hv2 : tg_up G q (eB N fun _ => 0) v = some (eB c f) := tg_keep hv hne
    refine lenA_i hv2 (cpB_i (n' := c) (sp' := 0) (dp' := 0) rfl (Or.inl hv2) rfl (tg_s _ _ _) rfl rfl ?_ (by omega) (by omega) (by omega) (by omega) (fun i hi => by rw [Nat.zero_add]; exact hf i hi) ?_)
    · show (if nI N < nI c then nI N else nI c) = nI c
      rw [if_neg (nI_nlt (by omega) (by omega))]
    · refine hp q _ _ hq (tg_s _ _ _) (bOK_cpy (fun i hi => by rw [Nat.zero_add]; exact hf i hi) (bOK_0 N)) (fun a ha => by rw [tg_n _ _ ha, tg_n _ _ ha])
  · have z : nI N = nI c := z
    rw [nI_eq (by omega) (by omega)] at z
    omega
theorem a_ensure {post : tG → Prop} {o v c k m mc ms : Nat} (h0 : ext G0 G) (h : SB G0 G o v c k) (hc : c < 10000) (hm : m < 10000) (hmc : 1 ≤ mc) (hms : groF c m ≤ ms) (hp : ∀ G' v', ext G0 G' → fr (fun q => q = o) G G' → SB G0 G' o v' (capF c m) k → post G') : w_J5_ensureCapacityInternal_d00df K mc ms post (some o) (nI m) G := by
  have hSB := h
  obtain ⟨⟨n1, n2⟩, ⟨fl, ho⟩, ⟨f, hv, hf⟩, hk⟩ := h
  refine gfR_i v ho rfl (lenA_i hv (gfI_i ho rfl ?_))
  show (nI m - (nI c >>> ((0 : Int32) &&& 31)) ≤ 0 → _) ∧ (¬ nI m - (nI c >>> ((0 : Int32) &&& 31)) ≤ 0 → _)
  rw [shr0]
  unfold groF at hms
  unfold capF at hp
  by_cases cm : m ≤ c
  · rw [if_pos cm] at hp
    exact ⟨fun _ => hp G v h0 (fr_rf _ _) hSB, fun q => absurd (nI_le0 cm (by omega)) q⟩
  · rw [if_neg cm] at hp hms
    refine ⟨fun q => absurd q (nI_nle0 (by omega) (by omega)), fun _ => gfR_i v ho rfl (rcv_i ho ?_)⟩
    refine gfR_i v ho rfl (lenA_i hv (gfI_i ho rfl (gfI_i ho rfl ?_)))
    show w_J8_newLength_cabcc K _ (nI c) ((nI m <<< ((0 : Int32) &&& 31)) - nI c) (nI c + ((2 : Int32) <<< ((0 : Int32) &&& 31))) G
    rw [shl0, shl0, nI_subN (by omega), show nI c + (2 : Int32) = nI (c + 2) from nI_add c 2]
    refine a_newLength (by omega) (by omega) ?_
    have eN : c + max (m - c) (c + 2) = max m (2 * c + 2) := by omega
    rw [eN]
    refine ⟨fun _ => gfI_i ho rfl ?_, fun z => ?_⟩
    · rw [shr0]
      refine gfI_i ho rfl ⟨mc, ms, by omega, by omega, ?_⟩
      rw [shl0]
      refine a_copyOf hv hf (by omega) (by omega) hmc hms (fun q f' G' q0 q1 q2 q3 => ?_)
      have hoq : o ≠ q := fun z => by rw [z, q0] at ho; cases ho
      have ho' : G' o = some (oSB v fl k) := by rw [q3 o hoq]; exact ho
      refine pfV_i ho' (Nat.le_of_ble_eq_true rfl) (hp _ q ?_ ?_ ?_)
      · exact ext_up (fun a e ha => by rw [q3 a (fun z => by rw [z, ext_none h0 q0] at ha; cases ha)]; exact h0 a e ha) _ n1
      · exact fr_tr (fr_fresh q0 q3 _) (fr_up _ rfl)
      · exact ⟨⟨n1, ext_none h0 q0⟩, ⟨fl, tg_s _ _ _⟩, ⟨f', tg_keep q1 (fun z => hoq z.symm), q2⟩, by omega⟩
    · exfalso
      have e := congrArg Int32.toInt z
      rw [nI_toInt (by omega)] at e
      have : (2147483647 : Int32).toInt = 2147483647 := rfl
      omega
/-- how many signs a number takes -/
def szF (x : Int32) : Nat := (if (if x < 0 then x else -x) ≤ -10 then 2 else 1) + (if x < 0 then 1 else 0)
theorem szF_in (x : Int32) : 1 ≤ szF x ∧ szF x ≤ 3 := by
  unfold szF
  split <;> split <;> omega
set_option maxRecDepth 100000 in
theorem neg_tab : ((List.range 100).all fun i => decide (¬ (-nI i) ≤ -100) && decide (-(-nI i) = nI i) && decide ((-(nI i : Int32) < 0) ↔ ¬ i = 0)) = true := by decide +kernel
theorem a_size {post : Int32 → tG → Prop} {x : Int32} (hx : inR x (-99) 99) (h : post (nI (szF x)) G) : w_J6_stringSize_0f7a4 K post x G := by
  have main : ∀ (y : Int32) (d : Nat), ¬ y ≤ -100 → post (nI ((if y ≤ -10 then 2 else 1) + d)) G → w_J6_stringSize_0f7a4_11 K post y (nI d) G := by
    intro y d hy hp
    refine ⟨3, ?_⟩
    show w_J6_stringSize_0f7a4_16_b K post (w_J6_stringSize_0f7a4_16 K post 2) y (nI d) (-10) 1 G
    refine ⟨fun z => absurd z (by decide), fun _ => ⟨fun c => ?_, fun c => ?_⟩⟩
    · rw [if_pos c] at hp
      show w_J6_stringSize_0f7a4_16_b K post (w_J6_stringSize_0f7a4_16 K post 1) y (nI d) (-100) 2 G
      refine ⟨fun z => absurd z (by decide), fun _ => ⟨fun c => absurd c hy, fun _ => ?_⟩⟩
      rw [show (2 : Int32) + nI d = nI (2 + d) from nI_add 2 d]; exact hp
    · rw [if_neg c] at hp
      rw [show (1 : Int32) + nI d = nI (1 + d) from nI_add 1 d]; exact hp
  have h1 := hx.1
  have h2 := hx.2
  rw [i32_lt] at h1
  rw [i32_le] at h2
  have e1 : (99 : Int32).toInt = 99 := rfl
  have e2 : (-99 : Int32).toInt = -99 := rfl
  have e3 : (-100 : Int32).toInt = -100 := rfl
  have e0 : (0 : Int32).toInt = 0 := rfl
  unfold szF at h
  refine ⟨fun c => ?_, fun c => ?_⟩
  · rw [if_pos c, if_pos c] at h
    exact main x 1 (by rw [i32_le]; omega) h
  · rw [if_neg c, if_neg c] at h
    refine main (-x) 0 ?_ h
    obtain ⟨j, hj, rfl⟩ := nI_of c
    rw [nI_toInt hj] at h2
    have t := List.all_eq_true.mp neg_tab j (List.mem_range.mpr (by omega))
    rw [Bool.and_eq_true, Bool.and_eq_true] at t
    exact of_decide_eq_true t.1.1
end STA
end GRP23x0
section GRP23x1
/-! texts: numbers, signs and texts behind a builder's content -/
theorem neg_at : ∀ i, i < 100 → (-100 : Int32) < -nI i ∧ -(-nI i) = nI i ∧ ((-9 : Int32) ≤ -nI i ↔ i ≤ 9) ∧ (-nI i ≤ (-10 : Int32) ↔ ¬ i ≤ 9) := by decide +kernel
theorem num_of {x : Int32} (hx : inR x (-99) 99) : ∃ j d : Nat, j < 100 ∧ ((d = 0 ∧ ¬ x < 0 ∧ x = nI j) ∨ (d = 1 ∧ x < 0 ∧ x = -nI j)) ∧ szF x = (if j ≤ 9 then 1 else 2) + d := by
  have h1 := hx.1
  have h2 := hx.2
  rw [i32_lt] at h1
  rw [i32_le] at h2
  have e1 : (99 : Int32).toInt = 99 := rfl
  have e2 : (-99 : Int32).toInt = -99 := rfl
  have e0 : (0 : Int32).toInt = 0 := rfl
  by_cases c : x < 0
  · have c' := c
    rw [i32_lt] at c'
    have ex : x = -nI (-x.toInt).toNat := by
      apply Int32.toInt_inj.mp
      have := nI_sub (a := 0) (b := (-x.toInt).toNat) (by omega) (by omega)
      rw [nI_0, Int32.zero_sub] at this
      omega
    refine ⟨(-x.toInt).toNat, 1, by omega, Or.inr ⟨rfl, c, ex⟩, ?_⟩
    have t := (neg_at (-x.toInt).toNat (by omega)).2.2.2
    rw [← ex] at t
    unfold szF
    rw [if_pos c, if_pos c]
    by_cases d : (-x.toInt).toNat ≤ 9
    · rw [if_pos d, if_neg (fun z => (t.mp z) d)]
    · rw [if_neg d, if_pos (t.mpr d)]
  · obtain ⟨j, hj, rfl⟩ := nI_of c
    rw [nI_toInt hj] at h2
    refine ⟨j, 0, by omega, Or.inl ⟨rfl, c, rfl⟩, ?_⟩
    have t := (neg_at j (by omega)).2.2.2
    unfold szF
    rw [if_neg c, if_neg c]
    by_cases d : j ≤ 9
    · rw [if_pos d, if_neg (fun z => (t.mp z) d)]
    · rw [if_neg d, if_pos (t.mpr d)]
theorem nI_dec {a : Nat} (h : 0 < a) : nI a + (-1 : Int32) = nI (a - 1) := by
  rw [nI_m1]
  have e : a = a - 1 + 1 := by omega
  rw [e, nI_pred]
  congr 1
/-- a text, in any state: its bytes -/
def STR (K : tK) (G : tG) (r : Option Nat) (n : Nat) : Prop := (∃ (a w : Nat) (f : Nat → Int32) (x y : Value), r = some a ∧ G a = some (.inr (0, [.ref w, .int 0, x, y])) ∧ G w = some (eB n f) ∧ bOK f n) ∨ (∃ (a w : Nat) (f : Nat → Int32), r = some a ∧ K.1 a = some w ∧ K.2.1 w = some (n, f) ∧ bOK f n)
theorem STR_ext {K : tK} {G G' : tG} {r : Option Nat} {n : Nat} (h : STR K G r n) (he : ext G G') : STR K G' r n := by
  rcases h with ⟨a, w, f, x, y, h1, h2, h3, h4⟩ | h
  · exact Or.inl ⟨a, w, f, x, y, h1, he _ _ h2, he _ _ h3, h4⟩
  · exact Or.inr h
theorem STR_fr {K : tK} {G G' : tG} {r : Option Nat} {n o : Nat} {fs : List Value} (h : STR K G r n) (ho : G o = some (.inr (1, fs))) (he : fr (fun q => q = o) G G') : STR K G' r n := by
  rcases h with ⟨a, w, f, x, y, h1, h2, h3, h4⟩ | h
  · refine Or.inl ⟨a, w, f, x, y, h1, he _ _ h2 (fun c => ?_), he _ _ h3 (fun c => ?_), h4⟩
    · rw [c, ho] at h2; cases h2
    · rw [c, ho] at h3; cases h3
  · exact Or.inr h
def KS (K : tK) (t n : Nat) : Prop := ∃ (w : Nat) (f : Nat → Int32), K.1 (K.2.2 t) = some w ∧ K.2.1 w = some (n, f) ∧ bOK f n
def KOK (K : tK) : Prop := KS K 5 1 ∧ KS K 6 0 ∧ KS K 7 1 ∧ KS K 8 1 ∧ (∃ f, K.2.1 (K.2.2 20) = some (100, f)) ∧ (∃ f, K.2.1 (K.2.2 21) = some (100, f))
theorem STR_K {K : tK} {G : tG} {t n : Nat} (h : KS K t n) : STR K G (some (K.2.2 t)) n := by
  obtain ⟨w, f, h1, h2, h3⟩ := h
  exact Or.inr ⟨_, w, f, rfl, h1, h2, h3⟩
section STB
variable {K : tK} {G0 G : tG}
theorem s_rcv {P : Prop} {r : Option Nat} {n : Nat} (h : STR K G r n) (hp : P) : rcvS K G r 0 P := by
  rcases h with ⟨a, w, f, x, y, h1, h2, h3, h4⟩ | ⟨a, w, f, h1, h2, h3, h4⟩
  · exact ⟨a, h1, Or.inl ⟨_, h2⟩, hp⟩
  · exact ⟨a, h1, Or.inr ⟨w, h2⟩, hp⟩
theorem s_val {P : Option Nat → Prop} {r : Option Nat} {n : Nat} (h : STR K G r n) (hp : ∀ w f, (G w = some (eB n f) ∨ K.2.1 w = some (n, f)) → bOK f n → P (some w)) : gsV K G r 0 P := by
  rcases h with ⟨a, w, f, x, y, h1, h2, h3, h4⟩ | ⟨a, w, f, h1, h2, h3, h4⟩
  · subst h1
    exact Or.inl (gfR_i w h2 rfl (hp w f (Or.inl h3) h4))
  · exact Or.inr ⟨a, w, h1, h2, hp w f (Or.inr h3) h4⟩
theorem s_lenK {P : Int32 → Prop} {w n : Nat} {f : Nat → Int32} (h : G w = some (eB n f) ∨ K.2.1 w = some (n, f)) (hp : P (nI n)) : lenK K G (some w) P := by
  rcases h with h | h
  · exact Or.inl (lenA_i h hp)
  · exact Or.inr ⟨w, n, f, rfl, h, hp⟩
theorem s_coder {post : Int32 → tG → Prop} {r : Option Nat} {n : Nat} (h : STR K G r n) (hp : post 0 G) : w_J0_coder_7d493 K post r G := by
  refine ⟨fun z => absurd z (by decide), fun _ => ?_⟩
  rcases h with ⟨a, w, f, x, y, h1, h2, h3, h4⟩ | ⟨a, w, f, h1, h2, h3, h4⟩
  · subst h1
    exact Or.inl (gfI_i h2 rfl ⟨by decide, hp⟩)
  · exact Or.inr ⟨a, w, h1, h2, by decide, hp⟩
theorem s_length {post : Int32 → tG → Prop} {r : Option Nat} {n : Nat} (h : STR K G r n) (hp : post (nI n) G) : w_J0_length_8abf5 K post r G := by
  refine s_val h (fun w f hw _ => s_lenK hw (s_rcv h (s_coder h ?_)))
  show post (nI n >>> ((0 : Int32) &&& 31)) G
  rw [shr0]; exact hp
theorem s_isEmpty {post : Int32 → tG → Prop} {r : Option Nat} {n : Nat} (h : STR K G r n) (hn : n < 2 ^ 30) (hp : post (if n = 0 then 1 else 0) G) : w_J0_isEmpty_aae02 K post r G := by
  refine s_val h (fun w f hw _ => s_lenK hw ⟨fun c => ⟨by decide, ?_⟩, fun c => ⟨by decide, ?_⟩⟩)
  · have hc : ¬ n = 0 := fun e => c (by rw [e]; rfl)
    rw [if_neg hc] at hp; exact hp
  · have hc : n = 0 := Decidable.byContradiction fun e => nI_ne0 (by omega) (by omega) c
    rw [if_pos hc] at hp; exact hp
theorem a_latin {post : Int32 → tG → Prop} {o v k : Nat} {fl : Int32} (ho : G o = some (oSB v fl k)) (h : post 1 G) : w_J5_isLatin1_aae02 K post (some o) G :=
  ⟨fun z => absurd z (by decide), fun _ => gfI_i ho rfl ⟨fun z => absurd rfl z, fun _ => ⟨by decide, h⟩⟩⟩
theorem asB_i {v c j : Nat} {f : Nat → Int32} {i x : Int32} {P : tG → Prop} (hv : G v = some (eB c f)) (hi : i = nI j) (hj : j < c) (hc : c < 2 ^ 31) (h : P (tg_up G v (eB c (upd f j x)))) : asI G (some v) i .byte x P := asI_i hv hi hj hc h
theorem a_getChars {post : Int32 → tG → Prop} {x : Int32} {v c idx : Nat} {f : Nat → Int32} (hK : KOK K) (hx : inR x (-99) 99) (hv : G v = some (eB c f)) (hf : bOK f c) (hi : szF x ≤ idx) (hic : idx ≤ c) (hc : c < 10000) (hp : ∀ y G' f', G' v = some (eB c f') → bOK f' c → (∀ a, a ≠ v → G' a = G a) → post y G') : w_J6_getChars_ba4f3 K post x (nI idx) (some v) G := by
  obtain ⟨-, -, -, -, ⟨ft, kt⟩, ⟨fo, ko⟩⟩ := hK
  obtain ⟨j, d, hj, hjd, hsz⟩ := num_of hx
  rw [hsz] at hi
  have t := neg_at j hj
  have key : ∀ (z : Int32) (G1 : tG) (f1 : Nat → Int32) (i1 : Nat), G1 v = some (eB c f1) → bOK f1 c → (∀ a, a ≠ v → G1 a = G a) → i1 ≤ c → ((z = 0 ∧ 0 ≤ i1) ∨ (z = 1 ∧ 1 ≤ i1)) → w_J6_getChars_ba4f3_104 K post (some v) (nI i1) z G1 := by
    intro z G1 f1 i1 g1 g2 g3 g4 g5
    refine ⟨fun _ => hp _ G1 f1 g1 g2 g3, fun hz => ?_⟩
    have hi1 : 1 ≤ i1 := by
      rcases g5 with q | q
      · exact absurd q.1 hz
      · exact q.2
    rw [nI_dec (by omega)]
    exact asB_i g1 rfl (by omega) (by omega) (hp _ _ _ (tg_s _ _ _) (bOK_upd g2 _ (fit_nar _)) (fun a ha => by rw [tg_n _ _ ha]; exact g3 a ha))
  have main : ∀ z : Int32, ((z = 0 ∧ d = 0) ∨ (z = 1 ∧ d = 1)) → ∃ n : Nat, w_J6_getChars_ba4f3_22 K post n (-nI j) (some v) (nI idx) z G := by
    intro z hz
    refine ⟨1, ?_⟩
    show w_J6_getChars_ba4f3_22_b K post (w_J6_getChars_ba4f3_22 K post 0) (-nI j) (some v) (nI idx) z G
    refine ⟨fun _ => ⟨_, 100, fo, j, rfl, ko, by rw [t.2.1]; exact nI_toInt (by omega), hj, ?_⟩, fun q => absurd t.1 q⟩
    have hidx : 0 < idx := by
      split at hi <;> omega
    rw [nI_dec hidx]
    refine asB_i hv rfl (by omega) (by omega) ⟨fun q => ?_, fun q => ⟨_, 100, ft, j, rfl, kt, by rw [t.2.1]; exact nI_toInt (by omega), hj, ?_⟩⟩
    · have q9 := t.2.2.1.mp q
      rw [if_pos q9] at hi
      exact key z _ _ _ (tg_s _ _ _) (bOK_upd hf _ (fit_nar _)) (fun a ha => tg_n _ _ ha) (by omega) (hz.elim (fun h => Or.inl ⟨h.1, by omega⟩) (fun h => Or.inr ⟨h.1, by omega⟩))
    · have q9 : ¬ j ≤ 9 := fun z => q (t.2.2.1.mpr z)
      rw [if_neg q9] at hi
      rw [nI_dec (by omega)]
      refine asB_i (tg_s _ _ _) rfl (by omega) (by omega) ?_
      exact key z _ _ _ (tg_s _ _ _) (bOK_upd (bOK_upd hf _ (fit_nar _)) _ (fit_nar _)) (fun a ha => by rw [tg_n _ _ ha, tg_n _ _ ha]) (by omega) (hz.elim (fun h => Or.inl ⟨h.1, by omega⟩) (fun h => Or.inr ⟨h.1, by omega⟩))
  have e0 : (0 : Int32).toInt = 0 := rfl
  rcases hjd with ⟨d0, hx0, ex⟩ | ⟨d1, hx0, ex⟩
  · refine ⟨fun _ => ⟨fun z => absurd rfl z, fun _ => ?_⟩, fun q => absurd ?_ q⟩
    · rw [ex]; exact main 0 (Or.inl ⟨rfl, d0⟩)
    · rw [i32_le]; rw [i32_lt] at hx0; omega
  · refine ⟨fun q => absurd hx0 ?_, fun _ => ⟨fun _ => ?_, fun z => absurd z (by decide)⟩⟩
    · rw [i32_lt]; rw [i32_le] at q; omega
    · rw [ex]; exact main 1 (Or.inr ⟨rfl, d1⟩)
/-- StringBuilder.append(int) -/
theorem a_appI {post : Option Nat → tG → Prop} {o v c k mc ms : Nat} {x : Int32} (hK : KOK K) (hx : inR x (-99) 99) (h0 : ext G0 G) (h : SB G0 G o v c k) (hc : c < 5000) (hk : k < 1000) (hmc : 1 ≤ mc) (hms : groF c (k + szF x) ≤ ms) (hp : ∀ G' v', ext G0 G' → SB G0 G' o v' (capF c (k + szF x)) (k + szF x) → post (some o) G') : w_J4_append_bf812 K mc ms post (some o) x G := by
  obtain ⟨⟨n1, n2⟩, ⟨fl, ho⟩, ⟨f, hv, hf⟩, hkc⟩ := id h
  have hz := szF_in x
  refine ⟨mc, ms, by omega, by omega, rcv_i ho (gfI_i ho rfl (a_size hx ⟨mc, ms, by omega, by omega, rcv_i ho ?_⟩))⟩
  rw [nI_add]
  refine a_ensure h0 h (by omega) (by omega) hmc hms (fun G1 v1 x1 f1 h1 => ?_)
  obtain ⟨⟨m1, m2⟩, ⟨fl1, ho1⟩, ⟨g, hv1, hg⟩, hkc1⟩ := h1
  have cf := cap_facts c (k + szF x)
  have hcb : capF c (k + szF x) < 10000 := Nat.lt_of_le_of_lt (cf.2.2.2 (max c (2 * (k + szF x))) (by omega) (by omega)) (by omega)
  refine rcv_i ho1 (a_latin ho1 ⟨fun z => absurd z (by decide), fun _ => gfR_i v1 ho1 rfl ?_⟩)
  refine a_getChars hK hx hv1 hg (by omega) cf.1 hcb (fun y G2 g2 e1 e2 e3 => ?_)
  have hov : o ≠ v1 := ne_OI ho1 hv1
  have ho2 : G2 o = some (oSB v1 fl1 k) := by rw [e3 o hov]; exact ho1
  refine pfV_i ho2 (Nat.le_of_ble_eq_true rfl) (hp _ v1 ?_ ?_)
  · refine ext_up (fun a e ha => ?_) _ m1
    rw [e3 a (fun z => by rw [z, m2] at ha; cases ha)]; exact x1 a e ha
  · exact ⟨⟨m1, m2⟩, ⟨fl1, tg_s _ _ _⟩, ⟨g2, tg_keep e1 (fun z => hov z.symm), e2⟩, cf.1⟩
/-- StringBuilder.append(char), of a sign below 256 -/
theorem a_appC {post : Option Nat → tG → Prop} {o v c k mc ms : Nat} {x : Int32} (hx : ¬ (255 : Int32) < x) (h0 : ext G0 G) (h : SB G0 G o v c k) (hc : c < 5000) (hk : k < 1000) (hmc : 1 ≤ mc) (hms : groF c (k + 1) ≤ ms) (hp : ∀ G' v', ext G0 G' → SB G0 G' o v' (capF c (k + 1)) (k + 1) → post (some o) G') : w_J4_append_cf468 K mc ms post (some o) x G := by
  obtain ⟨⟨n1, n2⟩, ⟨fl, ho⟩, ⟨f, hv, hf⟩, hkc⟩ := id h
  refine ⟨mc, ms, by omega, by omega, rcv_i ho (gfI_i ho rfl ⟨mc, ms, by omega, by omega, rcv_i ho ?_⟩)⟩
  rw [nI_1]
  refine a_ensure h0 h (by omega) (by omega) hmc hms (fun G1 v1 x1 f1 h1 => ?_)
  obtain ⟨⟨m1, m2⟩, ⟨fl1, ho1⟩, ⟨g, hv1, hg⟩, hkc1⟩ := h1
  have cf := cap_facts c (k + 1)
  have hcb : capF c (k + 1) < 10000 := Nat.lt_of_le_of_lt (cf.2.2.2 (max c (2 * (k + 1))) (by omega) (by omega)) (by omega)
  refine rcv_i ho1 (a_latin ho1 ⟨fun z => absurd z (by decide), fun _ => ⟨fun z => absurd z hx, fun _ => ⟨by decide, fun z => absurd z (by decide), fun _ => gfR_i v1 ho1 rfl (gfI_i ho1 rfl (pfV_i ho1 (Nat.le_of_ble_eq_true rfl) ?_))⟩⟩⟩)
  have hov : o ≠ v1 := ne_OI ho1 hv1
  refine asB_i (tg_keep hv1 (fun z => hov z.symm)) rfl (show k < capF c (k + 1) by omega) (by omega) (hp _ v1 ?_ ?_)
  · exact ext_up (ext_up x1 _ m1) _ m2
  · refine ⟨⟨m1, m2⟩, ⟨fl1, ?_⟩, ⟨_, tg_s _ _ _, bOK_upd hg _ (fit_nar _)⟩, cf.1⟩
    refine tg_keep ?_ hov
    show tg_up G1 o (.inr (1, [.ref v1, .int 0, .int fl1, .int (nI k + 1)])) o = _
    rw [tg_s, nI_1]
/-- StringBuilder.append(String) -/
theorem a_appS {post : Option Nat → tG → Prop} {o v c k n mc ms : Nat} {r : Option Nat} (hr : STR K G r n) (hn : n < 1000) (h0 : ext G0 G) (h : SB G0 G o v c k) (hc : c < 5000) (hk : k < 1000) (hmc : 1 ≤ mc) (hms : groF c (k + n) ≤ ms) (hp : ∀ G' v', ext G0 G' → SB G0 G' o v' (capF c (k + n)) (k + n) → post (some o) G') : w_J4_append_15ec4 K mc ms post (some o) r G := by
  obtain ⟨⟨n1, n2⟩, ⟨fl, ho⟩, ⟨f, hv, hf⟩, hkc⟩ := id h
  refine ⟨mc, ms, by omega, by omega, rcv_i ho ⟨fun _ => s_rcv hr (s_length hr (gfI_i ho rfl ⟨mc, ms, by omega, by omega, rcv_i ho ?_⟩)), fun z => ?_⟩⟩
  · rw [nI_add]
    refine a_ensure h0 h (by omega) (by omega) hmc hms (fun G1 v1 x1 f1 h1 => ?_)
    have hr1 := STR_fr hr ho f1
    obtain ⟨⟨m1, m2⟩, ⟨fl1, ho1⟩, ⟨g, hv1, hg⟩, hkc1⟩ := h1
    have cf := cap_facts c (k + n)
    have hcb : capF c (k + n) < 10000 := Nat.lt_of_le_of_lt (cf.2.2.2 (max c (2 * (k + n))) (by omega) (by omega)) (by omega)
    have hov : o ≠ v1 := ne_OI ho1 hv1
    refine gfI_i ho1 rfl (rcv_i ho1 (rcv_i ho1 ⟨fun z => absurd z (by decide), fun _ => gfI_i ho1 rfl (s_rcv hr1 (s_coder hr1 ⟨fun _ => ?_, fun z => absurd rfl z⟩))⟩))
    refine gfR_i v1 ho1 rfl (gfI_i ho1 rfl (s_rcv hr1 (s_rcv hr1 (s_coder hr1 ⟨fun z => absurd rfl z, fun _ => s_val hr1 (fun w fw hw hfw => s_val hr1 (fun w2 fw2 hw2 hfw2 => s_lenK hw2 ?_))⟩))))
    refine cpB_i (sp' := 0) (dp' := k) (n' := n) rfl hw rfl hv1 rfl (shl0 _) rfl (by omega) (by omega) (by omega) (by omega) (fun i hi => by rw [Nat.zero_add]; exact hfw i hi) ?_
    refine gfI_i (tg_keep ho1 hov) rfl (pfV_i (tg_keep ho1 hov) (Nat.le_of_ble_eq_true rfl) (hp _ v1 ?_ ?_))
    · exact ext_up (ext_up x1 _ m2) _ m1
    · refine ⟨⟨m1, m2⟩, ⟨fl1, ?_⟩, ⟨_, tg_keep (tg_s _ _ _) (fun z => hov z.symm), bOK_cpy (fun i hi => by rw [Nat.zero_add]; exact hfw i hi) hg⟩, cf.1⟩
      show tg_up _ o (.inr (1, [.ref v1, .int 0, .int fl1, .int (nI k + nI n)])) o = _
      rw [tg_s, nI_add]
  · rcases hr with ⟨a, w, f', x, y, q, -⟩ | ⟨a, w, f', q, -⟩
    · rw [q] at z; cases z
    · rw [q] at z; cases z
/-- StringBuilder.toString() -/
theorem a_toString {post : Option Nat → tG → Prop} {o v c k mc ms : Nat} (h : SB G0 G o v c k) (hc : c < 10000) (hmc : 2 ≤ mc) (hms : 4 + k ≤ ms) (hp : ∀ s G', ext G G' → STR K G' (some s) k → post (some s) G') : w_J4_toString_0e30d K mc ms post (some o) G := by
  obtain ⟨⟨n1, n2⟩, ⟨fl, ho⟩, ⟨f, hv, hf⟩, hkc⟩ := id h
  refine ⟨⟨by omega, by omega⟩, fun s hs => ⟨1, k, by omega, by omega, ⟨s, rfl⟩, 1, k, by omega, by omega, ⟨s, rfl⟩, ⟨s, rfl⟩, ?_⟩⟩
  have hos : o ≠ s := fun z => by rw [z, hs] at ho; cases ho
  have hvs : v ≠ s := fun z => by rw [z, hs] at hv; cases hv
  have ho1 : tg_up G s (.inr (0, [.null, .int 0, .int 0, .int 0])) o = some (oSB v fl k) := tg_keep ho hos
  refine rcv_i ho1 (gfR_i v ho1 rfl (rcv_i ho1 (rcv_i ho1 (gfI_i ho1 rfl (rcv_i ho1 (a_latin ho1 ⟨fun z => absurd z (by decide), fun _ => pfV_i (tg_s _ _ _) (Nat.le_of_ble_eq_true rfl) ⟨1, k, by omega, by omega, ?_⟩⟩))))))
  have hv2 : ∀ e1 e2 : tE, tg_up (tg_up G s e1) s e2 v = some (eB c f) := fun e1 e2 => tg_keep (tg_keep hv hvs) hvs
  -- what is done with the copy
  have fin : ∀ (q : Nat) (G2 : tG) (g : Nat → Int32), (tg_up (tg_up G s (.inr (0, [.null, .int 0, .int 0, .int 0]))) s (.inr (0, [.null, .int 0, .int 0, .int 0]))) q = none → G2 q = some (eB k g) → bOK g k → (∀ a, a ≠ q → G2 a = (tg_up (tg_up G s (.inr (0, [.null, .int 0, .int 0, .int 0]))) s (.inr (0, [.null, .int 0, .int 0, .int 0]))) a) → pfV G2 (some s) 0 0 (va_rf (some q)) (fun G_35 => w_J0_init_db425_97 K 1 k (fun G_5 => post (some s) G_5) (0 + 1) (0 + k) G_35) := by
    intro q G2 g q0 q1 q2 q3
    have hsq : s ≠ q := fun z => by rw [← z, tg_s] at q0; cases q0
    have hs2 : G2 s = some (.inr (0, [.null, .int 0, .int 0, .int 0])) := by rw [q3 s hsq, tg_s]
    refine pfV_i hs2 (Nat.le_of_ble_eq_true rfl) (hp s _ (fun a e ha => ?_) (Or.inl ⟨s, q, g, .int 0, .int 0, rfl, tg_s _ _ _, tg_keep q1 (fun z => hsq z.symm), q2⟩))
    have has : a ≠ s := fun z => by rw [z, hs] at ha; cases ha
    have haq : a ≠ q := fun z => by
      rw [← z, tg_n _ _ has, tg_n _ _ has] at q0
      rw [q0] at ha; cases ha
    rw [tg_n _ _ has, q3 a haq, tg_n _ _ has, tg_n _ _ has]; exact ha
  refine ⟨fun z => absurd rfl z, fun _ => lenA_i (hv2 _ _) ⟨fun z => ?_, fun z => ?_⟩⟩
  · have z : nI k = nI c := z
    have ek := (nI_eq (by omega) (by omega)).mp z
    subst ek
    refine ⟨k, ⟨by omega, by omega⟩, v, k, f, rfl, hv2 _ _, Nat.le_refl _, hf, fun q hq => ⟨q, _, rfl, tg_s _ _ _, ?_⟩⟩
    exact fin q _ f hq (tg_s _ _ _) hf (fun a ha => tg_n _ _ ha)
  · refine ⟨1, k, by omega, by omega, ⟨fun _ => ⟨k, by omega, ⟨by omega, by omega⟩, k, ?_, Nat.le_refl _, fun q hq => ?_⟩, fun z => absurd (nI_le (a := 0) (b := k) (by omega) (by omega)) z⟩⟩
    · show (nI k - nI 0).toInt = _
      rw [nI_subN (by omega)]; exact nI_toInt (by omega)
    · have hvq : v ≠ q := fun z => by rw [← z] at hq; rw [hv2] at hq; cases hq
      have hv3 : tg_up (tg_up (tg_up G s (.inr (0, [.null, .int 0, .int 0, .int 0]))) s (.inr (0, [.null, .int 0, .int 0, .int 0]))) q (eB k fun _ => 0) v = some (eB c f) := tg_keep (hv2 _ _) hvq
      refine lenA_i hv3 (cpB_i (sp' := 0) (dp' := 0) (n' := k) rfl (Or.inl hv3) rfl (tg_s _ _ _) rfl rfl ?_ (by omega) (by omega) (by omega) (by omega) (fun i hi => by rw [Nat.zero_add]; exact hf i (by omega)) ?_)
      · show (if nI k - nI 0 < nI c - nI 0 then nI k - nI 0 else nI c - nI 0) = nI k
        rw [nI_subN (by omega), nI_subN (by omega)]
        by_cases q9 : k < c
        · rw [if_pos (nI_lt (by omega) (by omega))]; rfl
        · rw [if_neg (nI_nlt (by omega) (by omega))]; congr 1; omega
      · exact fin q _ _ hq (tg_s _ _ _) (bOK_cpy (fun i hi => by rw [Nat.zero_add]; exact hf i (by omega)) (bOK_0 k)) (fun a ha => by rw [tg_n _ _ ha, tg_n _ _ ha]; rfl)
/-- a new builder -/
theorem a_init {pv : tG → Prop} {o mc ms : Nat} (hG0 : G0 o = none) (he : ∀ a, a ≠ o → G a = G0 a) (ho : G o = some (.inr (1, [.null, .int 0, .int 0, .int 0]))) (hmc : 1 ≤ mc) (hms : 16 ≤ ms) (hp : ∀ G' v', ext G0 G' → SB G0 G' o v' 16 0 → pv G') : w_J4_init_da8c8 K mc ms pv (some o) G := by
  refine ⟨1, 16, by omega, by omega, ⟨o, rfl⟩, ⟨o, rfl⟩, fun z => absurd z (by decide), fun _ => ⟨16, by omega, ⟨by omega, by omega⟩, 16, rfl, Nat.le_refl _, fun v hv => ?_⟩⟩
  have hov : o ≠ v := fun z => by rw [z, hv] at ho; cases ho
  have hv0 : G0 v = none := by rw [← he v (fun z => hov z.symm)]; exact hv
  refine pfV_i (tg_keep ho hov) (Nat.le_of_ble_eq_true rfl) (pfV_i (tg_s _ _ _) (Nat.le_of_ble_eq_true rfl) (hp _ v ?_ ?_))
  · refine ext_up (ext_up (ext_up (fun a e ha => ?_) _ hv0) _ hG0) _ hG0
    rw [he a (fun z => by rw [z, hG0] at ha; cases ha)]; exact ha
  · exact ⟨⟨hG0, hv0⟩, ⟨0, tg_s _ _ _⟩, ⟨_, tg_keep (tg_keep (tg_s _ _ _) (fun z => hov z.symm)) (fun z => hov z.symm), bOK_0 16⟩, by omega⟩
end STB
end GRP23x1
section GRP23x2
/-! texts: the model's and the class -/
theorem groF_0 {c m : Nat} (h : m ≤ c) : groF c m = 0 := if_pos h
theorem capF_same {c m : Nat} (h : m ≤ c) : capF c m = c := if_pos h
theorem SB_rcv {G0 G : tG} {o v c k : Nat} {P : Prop} (h : SB G0 G o v c k) (hp : P) : rcv G (some o) 1 P := by
  obtain ⟨-, ⟨fl, ho⟩, -, -⟩ := h
  exact rcv_i ho hp
theorem TwR_ext {G G' : tG} {L : tL} {S : tS} (h : TwR G L S) (he : ext G G') : TwR G' L S := TwR_fr (P := fun _ => False) h (ext_fr he _) (fun _ _ z => z) (fun _ _ z => z.elim)
theorem MoR_ext {G G' : tG} {M : tM} {S : tS} {th : Int32} (h : MoR G M S th) (he : ext G G') : MoR G' M S th := MoR_fr (P := fun _ => False) h (ext_fr he _) (fun _ _ z => z)
section STC
variable {K : tK} {G : tG} {M : tM} {S : tS} {th : Int32}
theorem a_shown {post : Option Nat → tG → Prop} {x : Int32} {mc ms : Nat} (hK : KOK K) (hx : okV x) (hmc : 6 ≤ mc) (hms : 27 ≤ ms) (hp : ∀ r G' n, ext G G' → STR K G' r n → n ≤ 3 → post r G') : w_X3_shown K mc ms post x G := by
  refine ⟨fun c => ?_, fun _ => hp _ G 1 (ext_rf _) (STR_K hK.1) (by omega)⟩
  have hz := szF_in x
  refine ⟨⟨by omega, by omega⟩, fun o ho => ⟨1, 16, by omega, by omega, ⟨o, rfl⟩, a_init (G0 := G) ho (fun a ha => tg_n _ _ ha) (tg_s _ _ _) (Nat.le_refl _) (Nat.le_refl _) (fun G1 v1 x1 h1 => ?_)⟩⟩
  refine ⟨1, 0, by omega, by omega, SB_rcv h1 (a_appS (STR_K hK.2.1) (by omega) x1 h1 (by omega) (by omega) (Nat.le_refl _) (Nat.le_of_eq (groF_0 (by omega))) (fun G2 v2 x2 h2 => ?_))⟩
  rw [capF_same (by omega)] at h2
  refine ⟨1, 0, by omega, by omega, SB_rcv h2 (a_appI hK (hx.resolve_left c) x2 h2 (by omega) (by omega) (Nat.le_refl _) (Nat.le_of_eq (groF_0 (by omega))) (fun G3 v3 x3 h3 => ?_))⟩
  rw [capF_same (by omega)] at h3
  refine ⟨2, 4 + (0 + 0 + szF x), by omega, by omega, SB_rcv h3 (a_toString h3 (by omega) (Nat.le_refl _) (Nat.le_refl _) (fun s G4 x4 h4 => hp _ G4 _ (ext_tr x3 x4) h4 (by omega)))⟩
theorem m_line {post : Option Nat → tG → Prop} {v back : Int32} {mc ms : Nat} (hK : KOK K) (h : MoR G M S th) (hmc : 160 ≤ mc) (hms : 3200 ≤ ms) (h1 : S_at S v = none → ∀ x G', fr (moW M) G G' → MoR G' M S 1 → post x G') (h0 : ∀ j r b n, j < 7 → v = nI j → S.1 j = some (r, b, n) → ∀ x G', fr (moW M) G G' → MoR G' M S 0 → post x G') : w_X3_line K mc ms post (some M.1.1) v back G := by
  refine m_rcv h (m_isNoList h (fun c => ?_) (fun j r b n hj ev hs => ?_))
  · exact m_rcv h (m_fails h (fun G1 f1 g1 => ⟨fun z => absurd z (by decide), fun _ => h1 c _ G1 f1 g1⟩))
  · have hz0 := h0 j r b n hj ev hs
    subst ev
    have hn12 := (S_12 h.1 hj hs).2
    have hr3 := (S_12 h.1 hj hs).1
    refine m_rcv h (m_fails h (fun G1 f1 g1 => ⟨fun _ => ⟨⟨by omega, by omega⟩, m_rcv g1 (m_all g1 hj hs (fun q f G2 q0 q1 q2 q3 g2 => lenA_i q1 ?_))⟩, fun z => absurd (by decide) z⟩))
    have hval : ∀ t, t < n → okV (f t) := fun t ht => by rw [q2 t ht]; exact h.1.2.2 r _ hr3 (by omega)
    have main : ∀ (k i nc ns kk : Nat) (made : Option Nat) (G3 : tG), i + k = n → nc ≤ 1 + 13 * i → ns ≤ 12 + 260 * i → kk ≤ 4 * i → STR K G3 made kk → ext G2 G3 → w_X3_line_34 K mc ms post (k + 1) nc ns back made (some q) (nI n) (nI i) G3 := by
      intro k
      induction k with
      | zero =>
        intro i nc ns kk made G3 hi hnc hns hkk hst x3
        show w_X3_line_34_b K mc ms post (w_X3_line_34 K mc ms post 0) nc ns back made (some q) (nI n) (nI i) G3
        have e : i = n := by omega
        subst e
        exact ⟨fun _ => hz0 _ G3 (fr_tr (fr_al f1 q0 q3) (ext_fr x3 _)) (MoR_ext g2 x3), fun c => absurd (nI_le (by omega) (by omega)) c⟩
      | succ k ih =>
        intro i nc ns kk made G3 hi hnc hns hkk hst x3
        show w_X3_line_34_b K mc ms post (w_X3_line_34 K mc ms post (k + 1)) nc ns back made (some q) (nI n) (nI i) G3
        refine ⟨fun c => absurd c (nI_ge (by omega) (by omega)), fun _ => alI_i (x3 _ _ q1) rfl (by omega) (by omega) (s_rcv hst (s_isEmpty hst (by omega) ⟨fun _ => ⟨fun _ => ?_, fun _ => ?_⟩, fun _ => ?_⟩))⟩
        · -- behind what was made
          refine ⟨⟨by omega, by omega⟩, fun o ho => ⟨1, 16, by omega, by omega, ⟨o, rfl⟩, a_init (G0 := G3) ho (fun a ha => tg_n _ _ ha) (tg_s _ _ _) (Nat.le_refl _) (Nat.le_refl _) (fun G4 v4 x4 g4 => ?_)⟩⟩
          have c1 := cap_facts 16 (0 + kk)
          have b1 := c1.2.2.2 96 (by omega) (by omega)
          refine ⟨1, groF 16 (0 + kk), by omega, by omega, SB_rcv g4 (a_appS (STR_ext hst x4) (by omega) x4 g4 (by omega) (by omega) (Nat.le_refl _) (Nat.le_refl _) (fun G5 v5 x5 g5 => ?_))⟩
          have c2 := cap_facts (capF 16 (0 + kk)) (0 + kk + 1)
          have b2 := c2.2.2.2 96 (by omega) (by omega)
          refine ⟨1, groF (capF 16 (0 + kk)) (0 + kk + 1), by omega, by omega, SB_rcv g5 (a_appS (STR_K hK.2.2.1) (by omega) x5 g5 (by omega) (by omega) (Nat.le_refl _) (Nat.le_refl _) (fun G6 v6 x6 g6 => ?_))⟩
          refine ⟨6, 27, by omega, by omega, a_shown hK (hval i (by omega)) (Nat.le_refl _) (Nat.le_refl _) (fun rs G7 ns7 x7 st7 hn7 => ?_)⟩
          have g7 := SB_ext g6 x7
          have c3 := cap_facts (capF (capF 16 (0 + kk)) (0 + kk + 1)) (0 + kk + 1 + ns7)
          have b3 := c3.2.2.2 96 (by omega) (by omega)
          refine ⟨1, groF (capF (capF 16 (0 + kk)) (0 + kk + 1)) (0 + kk + 1 + ns7), by omega, by omega, SB_rcv g7 (a_appS st7 (by omega) (ext_tr x6 x7) g7 (by omega) (by omega) (Nat.le_refl _) (Nat.le_refl _) (fun G8 v8 x8 g8 => ?_))⟩
          refine ⟨2, 4 + (0 + kk + 1 + ns7), by omega, by omega, SB_rcv g8 (a_toString g8 (by omega) (Nat.le_refl _) (Nat.le_refl _) (fun s G9 x9 g9 => ?_))⟩
          show w_X3_line_34 K mc ms post (k + 1) _ _ back (some s) (some q) (nI n) (nI i + 1) G9
          rw [nI_1]
          exact ih (i + 1) _ _ (0 + kk + 1 + ns7) (some s) G9 (by omega) (by omega) (by omega) (by omega) g9 (ext_tr x3 (ext_tr x8 x9))
        · -- ahead of what was made
          refine ⟨⟨by omega, by omega⟩, fun o ho => ⟨1, 16, by omega, by omega, ⟨o, rfl⟩, a_init (G0 := G3) ho (fun a ha => tg_n _ _ ha) (tg_s _ _ _) (Nat.le_refl _) (Nat.le_refl _) (fun G4 v4 x4 g4 => ?_)⟩⟩
          refine ⟨6, 27, by omega, by omega, a_shown hK (hval i (by omega)) (Nat.le_refl _) (Nat.le_refl _) (fun rs G7 ns7 x7 st7 hn7 => ?_)⟩
          have g7 := SB_ext g4 x7
          have c1 := cap_facts 16 (0 + ns7)
          have b1 := c1.2.2.2 96 (by omega) (by omega)
          refine ⟨1, groF 16 (0 + ns7), by omega, by omega, SB_rcv g7 (a_appS st7 (by omega) (ext_tr x4 x7) g7 (by omega) (by omega) (Nat.le_refl _) (Nat.le_refl _) (fun G5 v5 x5 g5 => ?_))⟩
          have c2 := cap_facts (capF 16 (0 + ns7)) (0 + ns7 + 1)
          have b2 := c2.2.2.2 96 (by omega) (by omega)
          refine ⟨1, groF (capF 16 (0 + ns7)) (0 + ns7 + 1), by omega, by omega, SB_rcv g5 (a_appS (STR_K hK.2.2.1) (by omega) x5 g5 (by omega) (by omega) (Nat.le_refl _) (Nat.le_refl _) (fun G6 v6 x6 g6 => ?_))⟩
          have c3 := cap_facts (capF (capF 16 (0 + ns7)) (0 + ns7 + 1)) (0 + ns7 + 1 + kk)
          have b3 := c3.2.2.2 96 (by omega) (by omega)
          refine ⟨1, groF (capF (capF 16 (0 + ns7)) (0 + ns7 + 1)) (0 + ns7 + 1 + kk), by omega, by omega, SB_rcv g6 (a_appS (STR_ext hst x6) (by omega) x6 g6 (by omega) (by omega) (Nat.le_refl _) (Nat.le_refl _) (fun G8 v8 x8 g8 => ?_))⟩
          refine ⟨2, 4 + (0 + ns7 + 1 + kk), by omega, by omega, SB_rcv g8 (a_toString g8 (by omega) (Nat.le_refl _) (Nat.le_refl _) (fun s G9 x9 g9 => ?_))⟩
          show w_X3_line_34 K mc ms post (k + 1) _ _ back (some s) (some q) (nI n) (nI i + 1) G9
          rw [nI_1]
          exact ih (i + 1) _ _ (0 + ns7 + 1 + kk) (some s) G9 (by omega) (by omega) (by omega) (by omega) g9 (ext_tr x3 (ext_tr x8 x9))
        · refine ⟨6, 27, by omega, by omega, a_shown hK (hval i (by omega)) (Nat.le_refl _) (Nat.le_refl _) (fun rs G7 ns7 x7 st7 hn7 => ?_)⟩
          show w_X3_line_34 K mc ms post (k + 1) _ _ back rs (some q) (nI n) (nI i + 1) G7
          rw [nI_1]
          exact ih (i + 1) _ _ ns7 rs G7 (by omega) (by omega) (by omega) (by omega) st7 (ext_tr x3 x7)
    exact ⟨n + 1, main n 0 _ _ 0 _ G2 (by omega) (by omega) (by omega) (by omega) (STR_K hK.2.1) (ext_rf _)⟩
theorem m_text {post : Option Nat → tG → Prop} {v : Int32} {mc ms : Nat} (hK : KOK K) (h : MoR G M S th) (hmc : 160 ≤ mc) (hms : 3200 ≤ ms) (h1 : S_at S v = none → ∀ x G', fr (moW M) G G' → MoR G' M S 1 → post x G') (h0 : ∀ j r b n, j < 7 → v = nI j → S.1 j = some (r, b, n) → ∀ x G', fr (moW M) G G' → MoR G' M S 0 → post x G') : w_X3_text K mc ms post (some M.1.1) v G :=
  ⟨mc, ms, by omega, by omega, m_rcv h (m_line hK h hmc hms h1 h0)⟩
theorem m_back {post : Option Nat → tG → Prop} {v : Int32} {mc ms : Nat} (hK : KOK K) (h : MoR G M S th) (hmc : 160 ≤ mc) (hms : 3200 ≤ ms) (h1 : S_at S v = none → ∀ x G', fr (moW M) G G' → MoR G' M S 1 → post x G') (h0 : ∀ j r b n, j < 7 → v = nI j → S.1 j = some (r, b, n) → ∀ x G', fr (moW M) G G' → MoR G' M S 0 → post x G') : w_X3_back K mc ms post (some M.1.1) v G :=
  ⟨mc, ms, by omega, by omega, m_rcv h (m_line hK h hmc hms h1 h0)⟩
theorem m_walk {post : Option Nat → tG → Prop} {v p many back : Int32} {mc ms : Nat} (hK : KOK K) (h : MoR G M S th) (hmc : 200 ≤ mc) (hms : 6100 ≤ ms) (h1 : S_at S v = none → ∀ x G', fr (moW M) G G' → MoR G' M S 1 → post x G') (h2 : ∀ j r b n, j < 7 → v = nI j → S.1 j = some (r, b, n) → ¬ (inR p 0 (nI n) ∧ inR many 0 12) → ∀ x G', fr (moW M) G G' → MoR G' M S 2 → post x G') (h0 : ∀ j r b n, j < 7 → v = nI j → S.1 j = some (r, b, n) → inR p 0 (nI n) → inR many 0 12 → ∀ x G', fr (moW M) G G' → MoR G' M S 0 → post x G') : w_X3_walk K mc ms post (some M.1.1) v p many back G := by
  refine m_rcv h (m_isNoList h (fun c => ?_) (fun j r b n hj ev hs => ?_))
  · have hbad : ∀ u, w_X3_walk_30 K mc ms post 0 0 (some M.1.1) v p many back (some M.1.1) 1 u G := fun u => m_rcv h (m_fails h (fun G1 f1 g1 => ⟨fun z => absurd (show (1 : Int32) = 0 from z) (by decide), fun _ => h1 c _ G1 f1 g1⟩))
    exact m_rcv h (m_isBeyond h (fun _ => ⟨fun z => absurd rfl z, fun _ => m_isIn (fun _ => ⟨fun _ => hbad 0, fun z => absurd z (by decide)⟩) (fun _ => ⟨fun z => absurd rfl z, fun _ => hbad 1⟩)⟩) (fun j r b n hj ev hs _ => by subst ev; rw [S_at_nI S hj, hs] at c; cases c) (fun j r b n hj ev hs _ => by subst ev; rw [S_at_nI S hj, hs] at c; cases c))
  · have ec : S_at S v = some (r, b, n) := by rw [ev, S_at_nI S hj]; exact hs
    have hn12 := (S_12 h.1 hj hs).2
    have hr3 := (S_12 h.1 hj hs).1
    have other : ∀ {j2 r2 b2 n2}, j2 < 7 → v = nI j2 → S.1 j2 = some (r2, b2, n2) → n2 = n := fun {j2 r2 b2 n2} hj2 ev2 hs2 => by
      have e2 : S_at S v = some (r2, b2, n2) := by rw [ev2, S_at_nI S hj2]; exact hs2
      rw [ec] at e2; cases e2; rfl
    have hbad : ¬ (inR p 0 (nI n) ∧ inR many 0 12) → w_X3_walk_30 K mc ms post 0 0 (some M.1.1) v p many back (some M.1.1) 0 1 G := fun q => m_rcv h (m_fails h (fun G1 f1 g1 => ⟨fun z => absurd z (by decide), fun _ => h2 j r b n hj ev hs q _ G1 f1 g1⟩))
    have hgood : inR p 0 (nI n) → inR many 0 12 → w_X3_walk_30 K mc ms post 0 0 (some M.1.1) v p many back (some M.1.1) 0 0 G := fun q1 q2 => by
      have hz0 := h0 j r b n hj ev hs q1 q2
      obtain ⟨mn, hmn, emn⟩ := nI_of2 (M := 12) (n := 12) rfl q2.1 q2.2
      subst emn
      subst ev
      refine m_rcv h (m_fails h (fun G1 f1 g1 => ⟨fun _ => ?_, fun z => absurd (by decide) z⟩))
      have main : ∀ (k i nc ns kk : Nat) (at9 : Int32) (made : Option Nat) (G3 : tG), i + k = mn → nc ≤ 15 * i → ns ≤ 500 * i → kk ≤ 8 * i → STR K G3 made kk → ext G1 G3 → w_X3_walk_60 K mc ms post (k + 1) nc ns (some M.1.1) (nI j) (nI mn) back made at9 (nI i) G3 := by
        intro k
        induction k with
        | zero =>
          intro i nc ns kk at9 made G3 hi hnc hns hkk hst x3
          show w_X3_walk_60_b K mc ms post (w_X3_walk_60 K mc ms post 0) nc ns (some M.1.1) (nI j) (nI mn) back made at9 (nI i) G3
          have e : i = mn := by omega
          subst e
          exact ⟨fun _ => hz0 _ G3 (fr_tr f1 (ext_fr x3 _)) (MoR_ext g1 x3), fun c => absurd (nI_le (by omega) (by omega)) c⟩
        | succ k ih =>
          intro i nc ns kk at9 made G3 hi hnc hns hkk hst x3
          show w_X3_walk_60_b K mc ms post (w_X3_walk_60 K mc ms post (k + 1)) nc ns (some M.1.1) (nI j) (nI mn) back made at9 (nI i) G3
          have g3 := MoR_ext g1 x3
          refine ⟨fun c => absurd c (nI_ge (by omega) (by omega)), fun _ => m_len g3 hj hs (m_isIn (fun hin => ⟨fun z => absurd z (by decide), fun _ => ?_⟩) (fun _ => ⟨fun _ => hz0 _ G3 (fr_tr f1 (ext_fr x3 _)) g3, fun z => absurd rfl z⟩))⟩
          have hpl := (inR_pl (by omega)).mp hin
          obtain ⟨a, ha, ea⟩ := nI_of hin.1
          subst ea
          rw [nI_toInt ha] at hpl
          have han : a < n := by omega
          have hat : inR (nI a) (-99) 99 := ⟨by rw [i32_lt, nI_toInt ha]; have : (-99 : Int32).toInt = -99 := rfl; omega, by rw [i32_le, nI_toInt ha]; have : (99 : Int32).toInt = 99 := rfl; omega⟩
          have hz := szF_in (nI a)
          refine ⟨⟨by omega, by omega⟩, fun o ho => ⟨1, 16, by omega, by omega, ⟨o, rfl⟩, a_init (G0 := G3) ho (fun a ha => tg_n _ _ ha) (tg_s _ _ _) (Nat.le_refl _) (Nat.le_refl _) (fun G4 v4 x4 g4 => ?_)⟩⟩
          have c1 := cap_facts 16 (0 + kk)
          have b1 := c1.2.2.2 192 (by omega) (by omega)
          refine ⟨1, groF 16 (0 + kk), by omega, by omega, SB_rcv g4 (a_appS (STR_ext hst x4) (by omega) x4 g4 (by omega) (by omega) (Nat.le_refl _) (Nat.le_refl _) (fun G5 v5 x5 g5 => ?_))⟩
          have rest : ∀ (u : Option Nat) (nu : Nat), STR K G5 u nu → nu ≤ 1 → w_X3_walk_110 K mc ms post (w_X3_walk_60 K mc ms post (k + 1)) (nc + 1 + 1 + 1) (ns + 4 + 16 + groF 16 (0 + kk)) (some M.1.1) (nI j) (nI mn) back (nI a) (nI i) (some o) u G5 := by
            intro u nu hu hnu
            have c2 := cap_facts (capF 16 (0 + kk)) (0 + kk + nu)
            have b2 := c2.2.2.2 192 (by omega) (by omega)
            refine ⟨1, groF (capF 16 (0 + kk)) (0 + kk + nu), by omega, by omega, SB_rcv g5 (a_appS hu (by omega) x5 g5 (by omega) (by omega) (Nat.le_refl _) (Nat.le_refl _) (fun G6 v6 x6 g6 => ?_))⟩
            generalize hc6 : capF (capF 16 (0 + kk)) (0 + kk + nu) = cc6 at g6 c2 b2
            have c3 := cap_facts cc6 (0 + kk + nu + szF (nI a))
            have b3 := c3.2.2.2 192 (by omega) (by omega)
            refine ⟨1, groF cc6 (0 + kk + nu + szF (nI a)), by omega, by omega, SB_rcv g6 (a_appI hK hat x6 g6 (by omega) (by omega) (Nat.le_refl _) (Nat.le_refl _) (fun G7 v7 x7 g7 => ?_))⟩
            generalize hc7 : capF cc6 (0 + kk + nu + szF (nI a)) = cc7 at g7 c3 b3
            have c4 := cap_facts cc7 (0 + kk + nu + szF (nI a) + 1)
            have b4 := c4.2.2.2 192 (by omega) (by omega)
            refine ⟨1, groF cc7 (0 + kk + nu + szF (nI a) + 1), by omega, by omega, SB_rcv g7 (a_appS (STR_K hK.2.2.2.1) (by omega) x7 g7 (by omega) (by omega) (Nat.le_refl _) (Nat.le_refl _) (fun G8 v8 x8 g8 => ?_))⟩
            generalize hc8 : capF cc7 (0 + kk + nu + szF (nI a) + 1) = cc8 at g8 c4 b4
            have m8 := MoR_ext g3 x8
            refine m_rcv m8 (m_value m8 hj hs han ⟨6, 27, by omega, by omega, a_shown hK (h.1.2.2 r _ hr3 (by omega)) (Nat.le_refl _) (Nat.le_refl _) (fun rs G9 n9 x9 st9 hn9 => ?_)⟩)
            have g9 := SB_ext g8 x9
            have c5 := cap_facts cc8 (0 + kk + nu + szF (nI a) + 1 + n9)
            have b5 := c5.2.2.2 192 (by omega) (by omega)
            refine ⟨1, groF cc8 (0 + kk + nu + szF (nI a) + 1 + n9), by omega, by omega, SB_rcv g9 (a_appS st9 (by omega) (ext_tr x8 x9) g9 (by omega) (by omega) (Nat.le_refl _) (Nat.le_refl _) (fun Ga va xa ga => ?_))⟩
            generalize hc9 : capF cc8 (0 + kk + nu + szF (nI a) + 1 + n9) = cc9 at ga c5 b5
            refine ⟨2, 4 + (0 + kk + nu + szF (nI a) + 1 + n9), by omega, by omega, SB_rcv ga (a_toString ga (by omega) (Nat.le_refl _) (Nat.le_refl _) (fun s Gb xb gb => ?_))⟩
            have next : ∀ at9 : Int32, w_X3_walk_60 K mc ms post (k + 1) (nc + 1 + 1 + 1 + 1 + 1 + 1 + 6 + 1 + 2) (ns + 4 + 16 + groF 16 (0 + kk) + groF (capF 16 (0 + kk)) (0 + kk + nu) + groF cc6 (0 + kk + nu + szF (nI a)) + groF cc7 (0 + kk + nu + szF (nI a) + 1) + 27 + groF cc8 (0 + kk + nu + szF (nI a) + 1 + n9) + (4 + (0 + kk + nu + szF (nI a) + 1 + n9))) (some M.1.1) (nI j) (nI mn) back (some s) at9 (nI i + 1) Gb := fun at9 => by
              rw [nI_1]
              exact ih (i + 1) _ _ (0 + kk + nu + szF (nI a) + 1 + n9) at9 (some s) Gb (by omega) (by omega) (by omega) (by omega) gb (ext_tr x3 (ext_tr xa xb))
            exact ⟨fun _ => next _, fun _ => next _⟩
          exact s_rcv (STR_ext hst x5) (s_isEmpty (STR_ext hst x5) (by omega) ⟨fun _ => rest _ 1 (STR_K hK.2.2.1) (by omega), fun _ => rest _ 0 (STR_K hK.2.1) (by omega)⟩)
      exact ⟨fun _ => ⟨mn + 1, main mn 0 0 0 0 _ _ G1 (by omega) (by omega) (by omega) (by omega) (STR_K hK.2.1) (ext_rf _)⟩, fun _ => ⟨mn + 1, main mn 0 0 0 0 _ _ G1 (by omega) (by omega) (by omega) (by omega) (STR_K hK.2.1) (ext_rf _)⟩⟩
    refine m_rcv h (m_isBeyond h (fun c => ?_) (fun j2 r2 b2 n2 hj2 ev2 hs2 q => ⟨fun _ => hbad (fun z => q ?_), fun z => absurd z (by decide)⟩) (fun j2 r2 b2 n2 hj2 ev2 hs2 q => ⟨fun z => absurd rfl z, fun _ => m_isIn (fun hx => ⟨fun _ => hgood ?_ hx, fun z => absurd z (by decide)⟩) (fun hx => ⟨fun z => absurd rfl z, fun _ => hbad (fun z => hx z.2)⟩)⟩))
    · rw [ec] at c; cases c
    · rw [other hj2 ev2 hs2]; exact z.1
    · rw [other hj2 ev2 hs2] at q; exact q
end STC
end GRP23x2
section GRP23x3
/-! texts: the class's -/
def vzF (x : Int32) : Nat := if x = -1000 then 1 else szF x
theorem vzF_in (x : Int32) : 1 ≤ vzF x ∧ vzF x ≤ 3 := by
  unfold vzF
  split
  · omega
  · exact szF_in x
section STD
variable {K : tK} {G : tG} {L : tL} {S : tS} {postX : String → tG → Prop}
theorem c_appendValue {pv : tG → Prop} {G0 : tG} {o v c k mc ms : Nat} {x : Int32} (hK : KOK K) (hx : okV x) (h0 : ext G0 G) (h : SB G0 G o v c k) (hc : c < 5000) (hk : k < 1000) (hmc : 1 ≤ mc) (hms : groF c (k + vzF x) ≤ ms) (hp : ∀ G' v', ext G0 G' → SB G0 G' o v' (capF c (k + vzF x)) (k + vzF x) → pv G') : w_X1_appendValue K mc ms pv (some o) x G := by
  unfold vzF at hms hp
  refine ⟨fun q => ?_, fun q => ?_⟩
  · rw [if_neg q] at hms hp
    exact ⟨mc, ms, by omega, by omega, SB_rcv h (a_appI hK (hx.resolve_left q) h0 h hc hk hmc hms (fun G1 v1 x1 h1 => hp G1 v1 x1 h1))⟩
  · rw [if_pos q] at hms hp
    exact ⟨mc, ms, by omega, by omega, SB_rcv h (a_appC (by decide) h0 h hc hk hmc hms (fun G1 v1 x1 h1 => hp G1 v1 x1 h1))⟩
theorem c_textOf {post : Option Nat → tG → Prop} {o v b n N a st mc ms : Nat} {rr : Int32} {f : Nat → Int32} {back hpl9 : Int32} (hK : KOK K) (ho : G o = some (oRL rr v b n)) (hv : G v = some (eI N f)) (hN : N < 2 ^ 31) (hb : b + n ≤ N) (hok : ∀ i, i < n → okV (f (b + i))) (hn : n ≤ 12) (hst : st ≤ 12) (hpl : ∀ i, i < st → plF a back i < n ∧ (back ≠ 0 → i < a)) (hmc : 60 ≤ mc) (hms : 500 ≤ ms) (hp : ∀ s G', ext G G' → post (some s) G') : w_X1_textOf K mc ms post (some o) (nI a) (nI st) back hpl9 G := by
  refine ⟨⟨by omega, by omega⟩, fun q hq => ⟨1, 16, by omega, by omega, ⟨q, rfl⟩, a_init (G0 := G) hq (fun a ha => tg_n _ _ ha) (tg_s _ _ _) (Nat.le_refl _) (Nat.le_refl _) (fun G1 v1 x1 h1 => ?_)⟩⟩
  have main : ∀ (k i nc ns c kk v2 : Nat) (G2 : tG), i + k = st → nc ≤ 2 + 4 * i → ns + 16 ≤ 4 + 2 * c → c ≤ 192 → kk ≤ 8 * i → ext G G2 → SB G G2 q v2 c kk → w_X1_textOf_12 K mc ms post (k + 1) nc ns (some o) (nI a) (nI st) back hpl9 (some q) (nI i) G2 := by
    intro k
    induction k with
    | zero =>
      intro i nc ns c kk v2 G2 hi hnc hns hc hkk x2 h2
      show w_X1_textOf_12_b K mc ms post (w_X1_textOf_12 K mc ms post 0) nc ns (some o) (nI a) (nI st) back hpl9 (some q) (nI i) G2
      have e : i = st := by omega
      subst e
      exact ⟨fun _ => ⟨2, 4 + kk, by omega, by omega, SB_rcv h2 (a_toString h2 (by omega) (Nat.le_refl _) (Nat.le_refl _) (fun s G3 x3 _ => hp s G3 (ext_tr x2 x3)))⟩, fun z => absurd (nI_le (by omega) (by omega)) z⟩
    | succ k ih =>
      intro i nc ns c kk v2 G2 hi hnc hns hc hkk x2 h2
      show w_X1_textOf_12_b K mc ms post (w_X1_textOf_12 K mc ms post (k + 1)) nc ns (some o) (nI a) (nI st) back hpl9 (some q) (nI i) G2
      have hq := hpl i (by omega)
      refine ⟨fun z => absurd z (nI_ge (by omega) (by omega)), fun _ => c_placeAfter hq.2 ?_⟩
      generalize plF a back i = p9 at hq
      have hat : inR (nI p9) (-99) 99 := ⟨by rw [i32_lt, nI_toInt (by omega)]; have : (-99 : Int32).toInt = -99 := rfl; omega, by rw [i32_le, nI_toInt (by omega)]; have : (99 : Int32).toInt = 99 := rfl; omega⟩
      have hz := szF_in (nI p9)
      -- the value at the end of a step
      have s61 : ∀ (nc' ns' c' kk' v3 : Nat) (G3 : tG), nc' ≤ 2 + 4 * i + 3 → ns' + 16 ≤ 4 + 2 * c' → c' ≤ 192 → kk' ≤ 8 * i + 5 → ext G G3 → SB G G3 q v3 c' kk' → w_X1_textOf_61 K mc ms post (w_X1_textOf_12 K mc ms post (k + 1)) nc' ns' (some o) (nI a) (nI st) back hpl9 (some q) (nI i) (nI p9) G3 := by
        intro nc' ns' c' kk' v3 G3 hnc' hns' hc' hkk' x3 h3
        have hv3 := vzF_in (f (b + p9))
        have cf := cap_facts c' (kk' + vzF (f (b + p9)))
        have b4 := cf.2.2.2 192 (by omega) (by omega)
        refine rcv_i (x3 _ _ ho) (l_read (x3 _ _ ho) (x3 _ _ hv) rfl (by omega) hN ⟨1, groF c' (kk' + vzF (f (b + p9))), by omega, by omega, c_appendValue hK (hok _ hq.1) x3 h3 (by omega) (by omega) (Nat.le_refl _) (Nat.le_refl _) (fun G4 v4 x4 h4 => ?_)⟩)
        rw [nI_1]
        exact ih (i + 1) _ _ _ _ v4 G4 (by omega) (by omega) (by omega) b4 (by omega) x4 h4
      have s40 : ∀ (nc' ns' c' kk' v3 : Nat) (G3 : tG), nc' ≤ 2 + 4 * i + 1 → ns' + 16 ≤ 4 + 2 * c' → c' ≤ 192 → kk' ≤ 8 * i + 1 → ext G G3 → SB G G3 q v3 c' kk' → w_X1_textOf_40 K mc ms post (w_X1_textOf_12 K mc ms post (k + 1)) nc' ns' (some o) (nI a) (nI st) back hpl9 (some q) (nI i) (nI p9) G3 := by
        intro nc' ns' c' kk' v3 G3 hnc' hns' hc' hkk' x3 h3
        refine ⟨fun _ => s61 nc' ns' c' kk' v3 G3 (by omega) hns' hc' (by omega) x3 h3, fun _ => ?_⟩
        have cf := cap_facts c' (kk' + szF (nI p9))
        have b4 := cf.2.2.2 192 (by omega) (by omega)
        refine ⟨1, groF c' (kk' + szF (nI p9)), by omega, by omega, SB_rcv h3 (a_appI hK hat x3 h3 (by omega) (by omega) (Nat.le_refl _) (Nat.le_refl _) (fun G4 v4 x4 h4 => ?_))⟩
        have cg := cap_facts (capF c' (kk' + szF (nI p9))) (kk' + szF (nI p9) + 1)
        have b5 := cg.2.2.2 192 (by omega) (by omega)
        refine ⟨1, groF (capF c' (kk' + szF (nI p9))) (kk' + szF (nI p9) + 1), by omega, by omega, SB_rcv h4 (a_appC (by decide) x4 h4 (by omega) (by omega) (Nat.le_refl _) (Nat.le_refl _) (fun G5 v5 x5 h5 => ?_))⟩
        exact s61 _ _ _ _ v5 G5 (by omega) (by omega) b5 (by omega) x5 h5
      refine ⟨fun _ => s40 nc ns c kk v2 G2 (by omega) hns hc (by omega) x2 h2, fun _ => ?_⟩
      have cf := cap_facts c (kk + 1)
      have b4 := cf.2.2.2 192 (by omega) (by omega)
      exact ⟨1, groF c (kk + 1), by omega, by omega, SB_rcv h2 (a_appC (by decide) x2 h2 (by omega) (by omega) (Nat.le_refl _) (Nat.le_refl _) (fun G4 v4 x4 h4 => s40 _ _ _ _ v4 G4 (by omega) (by omega) b4 (by omega) x4 h4))⟩
  exact ⟨st + 1, main st 0 _ _ 16 0 v1 G1 (by omega) (by omega) (by omega) (by omega) (by omega) x1 h1⟩
theorem c_text {post : Option Nat → tG → Prop} {v : Int32} {mc ms : Nat} (hK : KOK K) (h : TwR G L S) (hmc : 70 ≤ mc) (hms : 600 ≤ ms) (h1 : S_at S v = none → postX "java/lang/IndexOutOfBoundsException" G) (h0 : ∀ r b n, S_at S v = some (r, b, n) → ∀ x G', fr (clsW L) G G' → TwR G' L S → post x G') : w_X1_text K mc ms post postX (some L.1) v G := by
  refine ⟨⟨by omega, by omega⟩, c_rcv h (c_listAt h h1 (fun o r b n c1 c2 c3 c4 => gfI_i c2 rfl ⟨60, 500, by omega, by omega, ?_⟩))⟩
  exact c_textOf (a := 0) hK c2 (h.2.2.2.1 r c3) (by decide) c4 (fun i hi => h.1.2.2 r _ c3 (by omega)) (by omega) (by omega) (fun i hi => ⟨by unfold plF; rw [if_pos rfl]; omega, fun z => absurd rfl z⟩) (Nat.le_refl _) (Nat.le_refl _) (fun s G' x => h0 r b n c1 _ G' (ext_fr x _) (TwR_ext h x))
theorem c_back {post : Option Nat → tG → Prop} {v : Int32} {mc ms : Nat} (hK : KOK K) (h : TwR G L S) (hmc : 70 ≤ mc) (hms : 600 ≤ ms) (h1 : S_at S v = none → postX "java/lang/IndexOutOfBoundsException" G) (h0 : ∀ r b n, S_at S v = some (r, b, n) → ∀ x G', fr (clsW L) G G' → TwR G' L S → post x G') : w_X1_back K mc ms post postX (some L.1) v G := by
  refine ⟨⟨by omega, by omega⟩, c_rcv h (c_listAt h h1 (fun o r b n c1 c2 c3 c4 => gfI_i c2 rfl (gfI_i c2 rfl ⟨60, 500, by omega, by omega, ?_⟩)))⟩
  exact c_textOf (a := n) hK c2 (h.2.2.2.1 r c3) (by decide) c4 (fun i hi => h.1.2.2 r _ c3 (by omega)) (by omega) (by omega) (fun i hi => ⟨by unfold plF; rw [if_neg (by decide)]; omega, fun _ => hi⟩) (Nat.le_refl _) (Nat.le_refl _) (fun s G' x => h0 r b n c1 _ G' (ext_fr x _) (TwR_ext h x))
theorem c_walk {post : Option Nat → tG → Prop} {v p many back : Int32} {mc ms : Nat} (hK : KOK K) (h : TwR G L S) (hmc : 70 ≤ mc) (hms : 600 ≤ ms) (h1 : S_at S v = none → postX "java/lang/IndexOutOfBoundsException" G) (h2 : ∀ r b n, S_at S v = some (r, b, n) → ¬ (inR p 0 (nI n) ∧ inR many 0 12) → postX "java/lang/IllegalArgumentException" G) (h0 : ∀ r b n, S_at S v = some (r, b, n) → inR p 0 (nI n) → inR many 0 12 → ∀ x G', fr (clsW L) G G' → TwR G' L S → post x G') : w_X1_walk K mc ms post postX (some L.1) v p many back G := by
  refine ⟨⟨by omega, by omega⟩, c_rcv h (c_listAt h h1 (fun o r b n c1 c2 c3 c4 => gfI_i c2 rfl ⟨⟨by omega, by omega⟩, c_checkNumber (fun q1 => ⟨⟨by omega, by omega⟩, c_checkNumber (fun q2 => ?_) (fun q2 => h2 r b n c1 (fun z => q2 z.2))⟩) (fun q1 => h2 r b n c1 (fun z => q1 z.1))⟩))⟩
  have hz0 := h0 r b n c1 q1 q2
  obtain ⟨a, ha, rfl⟩ := nI_of2 (nI_toInt (n := n) (by omega)) q1.1 q1.2
  obtain ⟨mn, hmn, rfl⟩ := nI_of2 (M := 12) (n := 12) rfl q2.1 q2.2
  have fin : ∀ sl : Nat, sl ≤ n → (∀ i, i < sl → plF a back i < n ∧ (back ≠ 0 → i < a)) → bud (0 + 1 + 1 + 1) (0 + 6 + 6 + 6) mc ms (fun mc_46 ms_46 => w_X1_textOf K mc_46 ms_46 (fun x_46 G_46 => post x_46 G_46) (some o) (nI a) (if nI sl < nI mn then nI sl else nI mn) back 1 G) := fun sl hsl hpl => by
    have e : (if nI sl < nI mn then nI sl else nI mn) = nI (min sl mn) := by
      by_cases c : sl < mn
      · rw [if_pos (nI_lt c (by omega)), Nat.min_eq_left (by omega)]
      · rw [if_neg (nI_nlt (by omega) (by omega)), Nat.min_eq_right (by omega)]
    rw [e]
    refine ⟨60, 500, by omega, by omega, ?_⟩
    exact c_textOf (a := a) hK c2 (h.2.2.2.1 r c3) (by decide) c4 (fun i hi => h.1.2.2 r _ c3 (by omega)) (by omega) (by omega) (fun i hi => hpl i (by omega)) (Nat.le_refl _) (Nat.le_refl _) (fun s G' x => hz0 _ G' (ext_fr x _) (TwR_ext h x))
  refine ⟨fun cb => gfI_i c2 rfl ?_, fun cb => ?_⟩
  · show bud (0 + 1 + 1 + 1) (0 + 6 + 6 + 6) mc ms (fun mc_46 ms_46 => w_X1_textOf K mc_46 ms_46 (fun x_46 G_46 => post x_46 G_46) (some o) (nI a) (if (nI n - nI a) < nI mn then (nI n - nI a) else nI mn) back 1 G)
    rw [nI_subN ha]
    exact fin (n - a) (by omega) (fun i hi => ⟨by unfold plF; rw [if_pos cb]; omega, fun z => absurd cb z⟩)
  · exact fin a ha (fun i hi => ⟨by unfold plF; rw [if_neg cb]; omega, fun _ => hi⟩)
end STD
end GRP23x3
section GRP23x4
/-! the class, the model and the law's own cell together -/
theorem tg_none {G : tG} {a b : Nat} {e : tE} (h : tg_up G a e b = none) : b ≠ a ∧ G b = none := by
  by_cases c : b = a
  · rw [c, tg_s] at h; cases h
  · rw [tg_n _ _ c] at h; exact ⟨c, h⟩
theorem tg_up_up (G : tG) (a : Nat) (e e' : tE) : tg_up (tg_up G a e) a e' = tg_up G a e' := by
  funext b
  by_cases c : b = a
  · rw [c, tg_s, tg_s]
  · rw [tg_n _ _ c, tg_n _ _ c, tg_n _ _ c]
theorem TwR_some {G : tG} {L : tL} {S : tS} (h : TwR G L S) {q : Nat} (hq : clsW L q) : ∃ e, G q = some e := by
  obtain ⟨h1, ⟨lf, h2, h3, h4⟩, ⟨g, h5⟩, h6, -, -⟩ := h
  rcases hq with e | e | e | e | e | e <;> subst e
  · exact ⟨_, h2⟩
  · exact ⟨_, h3⟩
  · exact ⟨_, h5⟩
  · exact ⟨_, h6 0 (by omega)⟩
  · exact ⟨_, h6 1 (by omega)⟩
  · exact ⟨_, h6 2 (by omega)⟩
theorem MoC_obj {G : tG} {M : tM} {S : tS} {th : Int32} (h : MoC G M S th) {q ci : Nat} {fs : List Value} (hq : G q = some (.inr (ci, fs))) (hci : ci ≠ 5) : ¬ moW M q := by
  obtain ⟨⟨sm, h2⟩, ⟨mf, h3, -⟩, ⟨fo, fb, fl, ⟨h5, h6, h7⟩, -⟩, h9, -⟩ := h
  rintro (e | e | e | e | e | e | e | e) <;> subst e
  · rw [h2] at hq; cases hq; exact hci rfl
  · rw [h3] at hq; cases hq
  · rw [h5] at hq; cases hq
  · rw [h6] at hq; cases hq
  · rw [h7] at hq; cases hq
  · obtain ⟨f, g, -⟩ := h9 0 (by omega); rw [g] at hq; cases hq
  · obtain ⟨f, g, -⟩ := h9 1 (by omega); rw [g] at hq; cases hq
  · obtain ⟨f, g, -⟩ := h9 2 (by omega); rw [g] at hq; cases hq
abbrev oOut (n : Int64) (s : Value) : tE := .inr (4, [.long n, s])
/-- the class's rows S, the model's rows S', what the model threw, what Out holds -/
def Bo (G : tG) (L : tL) (M : tM) (S S' : tS) (th : Int32) (u : Nat) (n : Int64) (s : Value) : Prop := TwR G L S ∧ MoR G M S' th ∧ G u = some (oOut n s) ∧ ∀ q, clsW L q → ¬ moW M q
section BOA
variable {G : tG} {L : tL} {M : tM} {S S' : tS} {th : Int32} {u : Nat} {n : Int64} {s : Value}
theorem Bo_cls {G' : tG} {S2 : tS} (h : Bo G L M S S' th u n s) (hf : fr (clsW L) G G') (ht : TwR G' L S2) : Bo G' L M S2 S' th u n s := by
  obtain ⟨h1, h2, h3, h4⟩ := h
  exact ⟨ht, MoR_fr h2 hf (fun q hq hc => h4 q hc hq), hf _ _ h3 (TwR_obj h1 h3 (by decide)), h4⟩
theorem Bo_mod {G' : tG} {M' : tM} {S2 : tS} {th2 : Int32} (h : Bo G L M S S' th u n s) (hf : fr (moW M) G G') (hw : ∀ q, moW M' q → moW M q ∨ G q = none) (ht : MoR G' M' S2 th2) : Bo G' L M' S S2 th2 u n s := by
  obtain ⟨h1, h2, h3, h4⟩ := h
  refine ⟨TwR_fr h1 hf h4 (fun q fs hq hg => MoC_obj (MoR_C h2) hg (by decide) hq), ht, hf _ _ h3 (MoC_obj (MoR_C h2) h3 (by decide)), fun q hq hm => ?_⟩
  rcases hw q hm with c | c
  · exact h4 q hq c
  · obtain ⟨e, he⟩ := TwR_some h1 hq
    rw [c] at he; cases he
theorem Bo_out (h : Bo G L M S S' th u n s) (n2 : Int64) (s2 : Value) : Bo (tg_up G u (oOut n2 s2)) L M S S' th u n2 s2 := by
  obtain ⟨h1, h2, h3, h4⟩ := h
  have hu : ¬ clsW L u := TwR_obj h1 h3 (by decide)
  have hm : ¬ moW M u := MoC_obj (MoR_C h2) h3 (by decide)
  refine ⟨TwR_fr (P := fun q => q = u) h1 (fr_up _ rfl) (fun q hq e => hu (e ▸ hq)) (fun q fs e hg => ?_), MoR_fr (P := fun q => q = u) h2 (fr_up _ rfl) (fun q hq e => hm (e ▸ hq)), tg_s _ _ _, h4⟩
  rw [e, h3] at hg; cases hg
/-- what a wrapper makes of the class's answer: an int -/
theorem L_res {a : tA} {post : Int32 → tG → Prop} (h : Bo G L M S S' th u n s) (ha : a.1 < 3) (hp : ∀ G' n', Bo G' L M a.2.2 S' th u n' s → (a.1 = 0 → n' = a.2.1.toInt64) → post (nI a.1) G') : tRes L G (fun x G_6 => pfV G_6 (some u) 4 0 (.long x.toInt64) (fun G_10 => post 0 G_10)) (fun E GX => ((E = "java/lang/IndexOutOfBoundsException" → post 1 GX) ∧ (¬ E = "java/lang/IndexOutOfBoundsException" → ((E = "java/lang/IllegalArgumentException" → post 2 GX) ∧ (¬ E = "java/lang/IllegalArgumentException" → False))))) a := by
  intro G' f h'
  have hb := Bo_cls h f h'
  refine ⟨fun e => ?_, fun e => ⟨fun _ => ?_, fun z => absurd rfl z⟩, fun e => ⟨fun z => absurd z (by decide), fun _ => ⟨fun _ => ?_, fun z => absurd rfl z⟩⟩⟩
  · refine pfV_i hb.2.2.1 (Nat.le_of_ble_eq_true rfl) ?_
    have := hp _ _ (Bo_out hb a.2.1.toInt64 s) (fun _ => rfl)
    rw [e] at this; exact this
  · have := hp _ _ hb (fun z => absurd (e.symm.trans z) (by decide))
    rw [e] at this; exact this
  · have := hp _ _ hb (fun z => absurd (e.symm.trans z) (by decide))
    rw [e] at this; exact this
/-- an int, one kind of refusal alone -/
theorem L_res1 {a : tA} {post : Int32 → tG → Prop} (h : Bo G L M S S' th u n s) (ha : a.1 < 2) (hp : ∀ G' n', Bo G' L M a.2.2 S' th u n' s → (a.1 = 0 → n' = a.2.1.toInt64) → post (nI a.1) G') : tRes L G (fun x G_6 => pfV G_6 (some u) 4 0 (.long x.toInt64) (fun G_10 => post 0 G_10)) (fun E GX => ((E = "java/lang/IndexOutOfBoundsException" → post 1 GX) ∧ (¬ E = "java/lang/IndexOutOfBoundsException" → False))) a := by
  intro G' f h'
  have hb := Bo_cls h f h'
  refine ⟨fun e => ?_, fun e => ⟨fun _ => ?_, fun z => absurd rfl z⟩, fun e => absurd e (by omega)⟩
  · refine pfV_i hb.2.2.1 (Nat.le_of_ble_eq_true rfl) ?_
    have := hp _ _ (Bo_out hb a.2.1.toInt64 s) (fun _ => rfl)
    rw [e] at this; exact this
  · have := hp _ _ hb (fun z => absurd (e.symm.trans z) (by decide))
    rw [e] at this; exact this
/-- an int, the other kind of refusal alone, told as 1 -/
theorem L_res2 {a : tA} {post : Int32 → tG → Prop} (h : Bo G L M S S' th u n s) (ha : a.1 = 0 ∨ a.1 = 2) (hp : ∀ G' n', Bo G' L M a.2.2 S' th u n' s → (a.1 = 0 → n' = a.2.1.toInt64) → post (if a.1 = 0 then 0 else 1) G') : tRes L G (fun x G_6 => pfV G_6 (some u) 4 0 (.long x.toInt64) (fun G_10 => post 0 G_10)) (fun E GX => ((E = "java/lang/IllegalArgumentException" → post 1 GX) ∧ (¬ E = "java/lang/IllegalArgumentException" → False))) a := by
  intro G' f h'
  have hb := Bo_cls h f h'
  refine ⟨fun e => ?_, fun e => absurd e (by omega), fun e => ⟨fun _ => ?_, fun z => absurd rfl z⟩⟩
  · refine pfV_i hb.2.2.1 (Nat.le_of_ble_eq_true rfl) ?_
    have := hp _ _ (Bo_out hb a.2.1.toInt64 s) (fun _ => rfl)
    rw [e] at this; exact this
  · have := hp _ _ hb (fun z => absurd (e.symm.trans z) (by decide))
    rw [e] at this; exact this
/-- a truth value -/
theorem L_resB {a : tA} {post : Int32 → tG → Prop} (h : Bo G L M S S' th u n s) (ha : a.1 < 3) (hp : ∀ G' n', Bo G' L M a.2.2 S' th u n' s → (a.1 = 0 → n' = if a.2.1 = 0 then 0 else 1) → post (nI a.1) G') : tRes L G (fun x G_4 => ((x = 0 → pfV G_4 (some u) 4 0 (.long 0) (fun G_15 => post 0 G_15)) ∧ (¬ x = 0 → pfV G_4 (some u) 4 0 (.long 1) (fun G_15 => post 0 G_15)))) (fun E GX => ((E = "java/lang/IndexOutOfBoundsException" → post 1 GX) ∧ (¬ E = "java/lang/IndexOutOfBoundsException" → ((E = "java/lang/IllegalArgumentException" → post 2 GX) ∧ (¬ E = "java/lang/IllegalArgumentException" → False))))) a := by
  intro G' f h'
  have hb := Bo_cls h f h'
  refine ⟨fun e => ⟨fun c => ?_, fun c => ?_⟩, fun e => ⟨fun _ => ?_, fun z => absurd rfl z⟩, fun e => ⟨fun z => absurd z (by decide), fun _ => ⟨fun _ => ?_, fun z => absurd rfl z⟩⟩⟩
  · refine pfV_i hb.2.2.1 (Nat.le_of_ble_eq_true rfl) ?_
    have := hp _ _ (Bo_out hb 0 s) (fun _ => by rw [if_pos c])
    rw [e] at this; exact this
  · refine pfV_i hb.2.2.1 (Nat.le_of_ble_eq_true rfl) ?_
    have := hp _ _ (Bo_out hb 1 s) (fun _ => by rw [if_neg c])
    rw [e] at this; exact this
  · have := hp _ _ hb (fun z => absurd (e.symm.trans z) (by decide))
    rw [e] at this; exact this
  · have := hp _ _ hb (fun z => absurd (e.symm.trans z) (by decide))
    rw [e] at this; exact this
theorem L_resB1 {a : tA} {post : Int32 → tG → Prop} (h : Bo G L M S S' th u n s) (ha : a.1 < 2) (hp : ∀ G' n', Bo G' L M a.2.2 S' th u n' s → (a.1 = 0 → n' = if a.2.1 = 0 then 0 else 1) → post (nI a.1) G') : tRes L G (fun x G_4 => ((x = 0 → pfV G_4 (some u) 4 0 (.long 0) (fun G_15 => post 0 G_15)) ∧ (¬ x = 0 → pfV G_4 (some u) 4 0 (.long 1) (fun G_15 => post 0 G_15)))) (fun E GX => ((E = "java/lang/IndexOutOfBoundsException" → post 1 GX) ∧ (¬ E = "java/lang/IndexOutOfBoundsException" → False))) a := by
  intro G' f h'
  have hb := Bo_cls h f h'
  refine ⟨fun e => ⟨fun c => ?_, fun c => ?_⟩, fun e => ⟨fun _ => ?_, fun z => absurd rfl z⟩, fun e => absurd e (by omega)⟩
  · refine pfV_i hb.2.2.1 (Nat.le_of_ble_eq_true rfl) ?_
    have := hp _ _ (Bo_out hb 0 s) (fun _ => by rw [if_pos c])
    rw [e] at this; exact this
  · refine pfV_i hb.2.2.1 (Nat.le_of_ble_eq_true rfl) ?_
    have := hp _ _ (Bo_out hb 1 s) (fun _ => by rw [if_neg c])
    rw [e] at this; exact this
  · have := hp _ _ hb (fun z => absurd (e.symm.trans z) (by decide))
    rw [e] at this; exact this
/-- the model's answer -/
theorem L_mod {a : tA} {post : Int32 → tG → Prop} (h : Bo G L M S S' th u n s) (hp : ∀ G' M', M'.1 = M.1 → Bo G' L M' S a.2.2 (nI a.1) u n s → post a.2.1 G') : mRes M G post a := by
  intro G' M' e f w h'
  exact hp G' M' e (Bo_mod h f w h')
end BOA
/-! the model's constructor -/
def foI : Nat → Int32 := upd (upd (upd (upd (upd (upd (upd (fun _ => 0) 0 0) 1 1) 2 2) 3 (-1)) 4 (-1)) 5 (-1)) 6 (-1)
def flI : Nat → Int32 := upd (upd (upd (upd (upd (upd (upd (fun _ => 0) 0 4) 1 4) 2 4) 3 0) 4 0) 5 0) 6 0
theorem m_init {K : tK} {G : tG} {x : Nat} {pv : tG → Prop} (hx : G x = some (.inr (5, [.null, .null, .null, .null, .int 0, .int 0, .int 0, .long 0]))) (hp : ∀ G' M, M.1.1 = x → MoR G' M S_0 0 → fr (fun q => q = x) G G' → (∀ q, moW M q → q = x ∨ G q = none) → pv G') : w_X3_init K pv (some x) G := by
  refine ⟨⟨x, rfl⟩, 3, rfl, by omega, fun A hA => ?_⟩
  have xA : x ≠ A := fun z => by rw [← z, hx] at hA; cases hA
  refine ⟨4, rfl, by omega, fun p0 hp0 => ⟨(fun z => (by cases z)), ?_⟩⟩
  obtain ⟨a0, g0⟩ := tg_none hp0
  have x0 : x ≠ p0 := fun z => by rw [← z, hx] at g0; cases g0
  refine asR_i (j := 0) (tg_keep (tg_s _ _ _) (fun z => a0 z.symm)) rfl (by omega) (by omega) (Or.inr ⟨p0, _, rfl, tg_s _ _ _, ⟨_, rfl⟩⟩) ?_
  refine ⟨4, rfl, by omega, fun p1 hp1 => ⟨(fun z => (by cases z)), ?_⟩⟩
  obtain ⟨a1, b1⟩ := tg_none hp1
  obtain ⟨n10, b1⟩ := tg_none b1
  obtain ⟨-, g1⟩ := tg_none b1
  have x1 : x ≠ p1 := fun z => by rw [← z, hx] at g1; cases g1
  refine asR_i (j := 1) (tg_keep (tg_s _ _ _) (fun z => a1 z.symm)) rfl (by omega) (by omega) (Or.inr ⟨p1, _, rfl, tg_s _ _ _, ⟨_, rfl⟩⟩) ?_
  refine ⟨4, rfl, by omega, fun p2 hp2 => ⟨(fun z => (by cases z)), ?_⟩⟩
  obtain ⟨a2, b2⟩ := tg_none hp2
  obtain ⟨n21, b2⟩ := tg_none b2
  obtain ⟨-, b2⟩ := tg_none b2
  obtain ⟨n20, b2⟩ := tg_none b2
  obtain ⟨-, g2⟩ := tg_none b2
  have x2 : x ≠ p2 := fun z => by rw [← z, hx] at g2; cases g2
  refine asR_i (j := 2) (tg_keep (tg_s _ _ _) (fun z => a2 z.symm)) rfl (by omega) (by omega) (Or.inr ⟨p2, _, rfl, tg_s _ _ _, ⟨_, rfl⟩⟩) ?_
  -- what stands now
  generalize hG7 : tg_up (tg_up (tg_up (tg_up (tg_up (tg_up (tg_up G A _) p0 _) A _) p1 _) A _) p2 _) A _ = G7
  have kx : G7 x = some (.inr (5, [.null, .null, .null, .null, .int 0, .int 0, .int 0, .long 0])) := by
    rw [← hG7, tg_n _ _ xA, tg_n _ _ x2, tg_n _ _ xA, tg_n _ _ x1, tg_n _ _ xA, tg_n _ _ x0, tg_n _ _ xA]; exact hx
  have kA : ∃ mf, G7 A = some (eR mf) ∧ mf 0 = some p0 ∧ mf 1 = some p1 ∧ mf 2 = some p2 := by
    rw [← hG7, tg_s]
    exact ⟨_, rfl, rfl, rfl, rfl⟩
  have k0 : G7 p0 = some (eI 4 fun _ => 0) := by
    rw [← hG7, tg_n _ _ a0, tg_n _ _ n20.symm, tg_n _ _ a0, tg_n _ _ n10.symm, tg_n _ _ a0, tg_s]
  have k1 : G7 p1 = some (eI 4 fun _ => 0) := by
    rw [← hG7, tg_n _ _ a1, tg_n _ _ n21.symm, tg_n _ _ a1, tg_s]
  have k2 : G7 p2 = some (eI 4 fun _ => 0) := by
    rw [← hG7, tg_n _ _ a2, tg_s]
  have kf : fr (fun q => q = x) G G7 := fun q e hq _ => by
    have hn : ∀ y, G y = none → q ≠ y := fun y hy z => by rw [z, hy] at hq; cases hq
    rw [← hG7, tg_n _ _ (hn A hA), tg_n _ _ (hn p2 g2), tg_n _ _ (hn A hA), tg_n _ _ (hn p1 g1), tg_n _ _ (hn A hA), tg_n _ _ (hn p0 g0), tg_n _ _ (hn A hA)]; exact hq
  have kn : ∀ q, G7 q = none → G q = none := fun q hq => by
    rw [← hG7] at hq
    obtain ⟨-, hq⟩ := tg_none hq
    obtain ⟨-, hq⟩ := tg_none hq
    obtain ⟨-, hq⟩ := tg_none hq
    obtain ⟨-, hq⟩ := tg_none hq
    obtain ⟨-, hq⟩ := tg_none hq
    obtain ⟨-, hq⟩ := tg_none hq
    exact (tg_none hq).2
  clear hG7 hp0 hp1 hp2
  obtain ⟨mf, kA, m0, m1, m2⟩ := kA
  refine pfV_i kx (Nat.le_of_ble_eq_true rfl) ⟨7, rfl, by omega, fun fo hfo => ?_⟩
  obtain ⟨xfo, hfo⟩ := tg_none hfo
  have nefo : ∀ {y e}, G7 y = some e → y ≠ fo := fun hy z => by rw [z, hfo] at hy; cases hy
  refine asI_i (j := 0) (tg_s _ _ _) rfl (by omega) (by omega) ?_
  rw [tg_up_up]
  refine asI_i (j := 1) (tg_s _ _ _) rfl (by omega) (by omega) ?_
  rw [tg_up_up]
  refine asI_i (j := 2) (tg_s _ _ _) rfl (by omega) (by omega) ?_
  rw [tg_up_up]
  refine asI_i (j := 3) (tg_s _ _ _) rfl (by omega) (by omega) ?_
  rw [tg_up_up]
  refine asI_i (j := 4) (tg_s _ _ _) rfl (by omega) (by omega) ?_
  rw [tg_up_up]
  refine asI_i (j := 5) (tg_s _ _ _) rfl (by omega) (by omega) ?_
  rw [tg_up_up]
  refine asI_i (j := 6) (tg_s _ _ _) rfl (by omega) (by omega) ?_
  rw [tg_up_up]
  refine pfV_i (tg_keep (tg_s _ _ _) (fun z => xfo z.symm)) (Nat.le_of_ble_eq_true rfl) ⟨7, rfl, by omega, fun fb hfb => ?_⟩
  obtain ⟨xfb, hfb⟩ := tg_none hfb
  obtain ⟨nfbfo, hfb⟩ := tg_none hfb
  obtain ⟨-, hfb⟩ := tg_none hfb
  have nefb : ∀ {y e}, G7 y = some e → y ≠ fb := fun hy z => by rw [z, hfb] at hy; cases hy
  refine pfV_i (tg_keep (tg_s _ _ _) (fun z => xfb z.symm)) (Nat.le_of_ble_eq_true rfl) ⟨7, rfl, by omega, fun fl hfl => ?_⟩
  obtain ⟨xfl, hfl⟩ := tg_none hfl
  obtain ⟨nflfb, hfl⟩ := tg_none hfl
  obtain ⟨-, hfl⟩ := tg_none hfl
  obtain ⟨nflfo, hfl⟩ := tg_none hfl
  obtain ⟨-, hfl⟩ := tg_none hfl
  have nefl : ∀ {y e}, G7 y = some e → y ≠ fl := fun hy z => by rw [z, hfl] at hy; cases hy
  refine asI_i (j := 0) (tg_s _ _ _) rfl (by omega) (by omega) ?_
  rw [tg_up_up]
  refine asI_i (j := 1) (tg_s _ _ _) rfl (by omega) (by omega) ?_
  rw [tg_up_up]
  refine asI_i (j := 2) (tg_s _ _ _) rfl (by omega) (by omega) ?_
  rw [tg_up_up]
  refine asI_i (j := 3) (tg_s _ _ _) rfl (by omega) (by omega) ?_
  rw [tg_up_up]
  refine asI_i (j := 4) (tg_s _ _ _) rfl (by omega) (by omega) ?_
  rw [tg_up_up]
  refine asI_i (j := 5) (tg_s _ _ _) rfl (by omega) (by omega) ?_
  rw [tg_up_up]
  refine asI_i (j := 6) (tg_s _ _ _) rfl (by omega) (by omega) ?_
  rw [tg_up_up]
  refine pfV_i (tg_keep (tg_s _ _ _) (fun z => xfl z.symm)) (Nat.le_of_ble_eq_true rfl) ?_
  have keep : ∀ {y : Nat} {e e1 e2 e3 e4 e5 e6 e7 : tE}, G7 y = some e → y ≠ x → tg_up (tg_up (tg_up (tg_up (tg_up (tg_up (tg_up G7 x e1) fo e2) x e3) fb e4) x e5) fl e6) x e7 y = some e := fun {y e e1 e2 e3 e4 e5 e6 e7} hy hyx => by
    rw [tg_n _ _ hyx, tg_n _ _ (nefl hy), tg_n _ _ hyx, tg_n _ _ (nefb hy), tg_n _ _ hyx, tg_n _ _ (nefo hy), tg_n _ _ hyx]; exact hy
  refine hp _ ((x, A, fo, fb, fl), fun r => if r = 0 then p0 else if r = 1 then p1 else p2) rfl ⟨S_0_ok, ⟨0, tg_s _ _ _⟩, ⟨mf, keep kA (fun z => xA z.symm), fun r hr => ?_⟩, ⟨foI, fun _ => 0, flI, ⟨?_, ?_, ?_⟩, ?_⟩, fun r hr => ?_, ⟨fun z => nfbfo z.symm, fun z => nflfo z.symm, fun z => nflfb z.symm⟩, fun r hr => ?_, fun r r' hr hr' e => ?_⟩ (fun q e hq hn => ?_) (fun q hq => ?_)
  · rcases (show r = 0 ∨ r = 1 ∨ r = 2 by omega) with rfl | rfl | rfl
    · exact m0
    · exact m1
    · exact m2
  · show tg_up _ _ _ fo = _
    rw [tg_n _ _ xfo, tg_n _ _ (fun z => nflfo z.symm), tg_n _ _ xfo, tg_n _ _ (fun z => nfbfo z.symm), tg_n _ _ xfo, tg_s]
    rfl
  · show tg_up _ _ _ fb = _
    rw [tg_n _ _ xfb, tg_n _ _ (fun z => nflfb z.symm), tg_n _ _ xfb, tg_s]
  · show tg_up _ _ _ fl = _
    rw [tg_n _ _ xfl, tg_s]
    rfl
  · intro j hj
    rcases (show j = 0 ∨ j = 1 ∨ j = 2 ∨ j = 3 ∨ j = 4 ∨ j = 5 ∨ j = 6 by omega) with rfl | rfl | rfl | rfl | rfl | rfl | rfl
    · exact Or.inr ⟨0, 0, 4, rfl, rfl, rfl, rfl⟩
    · exact Or.inr ⟨1, 0, 4, rfl, rfl, rfl, rfl⟩
    · exact Or.inr ⟨2, 0, 4, rfl, rfl, rfl, rfl⟩
    · exact Or.inl ⟨rfl, rfl⟩
    · exact Or.inl ⟨rfl, rfl⟩
    · exact Or.inl ⟨rfl, rfl⟩
    · exact Or.inl ⟨rfl, rfl⟩
  · rcases (show r = 0 ∨ r = 1 ∨ r = 2 by omega) with rfl | rfl | rfl
    · exact ⟨_, keep k0 (fun z => x0 z.symm), fun _ _ => rfl⟩
    · exact ⟨_, keep k1 (fun z => x1 z.symm), fun _ _ => rfl⟩
    · exact ⟨_, keep k2 (fun z => x2 z.symm), fun _ _ => rfl⟩
  · rcases (show r = 0 ∨ r = 1 ∨ r = 2 by omega) with rfl | rfl | rfl
    · exact ⟨nefo k0, nefb k0, nefl k0⟩
    · exact ⟨nefo k1, nefb k1, nefl k1⟩
    · exact ⟨nefo k2, nefb k2, nefl k2⟩
  · rcases (show r = 0 ∨ r = 1 ∨ r = 2 by omega) with rfl | rfl | rfl <;> rcases (show r' = 0 ∨ r' = 1 ∨ r' = 2 by omega) with rfl | rfl | rfl
    · rfl
    · exact absurd e.symm n10
    · exact absurd e.symm n20
    · exact absurd e n10
    · rfl
    · exact absurd e.symm n21
    · exact absurd e n20
    · exact absurd e n21
    · rfl
  · exact keep (kf q e hq hn) hn
  · rcases hq with e | e | e | e | e | e | e | e
    · exact Or.inl e
    · exact Or.inr (e ▸ hA)
    · exact Or.inr (e ▸ kn _ hfo)
    · exact Or.inr (e ▸ kn _ hfb)
    · exact Or.inr (e ▸ kn _ hfl)
    · exact Or.inr (e ▸ g0)
    · exact Or.inr (e ▸ g1)
    · exact Or.inr (e ▸ g2)
end GRP23x4
section GRP23x5
/-! each method: one answer, the class's and the model's -/
theorem sp_at_lt {S : tS} {q : Option (Nat × Nat × Nat)} {w : Int32} {F : Nat → Nat → Nat → Nat → tA} {k : Nat} (hk : 1 < k) (hF : ∀ r b n i, (F r b n i).1 < k) : (sp_at S q w F).1 < k := by
  rcases q with _ | ⟨r, b, n⟩
  · exact hk
  · show (if 0 ≤ w.toInt ∧ w.toInt < n then F r b n w.toInt.toNat else (1, 0, S)).1 < k
    split
    · exact hF _ _ _ _
    · exact hk
theorem sp_li_lt {S : tS} {q : Option (Nat × Nat × Nat)} {F : Nat → Nat → Nat → tA} {k : Nat} (hk : 1 < k) (hF : ∀ r b n, (F r b n).1 < k) : (sp_li S q F).1 < k := by
  rcases q with _ | ⟨r, b, n⟩
  · exact hk
  · exact hF _ _ _
theorem sp_2_lt {S : tS} {p q : Option (Nat × Nat × Nat)} {F : Nat → Nat → Nat → Nat → Nat → Nat → tA} {k : Nat} (hk : 1 < k) (hF : ∀ r b n r2 b2 n2, (F r b n r2 b2 n2).1 < k) : (sp_2 S p q F).1 < k := by
  rcases p with _ | ⟨r, b, n⟩
  · exact hk
  · rcases q with _ | ⟨r2, b2, n2⟩
    · exact hk
    · exact hF _ _ _ _ _ _
theorem if_lt {c : Prop} {_ : Decidable c} {a b : tA} {k : Nat} (ha : a.1 < k) (hb : b.1 < k) : (if c then a else b).1 < k := by
  split
  · exact ha
  · exact hb
theorem sp_lay_lt (S : tS) (v w : Int32) : (sp_lay S v w).1 < 3 := by
  unfold sp_lay
  rcases S_tw S v with _ | ⟨r, b, n⟩
  · exact Nat.le_of_ble_eq_true rfl
  · exact if_lt (Nat.le_of_ble_eq_true rfl) (Nat.le_of_ble_eq_true rfl)
theorem sp_part_lt (S : tS) (p v x y : Int32) : (sp_part S p v x y).1 < 3 := by
  unfold sp_part
  exact if_lt (sp_li_lt (Nat.le_of_ble_eq_true rfl) (fun _ _ _ => if_lt (Nat.le_of_ble_eq_true rfl) (Nat.le_of_ble_eq_true rfl))) (Nat.le_of_ble_eq_true rfl)
def q_lay (S : tS) (v w : Int32) : tA := sp_lay S v w
def q_put (S : tS) (v w x : Int32) : tA := sp_at S (S_tw S v) w fun r b n i => if okV x then (0, S.2.1 r (b + i), S_put S r (b + i) x) else (2, 0, S)
def q_at (S : tS) (v w : Int32) : tA := sp_at S (S_tw S v) w fun r b n i => (0, S.2.1 r (b + i), S)
def q_part (S : tS) (p v x y : Int32) : tA := sp_part S p v x y
def q_set (S : tS) (v w x : Int32) : tA := sp_at S (S_at S v) w fun r b n i => if okV x then (0, S.2.1 r (b + i), S_put S r (b + i) x) else (2, 0, S)
def q_get (S : tS) (v w : Int32) : tA := sp_at S (S_at S v) w fun r b n i => (0, S.2.1 r (b + i), S)
def q_length (S : tS) (v : Int32) : tA := sp_li S (S_at S v) fun r b n => (0, nI n, S)
def q_isEmpty (S : tS) (v : Int32) : tA := sp_li S (S_at S v) fun r b n => (0, if n = 0 then 1 else 0, S)
def q_indexOf (S : tS) (v x : Int32) : tA := sp_li S (S_at S v) fun r b n => if okV x then (0, fpF (S_v S r b) x n 0, S) else (2, 0, S)
def q_lastIndexOf (S : tS) (v x : Int32) : tA := sp_li S (S_at S v) fun r b n => if okV x then (0, lpF (S_v S r b) x n, S) else (2, 0, S)
def q_has (S : tS) (v x : Int32) : tA := sp_li S (S_at S v) fun r b n => if okV x then (0, if fpF (S_v S r b) x n 0 = -1 then 0 else 1, S) else (2, 0, S)
def q_often (S : tS) (v x : Int32) : tA := sp_li S (S_at S v) fun r b n => if okV x then (0, ofF (S_v S r b) x n, S) else (2, 0, S)
def q_hasAll (S : tS) (v w : Int32) : tA := sp_2 S (S_at S v) (S_at S w) fun r b n r2 b2 n2 => (0, if onF (S_v S r2 b2) (S_v S r b) n 0 n2 0 = 0 then 1 else 0, S)
def q_areApart (S : tS) (v w : Int32) : tA := sp_2 S (S_at S v) (S_at S w) fun r b n r2 b2 n2 => (0, if onF (S_v S r b) (S_v S r2 b2) n2 1 n 0 = 0 then 1 else 0, S)
def q_indexOfAll (S : tS) (v w : Int32) : tA := sp_2 S (S_at S v) (S_at S w) fun r b n r2 b2 n2 => (0, iaF (S_v S r b) (S_v S r2 b2) n2 (n + 1 - n2) 0, S)
def q_areEqual (S : tS) (v w : Int32) : tA := sp_2 S (S_at S v) (S_at S w) fun r b n r2 b2 n2 => (0, if n = n2 then haF (S_v S r b) (S_v S r2 b2) n2 0 else 0, S)
def q_code (S : tS) (v : Int32) : tA := sp_li S (S_at S v) fun r b n => (0, coF (S_v S r b) n, S)
def q_sum (S : tS) (v : Int32) : tA := sp_li S (S_at S v) fun r b n => (0, suF (S_v S r b) n, S)
def q_walkSet (S : tS) (v p rule w back : Int32) : tA := sp_li S (S_at S v) fun r b n => if inR p 0 (nI n) ∧ (inR rule 0 3 ∧ inR w (-99) 99) then (0, nI (slF p.toInt.toNat n back), wrF S r b p.toInt.toNat back rule w (slF p.toInt.toNat n back)) else (2, 0, S)
def q_replaceAll (S : tS) (v rule w : Int32) : tA := sp_li S (S_at S v) fun r b n => if inR rule 0 3 ∧ inR w (-99) 99 then (0, nI (slF 0 n 0), wrF S r b 0 0 rule w (slF 0 n 0)) else (2, 0, S)
def q_replaceOld (S : tS) (v y x : Int32) : tA := sp_li S (S_at S v) fun r b n => if okV y ∧ okV x then (0, (roF S r b y x n).2, (roF S r b y x n).1) else (2, 0, S)
def q_fill (S : tS) (v x : Int32) : tA := sp_li S (S_at S v) fun r b n => if okV x then (0, nI n, S_map S r b (fun _ _ => x) n) else (2, 0, S)
def q_sort (S : tS) (v fall : Int32) : tA := sp_li S (S_tw S v) fun r b n => (0, nI n, soF r b fall S (n - 1))
def q_reverse (S : tS) (v : Int32) : tA := sp_li S (S_at S v) fun r b n => (0, nI n, tuF r b n 0 n S)
def q_rotate (S : tS) (v x : Int32) : tA := sp_li S (S_at S v) fun r b n => if inR x (-99) 99 then (0, nI n, if n = 0 then S else roS S r b n (fmF x (nI n)).toInt.toNat) else (2, 0, S)
def q_swap (S : tS) (v w x : Int32) : tA := sp_at S (S_at S v) w fun r b n i => if 0 ≤ x.toInt ∧ x.toInt < n then (0, if S.2.1 r (b + i) = S.2.1 r (b + x.toInt.toNat) then 0 else 1, S_exch S r (b + i) (b + x.toInt.toNat)) else (1, 0, S)
def q_add (S : tS) (v x : Int32) : tA := sp_li S (S_at S v) fun _ _ _ => if okV x then (0, -9, S_ref S) else (2, 0, S)
def q_addAt (S : tS) (v w x : Int32) : tA := sp_li S (S_at S v) fun _ _ n => if inR w 0 (nI n) ∧ okV x then (0, -9, S_ref S) else (2, 0, S)
def q_addAll (S : tS) (v w : Int32) : tA := sp_2 S (S_at S v) (S_at S w) fun _ _ _ _ _ n2 => if n2 = 0 then (0, 0, S) else (0, -9, S_ref S)
def q_remove (S : tS) (v w : Int32) : tA := sp_at S (S_at S v) w fun _ _ _ _ => (0, -9, S_ref S)
def q_removeValue (S : tS) (v x : Int32) : tA := sp_li S (S_at S v) fun r b n => if okV x then (if fpF (S_v S r b) x n 0 = -1 then (0, 0, S) else (0, -9, S_ref S)) else (2, 0, S)
def q_removeAll (S : tS) (v w : Int32) : tA := sp_2 S (S_at S v) (S_at S w) fun r b n r2 b2 n2 => if onF (S_v S r b) (S_v S r2 b2) n2 1 n 0 = 0 then (0, 0, S) else (0, -9, S_ref S)
def q_retainAll (S : tS) (v w : Int32) : tA := sp_2 S (S_at S v) (S_at S w) fun r b n r2 b2 n2 => if onF (S_v S r b) (S_v S r2 b2) n2 0 n 0 = 0 then (0, 0, S) else (0, -9, S_ref S)
def q_removeIf (S : tS) (v t w : Int32) : tA := sp_li S (S_at S v) fun r b n => if inR t 0 2 ∧ inR w (-99) 99 then (if otF (S_v S r b) t w n 0 = 0 then (0, 0, S) else (0, -9, S_ref S)) else (2, 0, S)
def q_clear (S : tS) (v : Int32) : tA := sp_li S (S_at S v) fun _ _ n => if n = 0 then (0, 0, S) else (0, -9, S_ref S)
def q_walkChange (S : tS) (v w x : Int32) : tA := sp_at S (S_at S v) w fun _ _ _ _ => if inR x 0 2 then (0, -9, S_ref S) else (2, 0, S)
section BOB
variable {K : tK} {G : tG} {L : tL} {M : tM} {S S' : tS} {th : Int32} {u : Nat} {n : Int64} {s : Value} {post : Int32 → tG → Prop}
theorem Lc_lay {v w : Int32} (h : Bo G L M S S' th u n s) (hp : ∀ G' n', Bo G' L M (q_lay S v w).2.2 S' th u n' s → ((q_lay S v w).1 = 0 → n' = (q_lay S v w).2.1.toInt64) → post (nI (q_lay S v w).1) G') : w_L_lay K post (some L.1) v w (some u) G :=
  c_rcv h.1 (c_lay h.1 (L_res (a := q_lay S v w) h (sp_lay_lt S v w) hp))
theorem Lm_lay {v w : Int32} (h : Bo G L M S S' th u n s) (hp : ∀ G' M', M'.1 = M.1 → Bo G' L M' S (q_lay S' v w).2.2 (nI (q_lay S' v w).1) u n s → post (q_lay S' v w).2.1 G') : rcv G (some M.1.1) 5 (w_X3_lay K post (some M.1.1) v w G) :=
  m_rcv h.2.1 (m_lay h.2.1 (L_mod (a := q_lay S' v w) h hp))
theorem Lc_put {v w x : Int32} (h : Bo G L M S S' th u n s) (hp : ∀ G' n', Bo G' L M (q_put S v w x).2.2 S' th u n' s → ((q_put S v w x).1 = 0 → n' = (q_put S v w x).2.1.toInt64) → post (nI (q_put S v w x).1) G') : w_L_put K post (some L.1) v w x (some u) G :=
  c_rcv h.1 (c_put h.1 (L_res (a := q_put S v w x) h (sp_at_lt (Nat.le_of_ble_eq_true rfl) (fun _ _ _ _ => if_lt (Nat.le_of_ble_eq_true rfl) (Nat.le_of_ble_eq_true rfl))) hp))
theorem Lm_put {v w x : Int32} (h : Bo G L M S S' th u n s) (hp : ∀ G' M', M'.1 = M.1 → Bo G' L M' S (q_put S' v w x).2.2 (nI (q_put S' v w x).1) u n s → post (q_put S' v w x).2.1 G') : rcv G (some M.1.1) 5 (w_X3_put K post (some M.1.1) v w x G) :=
  m_rcv h.2.1 (m_put h.2.1 (L_mod (a := q_put S' v w x) h hp))
theorem Lc_at {v w : Int32} (h : Bo G L M S S' th u n s) (hp : ∀ G' n', Bo G' L M (q_at S v w).2.2 S' th u n' s → ((q_at S v w).1 = 0 → n' = (q_at S v w).2.1.toInt64) → post (nI (q_at S v w).1) G') : w_L_at K post (some L.1) v w (some u) G :=
  c_rcv h.1 (c_at h.1 (L_res1 (a := q_at S v w) h (sp_at_lt (Nat.le_of_ble_eq_true rfl) (fun _ _ _ _ => (Nat.le_of_ble_eq_true rfl))) hp))
theorem Lm_at {v w : Int32} (h : Bo G L M S S' th u n s) (hp : ∀ G' M', M'.1 = M.1 → Bo G' L M' S (q_at S' v w).2.2 (nI (q_at S' v w).1) u n s → post (q_at S' v w).2.1 G') : rcv G (some M.1.1) 5 (w_X3_at K post (some M.1.1) v w G) :=
  m_rcv h.2.1 (m_at h.2.1 (L_mod (a := q_at S' v w) h hp))
theorem Lc_part {p v x y : Int32} (h : Bo G L M S S' th u n s) (hp : ∀ G' n', Bo G' L M (q_part S p v x y).2.2 S' th u n' s → ((q_part S p v x y).1 = 0 → n' = (q_part S p v x y).2.1.toInt64) → post (nI (q_part S p v x y).1) G') : w_L_part K post (some L.1) p v x y (some u) G :=
  c_rcv h.1 (c_part h.1 (L_res (a := q_part S p v x y) h (sp_part_lt S p v x y) hp))
theorem Lm_part {p v x y : Int32} (h : Bo G L M S S' th u n s) (hp : ∀ G' M', M'.1 = M.1 → Bo G' L M' S (q_part S' p v x y).2.2 (nI (q_part S' p v x y).1) u n s → post (q_part S' p v x y).2.1 G') : rcv G (some M.1.1) 5 (w_X3_part K post (some M.1.1) p v x y G) :=
  m_rcv h.2.1 (m_part h.2.1 (L_mod (a := q_part S' p v x y) h hp))
theorem Lc_set {v w x : Int32} (h : Bo G L M S S' th u n s) (hp : ∀ G' n', Bo G' L M (q_set S v w x).2.2 S' th u n' s → ((q_set S v w x).1 = 0 → n' = (q_set S v w x).2.1.toInt64) → post (nI (q_set S v w x).1) G') : w_L_set K post (some L.1) v w x (some u) G :=
  c_rcv h.1 (c_set h.1 (L_res (a := q_set S v w x) h (sp_at_lt (Nat.le_of_ble_eq_true rfl) (fun _ _ _ _ => if_lt (Nat.le_of_ble_eq_true rfl) (Nat.le_of_ble_eq_true rfl))) hp))
theorem Lm_set {v w x : Int32} (h : Bo G L M S S' th u n s) (hp : ∀ G' M', M'.1 = M.1 → Bo G' L M' S (q_set S' v w x).2.2 (nI (q_set S' v w x).1) u n s → post (q_set S' v w x).2.1 G') : rcv G (some M.1.1) 5 (w_X3_set K post (some M.1.1) v w x G) :=
  m_rcv h.2.1 (m_set h.2.1 (L_mod (a := q_set S' v w x) h hp))
theorem Lc_get {v w : Int32} (h : Bo G L M S S' th u n s) (hp : ∀ G' n', Bo G' L M (q_get S v w).2.2 S' th u n' s → ((q_get S v w).1 = 0 → n' = (q_get S v w).2.1.toInt64) → post (nI (q_get S v w).1) G') : w_L_get K post (some L.1) v w (some u) G :=
  c_rcv h.1 (c_get h.1 (L_res1 (a := q_get S v w) h (sp_at_lt (Nat.le_of_ble_eq_true rfl) (fun _ _ _ _ => (Nat.le_of_ble_eq_true rfl))) hp))
theorem Lm_get {v w : Int32} (h : Bo G L M S S' th u n s) (hp : ∀ G' M', M'.1 = M.1 → Bo G' L M' S (q_get S' v w).2.2 (nI (q_get S' v w).1) u n s → post (q_get S' v w).2.1 G') : rcv G (some M.1.1) 5 (w_X3_get K post (some M.1.1) v w G) :=
  m_rcv h.2.1 (m_get h.2.1 (L_mod (a := q_get S' v w) h hp))
theorem Lc_length {v : Int32} (h : Bo G L M S S' th u n s) (hp : ∀ G' n', Bo G' L M (q_length S v).2.2 S' th u n' s → ((q_length S v).1 = 0 → n' = (q_length S v).2.1.toInt64) → post (nI (q_length S v).1) G') : w_L_length K post (some L.1) v (some u) G :=
  c_rcv h.1 (c_length h.1 (L_res1 (a := q_length S v) h (sp_li_lt (Nat.le_of_ble_eq_true rfl) (fun _ _ _ => (Nat.le_of_ble_eq_true rfl))) hp))
theorem Lm_length {v : Int32} (h : Bo G L M S S' th u n s) (hp : ∀ G' M', M'.1 = M.1 → Bo G' L M' S (q_length S' v).2.2 (nI (q_length S' v).1) u n s → post (q_length S' v).2.1 G') : rcv G (some M.1.1) 5 (w_X3_length K post (some M.1.1) v G) :=
  m_rcv h.2.1 (m_length h.2.1 (L_mod (a := q_length S' v) h hp))
theorem Lc_isEmpty {v : Int32} (h : Bo G L M S S' th u n s) (hp : ∀ G' n', Bo G' L M (q_isEmpty S v).2.2 S' th u n' s → ((q_isEmpty S v).1 = 0 → n' = if (q_isEmpty S v).2.1 = 0 then 0 else 1) → post (nI (q_isEmpty S v).1) G') : w_L_isEmpty K post (some L.1) v (some u) G :=
  c_rcv h.1 (c_isEmpty h.1 (L_resB1 (a := q_isEmpty S v) h (sp_li_lt (Nat.le_of_ble_eq_true rfl) (fun _ _ _ => (Nat.le_of_ble_eq_true rfl))) hp))
theorem Lm_isEmpty {v : Int32} (h : Bo G L M S S' th u n s) (hp : ∀ G' M', M'.1 = M.1 → Bo G' L M' S (q_isEmpty S' v).2.2 (nI (q_isEmpty S' v).1) u n s → post (q_isEmpty S' v).2.1 G') : rcv G (some M.1.1) 5 (w_X3_isEmpty K post (some M.1.1) v G) :=
  m_rcv h.2.1 (m_isEmpty h.2.1 (L_mod (a := q_isEmpty S' v) h hp))
theorem Lc_indexOf {v x : Int32} (h : Bo G L M S S' th u n s) (hp : ∀ G' n', Bo G' L M (q_indexOf S v x).2.2 S' th u n' s → ((q_indexOf S v x).1 = 0 → n' = (q_indexOf S v x).2.1.toInt64) → post (nI (q_indexOf S v x).1) G') : w_L_indexOf K post (some L.1) v x (some u) G :=
  c_rcv h.1 (c_indexOf h.1 (L_res (a := q_indexOf S v x) h (sp_li_lt (Nat.le_of_ble_eq_true rfl) (fun _ _ _ => if_lt (Nat.le_of_ble_eq_true rfl) (Nat.le_of_ble_eq_true rfl))) hp))
theorem Lm_indexOf {v x : Int32} (h : Bo G L M S S' th u n s) (hp : ∀ G' M', M'.1 = M.1 → Bo G' L M' S (q_indexOf S' v x).2.2 (nI (q_indexOf S' v x).1) u n s → post (q_indexOf S' v x).2.1 G') : rcv G (some M.1.1) 5 (w_X3_indexOf K post (some M.1.1) v x G) :=
  m_rcv h.2.1 (m_indexOf h.2.1 (L_mod (a := q_indexOf S' v x) h hp))
theorem Lc_lastIndexOf {v x : Int32} (h : Bo G L M S S' th u n s) (hp : ∀ G' n', Bo G' L M (q_lastIndexOf S v x).2.2 S' th u n' s → ((q_lastIndexOf S v x).1 = 0 → n' = (q_lastIndexOf S v x).2.1.toInt64) → post (nI (q_lastIndexOf S v x).1) G') : w_L_lastIndexOf K post (some L.1) v x (some u) G :=
  c_rcv h.1 (c_lastIndexOf h.1 (L_res (a := q_lastIndexOf S v x) h (sp_li_lt (Nat.le_of_ble_eq_true rfl) (fun _ _ _ => if_lt (Nat.le_of_ble_eq_true rfl) (Nat.le_of_ble_eq_true rfl))) hp))
theorem Lm_lastIndexOf {v x : Int32} (h : Bo G L M S S' th u n s) (hp : ∀ G' M', M'.1 = M.1 → Bo G' L M' S (q_lastIndexOf S' v x).2.2 (nI (q_lastIndexOf S' v x).1) u n s → post (q_lastIndexOf S' v x).2.1 G') : rcv G (some M.1.1) 5 (w_X3_lastIndexOf K post (some M.1.1) v x G) :=
  m_rcv h.2.1 (m_lastIndexOf h.2.1 (L_mod (a := q_lastIndexOf S' v x) h hp))
theorem Lc_has {v x : Int32} (h : Bo G L M S S' th u n s) (hp : ∀ G' n', Bo G' L M (q_has S v x).2.2 S' th u n' s → ((q_has S v x).1 = 0 → n' = if (q_has S v x).2.1 = 0 then 0 else 1) → post (nI (q_has S v x).1) G') : w_L_has K post (some L.1) v x (some u) G :=
  c_rcv h.1 (c_has h.1 (L_resB (a := q_has S v x) h (sp_li_lt (Nat.le_of_ble_eq_true rfl) (fun _ _ _ => if_lt (Nat.le_of_ble_eq_true rfl) (Nat.le_of_ble_eq_true rfl))) hp))
theorem Lm_has {v x : Int32} (h : Bo G L M S S' th u n s) (hp : ∀ G' M', M'.1 = M.1 → Bo G' L M' S (q_has S' v x).2.2 (nI (q_has S' v x).1) u n s → post (q_has S' v x).2.1 G') : rcv G (some M.1.1) 5 (w_X3_has K post (some M.1.1) v x G) :=
  m_rcv h.2.1 (m_has h.2.1 (L_mod (a := q_has S' v x) h hp))
theorem Lc_often {v x : Int32} (h : Bo G L M S S' th u n s) (hp : ∀ G' n', Bo G' L M (q_often S v x).2.2 S' th u n' s → ((q_often S v x).1 = 0 → n' = (q_often S v x).2.1.toInt64) → post (nI (q_often S v x).1) G') : w_L_often K post (some L.1) v x (some u) G :=
  c_rcv h.1 (c_often h.1 (L_res (a := q_often S v x) h (sp_li_lt (Nat.le_of_ble_eq_true rfl) (fun _ _ _ => if_lt (Nat.le_of_ble_eq_true rfl) (Nat.le_of_ble_eq_true rfl))) hp))
theorem Lm_often {v x : Int32} (h : Bo G L M S S' th u n s) (hp : ∀ G' M', M'.1 = M.1 → Bo G' L M' S (q_often S' v x).2.2 (nI (q_often S' v x).1) u n s → post (q_often S' v x).2.1 G') : rcv G (some M.1.1) 5 (w_X3_often K post (some M.1.1) v x G) :=
  m_rcv h.2.1 (m_often h.2.1 (L_mod (a := q_often S' v x) h hp))
theorem Lc_hasAll {v w : Int32} (h : Bo G L M S S' th u n s) (hp : ∀ G' n', Bo G' L M (q_hasAll S v w).2.2 S' th u n' s → ((q_hasAll S v w).1 = 0 → n' = if (q_hasAll S v w).2.1 = 0 then 0 else 1) → post (nI (q_hasAll S v w).1) G') : w_L_hasAll K post (some L.1) v w (some u) G :=
  c_rcv h.1 (c_hasAll h.1 (L_resB1 (a := q_hasAll S v w) h (sp_2_lt (Nat.le_of_ble_eq_true rfl) (fun _ _ _ _ _ _ => (Nat.le_of_ble_eq_true rfl))) hp))
theorem Lm_hasAll {v w : Int32} (h : Bo G L M S S' th u n s) (hp : ∀ G' M', M'.1 = M.1 → Bo G' L M' S (q_hasAll S' v w).2.2 (nI (q_hasAll S' v w).1) u n s → post (q_hasAll S' v w).2.1 G') : rcv G (some M.1.1) 5 (w_X3_hasAll K post (some M.1.1) v w G) :=
  m_rcv h.2.1 (m_hasAll h.2.1 (L_mod (a := q_hasAll S' v w) h hp))
theorem Lc_areApart {v w : Int32} (h : Bo G L M S S' th u n s) (hp : ∀ G' n', Bo G' L M (q_areApart S v w).2.2 S' th u n' s → ((q_areApart S v w).1 = 0 → n' = if (q_areApart S v w).2.1 = 0 then 0 else 1) → post (nI (q_areApart S v w).1) G') : w_L_areApart K post (some L.1) v w (some u) G :=
  c_rcv h.1 (c_areApart h.1 (L_resB1 (a := q_areApart S v w) h (sp_2_lt (Nat.le_of_ble_eq_true rfl) (fun _ _ _ _ _ _ => (Nat.le_of_ble_eq_true rfl))) hp))
theorem Lm_areApart {v w : Int32} (h : Bo G L M S S' th u n s) (hp : ∀ G' M', M'.1 = M.1 → Bo G' L M' S (q_areApart S' v w).2.2 (nI (q_areApart S' v w).1) u n s → post (q_areApart S' v w).2.1 G') : rcv G (some M.1.1) 5 (w_X3_areApart K post (some M.1.1) v w G) :=
  m_rcv h.2.1 (m_areApart h.2.1 (L_mod (a := q_areApart S' v w) h hp))
theorem Lc_indexOfAll {v w : Int32} (h : Bo G L M S S' th u n s) (hp : ∀ G' n', Bo G' L M (q_indexOfAll S v w).2.2 S' th u n' s → ((q_indexOfAll S v w).1 = 0 → n' = (q_indexOfAll S v w).2.1.toInt64) → post (nI (q_indexOfAll S v w).1) G') : w_L_indexOfAll K post (some L.1) v w (some u) G :=
  c_rcv h.1 (c_indexOfAll h.1 (L_res1 (a := q_indexOfAll S v w) h (sp_2_lt (Nat.le_of_ble_eq_true rfl) (fun _ _ _ _ _ _ => (Nat.le_of_ble_eq_true rfl))) hp))
theorem Lm_indexOfAll {v w : Int32} (h : Bo G L M S S' th u n s) (hp : ∀ G' M', M'.1 = M.1 → Bo G' L M' S (q_indexOfAll S' v w).2.2 (nI (q_indexOfAll S' v w).1) u n s → post (q_indexOfAll S' v w).2.1 G') : rcv G (some M.1.1) 5 (w_X3_indexOfAll K post (some M.1.1) v w G) :=
  m_rcv h.2.1 (m_indexOfAll h.2.1 (L_mod (a := q_indexOfAll S' v w) h hp))
theorem Lc_areEqual {v w : Int32} (h : Bo G L M S S' th u n s) (hp : ∀ G' n', Bo G' L M (q_areEqual S v w).2.2 S' th u n' s → ((q_areEqual S v w).1 = 0 → n' = if (q_areEqual S v w).2.1 = 0 then 0 else 1) → post (nI (q_areEqual S v w).1) G') : w_L_areEqual K post (some L.1) v w (some u) G :=
  c_rcv h.1 (c_areEqual h.1 (L_resB1 (a := q_areEqual S v w) h (sp_2_lt (Nat.le_of_ble_eq_true rfl) (fun _ _ _ _ _ _ => (Nat.le_of_ble_eq_true rfl))) hp))
theorem Lm_areEqual {v w : Int32} (h : Bo G L M S S' th u n s) (hp : ∀ G' M', M'.1 = M.1 → Bo G' L M' S (q_areEqual S' v w).2.2 (nI (q_areEqual S' v w).1) u n s → post (q_areEqual S' v w).2.1 G') : rcv G (some M.1.1) 5 (w_X3_areEqual K post (some M.1.1) v w G) :=
  m_rcv h.2.1 (m_areEqual h.2.1 (L_mod (a := q_areEqual S' v w) h hp))
theorem Lc_code {v : Int32} (h : Bo G L M S S' th u n s) (hp : ∀ G' n', Bo G' L M (q_code S v).2.2 S' th u n' s → ((q_code S v).1 = 0 → n' = (q_code S v).2.1.toInt64) → post (nI (q_code S v).1) G') : w_L_code K post (some L.1) v (some u) G :=
  c_rcv h.1 (c_code h.1 (L_res1 (a := q_code S v) h (sp_li_lt (Nat.le_of_ble_eq_true rfl) (fun _ _ _ => (Nat.le_of_ble_eq_true rfl))) hp))
theorem Lm_code {v : Int32} (h : Bo G L M S S' th u n s) (hp : ∀ G' M', M'.1 = M.1 → Bo G' L M' S (q_code S' v).2.2 (nI (q_code S' v).1) u n s → post (q_code S' v).2.1 G') : rcv G (some M.1.1) 5 (w_X3_code K post (some M.1.1) v G) :=
  m_rcv h.2.1 (m_code h.2.1 (L_mod (a := q_code S' v) h hp))
theorem Lc_sum {v : Int32} (h : Bo G L M S S' th u n s) (hp : ∀ G' n', Bo G' L M (q_sum S v).2.2 S' th u n' s → ((q_sum S v).1 = 0 → n' = (q_sum S v).2.1.toInt64) → post (nI (q_sum S v).1) G') : w_L_sum K post (some L.1) v (some u) G :=
  c_rcv h.1 (c_sum h.1 (L_res1 (a := q_sum S v) h (sp_li_lt (Nat.le_of_ble_eq_true rfl) (fun _ _ _ => (Nat.le_of_ble_eq_true rfl))) hp))
theorem Lm_sum {v : Int32} (h : Bo G L M S S' th u n s) (hp : ∀ G' M', M'.1 = M.1 → Bo G' L M' S (q_sum S' v).2.2 (nI (q_sum S' v).1) u n s → post (q_sum S' v).2.1 G') : rcv G (some M.1.1) 5 (w_X3_sum K post (some M.1.1) v G) :=
  m_rcv h.2.1 (m_sum h.2.1 (L_mod (a := q_sum S' v) h hp))
theorem Lc_walkSet {v p rule w back : Int32} (h : Bo G L M S S' th u n s) (hp : ∀ G' n', Bo G' L M (q_walkSet S v p rule w back).2.2 S' th u n' s → ((q_walkSet S v p rule w back).1 = 0 → n' = (q_walkSet S v p rule w back).2.1.toInt64) → post (nI (q_walkSet S v p rule w back).1) G') : w_L_walkSet K post (some L.1) v p rule w back (some u) G :=
  c_rcv h.1 (c_walkSet h.1 (L_res (a := q_walkSet S v p rule w back) h (sp_li_lt (Nat.le_of_ble_eq_true rfl) (fun _ _ _ => if_lt (Nat.le_of_ble_eq_true rfl) (Nat.le_of_ble_eq_true rfl))) hp))
theorem Lm_walkSet {v p rule w back : Int32} (h : Bo G L M S S' th u n s) (hp : ∀ G' M', M'.1 = M.1 → Bo G' L M' S (q_walkSet S' v p rule w back).2.2 (nI (q_walkSet S' v p rule w back).1) u n s → post (q_walkSet S' v p rule w back).2.1 G') : rcv G (some M.1.1) 5 (w_X3_walkSet K post (some M.1.1) v p rule w back G) :=
  m_rcv h.2.1 (m_walkSet h.2.1 (L_mod (a := q_walkSet S' v p rule w back) h hp))
theorem Lc_replaceAll {v rule w : Int32} (h : Bo G L M S S' th u n s) (hp : ∀ G' n', Bo G' L M (q_replaceAll S v rule w).2.2 S' th u n' s → ((q_replaceAll S v rule w).1 = 0 → n' = (q_replaceAll S v rule w).2.1.toInt64) → post (nI (q_replaceAll S v rule w).1) G') : w_L_replaceAll K post (some L.1) v rule w (some u) G :=
  c_rcv h.1 (c_replaceAll h.1 (L_res (a := q_replaceAll S v rule w) h (sp_li_lt (Nat.le_of_ble_eq_true rfl) (fun _ _ _ => if_lt (Nat.le_of_ble_eq_true rfl) (Nat.le_of_ble_eq_true rfl))) hp))
theorem Lm_replaceAll {v rule w : Int32} (h : Bo G L M S S' th u n s) (hp : ∀ G' M', M'.1 = M.1 → Bo G' L M' S (q_replaceAll S' v rule w).2.2 (nI (q_replaceAll S' v rule w).1) u n s → post (q_replaceAll S' v rule w).2.1 G') : rcv G (some M.1.1) 5 (w_X3_replaceAll K post (some M.1.1) v rule w G) :=
  m_rcv h.2.1 (m_replaceAll h.2.1 (L_mod (a := q_replaceAll S' v rule w) h hp))
theorem Lc_replaceOld {v y x : Int32} (h : Bo G L M S S' th u n s) (hp : ∀ G' n', Bo G' L M (q_replaceOld S v y x).2.2 S' th u n' s → ((q_replaceOld S v y x).1 = 0 → n' = (q_replaceOld S v y x).2.1.toInt64) → post (nI (q_replaceOld S v y x).1) G') : w_L_replaceOld K post (some L.1) v y x (some u) G :=
  c_rcv h.1 (c_replaceOld h.1 (L_res (a := q_replaceOld S v y x) h (sp_li_lt (Nat.le_of_ble_eq_true rfl) (fun _ _ _ => if_lt (Nat.le_of_ble_eq_true rfl) (Nat.le_of_ble_eq_true rfl))) hp))
theorem Lm_replaceOld {v y x : Int32} (h : Bo G L M S S' th u n s) (hp : ∀ G' M', M'.1 = M.1 → Bo G' L M' S (q_replaceOld S' v y x).2.2 (nI (q_replaceOld S' v y x).1) u n s → post (q_replaceOld S' v y x).2.1 G') : rcv G (some M.1.1) 5 (w_X3_replaceOld K post (some M.1.1) v y x G) :=
  m_rcv h.2.1 (m_replaceOld h.2.1 (L_mod (a := q_replaceOld S' v y x) h hp))
theorem Lc_fill {v x : Int32} (h : Bo G L M S S' th u n s) (hp : ∀ G' n', Bo G' L M (q_fill S v x).2.2 S' th u n' s → ((q_fill S v x).1 = 0 → n' = (q_fill S v x).2.1.toInt64) → post (nI (q_fill S v x).1) G') : w_L_fill K post (some L.1) v x (some u) G :=
  c_rcv h.1 (c_fill h.1 (L_res (a := q_fill S v x) h (sp_li_lt (Nat.le_of_ble_eq_true rfl) (fun _ _ _ => if_lt (Nat.le_of_ble_eq_true rfl) (Nat.le_of_ble_eq_true rfl))) hp))
theorem Lm_fill {v x : Int32} (h : Bo G L M S S' th u n s) (hp : ∀ G' M', M'.1 = M.1 → Bo G' L M' S (q_fill S' v x).2.2 (nI (q_fill S' v x).1) u n s → post (q_fill S' v x).2.1 G') : rcv G (some M.1.1) 5 (w_X3_fill K post (some M.1.1) v x G) :=
  m_rcv h.2.1 (m_fill h.2.1 (L_mod (a := q_fill S' v x) h hp))
theorem Lc_sort {v fall : Int32} (h : Bo G L M S S' th u n s) (hp : ∀ G' n', Bo G' L M (q_sort S v fall).2.2 S' th u n' s → ((q_sort S v fall).1 = 0 → n' = (q_sort S v fall).2.1.toInt64) → post (nI (q_sort S v fall).1) G') : w_L_sort K post (some L.1) v fall (some u) G :=
  c_rcv h.1 (c_sort h.1 (L_res1 (a := q_sort S v fall) h (sp_li_lt (Nat.le_of_ble_eq_true rfl) (fun _ _ _ => (Nat.le_of_ble_eq_true rfl))) hp))
theorem Lm_sort {v fall : Int32} (h : Bo G L M S S' th u n s) (hp : ∀ G' M', M'.1 = M.1 → Bo G' L M' S (q_sort S' v fall).2.2 (nI (q_sort S' v fall).1) u n s → post (q_sort S' v fall).2.1 G') : rcv G (some M.1.1) 5 (w_X3_sort K post (some M.1.1) v fall G) :=
  m_rcv h.2.1 (m_sort h.2.1 (L_mod (a := q_sort S' v fall) h hp))
theorem Lc_reverse {v : Int32} (h : Bo G L M S S' th u n s) (hp : ∀ G' n', Bo G' L M (q_reverse S v).2.2 S' th u n' s → ((q_reverse S v).1 = 0 → n' = (q_reverse S v).2.1.toInt64) → post (nI (q_reverse S v).1) G') : w_L_reverse K post (some L.1) v (some u) G :=
  c_rcv h.1 (c_reverse h.1 (L_res1 (a := q_reverse S v) h (sp_li_lt (Nat.le_of_ble_eq_true rfl) (fun _ _ _ => (Nat.le_of_ble_eq_true rfl))) hp))
theorem Lm_reverse {v : Int32} (h : Bo G L M S S' th u n s) (hp : ∀ G' M', M'.1 = M.1 → Bo G' L M' S (q_reverse S' v).2.2 (nI (q_reverse S' v).1) u n s → post (q_reverse S' v).2.1 G') : rcv G (some M.1.1) 5 (w_X3_reverse K post (some M.1.1) v G) :=
  m_rcv h.2.1 (m_reverse h.2.1 (L_mod (a := q_reverse S' v) h hp))
theorem Lc_rotate {v x : Int32} (h : Bo G L M S S' th u n s) (hp : ∀ G' n', Bo G' L M (q_rotate S v x).2.2 S' th u n' s → ((q_rotate S v x).1 = 0 → n' = (q_rotate S v x).2.1.toInt64) → post (nI (q_rotate S v x).1) G') : w_L_rotate K post (some L.1) v x (some u) G :=
  c_rcv h.1 (c_rotate h.1 (L_res (a := q_rotate S v x) h (sp_li_lt (Nat.le_of_ble_eq_true rfl) (fun _ _ _ => if_lt (Nat.le_of_ble_eq_true rfl) (Nat.le_of_ble_eq_true rfl))) hp))
theorem Lm_rotate {v x : Int32} (h : Bo G L M S S' th u n s) (hp : ∀ G' M', M'.1 = M.1 → Bo G' L M' S (q_rotate S' v x).2.2 (nI (q_rotate S' v x).1) u n s → post (q_rotate S' v x).2.1 G') : rcv G (some M.1.1) 5 (w_X3_rotate K post (some M.1.1) v x G) :=
  m_rcv h.2.1 (m_rotate h.2.1 (L_mod (a := q_rotate S' v x) h hp))
theorem Lc_swap {v w x : Int32} (h : Bo G L M S S' th u n s) (hp : ∀ G' n', Bo G' L M (q_swap S v w x).2.2 S' th u n' s → ((q_swap S v w x).1 = 0 → n' = (q_swap S v w x).2.1.toInt64) → post (nI (q_swap S v w x).1) G') : w_L_swap K post (some L.1) v w x (some u) G :=
  c_rcv h.1 (c_swap h.1 (L_res1 (a := q_swap S v w x) h (sp_at_lt (Nat.le_of_ble_eq_true rfl) (fun _ _ _ _ => if_lt (Nat.le_of_ble_eq_true rfl) (Nat.le_of_ble_eq_true rfl))) hp))
theorem Lm_swap {v w x : Int32} (h : Bo G L M S S' th u n s) (hp : ∀ G' M', M'.1 = M.1 → Bo G' L M' S (q_swap S' v w x).2.2 (nI (q_swap S' v w x).1) u n s → post (q_swap S' v w x).2.1 G') : rcv G (some M.1.1) 5 (w_X3_swap K post (some M.1.1) v w x G) :=
  m_rcv h.2.1 (m_swap h.2.1 (L_mod (a := q_swap S' v w x) h hp))
theorem Lc_add {v x : Int32} (h : Bo G L M S S' th u n s) (hp : ∀ G' n', Bo G' L M (q_add S v x).2.2 S' th u n' s → ((q_add S v x).1 = 0 → n' = (q_add S v x).2.1.toInt64) → post (nI (q_add S v x).1) G') : w_L_add K post (some L.1) v x (some u) G :=
  c_rcv h.1 (c_add h.1 (L_res (a := q_add S v x) h (sp_li_lt (Nat.le_of_ble_eq_true rfl) (fun _ _ _ => if_lt (Nat.le_of_ble_eq_true rfl) (Nat.le_of_ble_eq_true rfl))) hp))
theorem Lm_add {v x : Int32} (h : Bo G L M S S' th u n s) (hp : ∀ G' M', M'.1 = M.1 → Bo G' L M' S (q_add S' v x).2.2 (nI (q_add S' v x).1) u n s → post (q_add S' v x).2.1 G') : rcv G (some M.1.1) 5 (w_X3_add K post (some M.1.1) v x G) :=
  m_rcv h.2.1 (m_add h.2.1 (L_mod (a := q_add S' v x) h hp))
theorem Lc_addAt {v w x : Int32} (h : Bo G L M S S' th u n s) (hp : ∀ G' n', Bo G' L M (q_addAt S v w x).2.2 S' th u n' s → ((q_addAt S v w x).1 = 0 → n' = (q_addAt S v w x).2.1.toInt64) → post (nI (q_addAt S v w x).1) G') : w_L_addAt K post (some L.1) v w x (some u) G :=
  c_rcv h.1 (c_addAt h.1 (L_res (a := q_addAt S v w x) h (sp_li_lt (Nat.le_of_ble_eq_true rfl) (fun _ _ _ => if_lt (Nat.le_of_ble_eq_true rfl) (Nat.le_of_ble_eq_true rfl))) hp))
theorem Lm_addAt {v w x : Int32} (h : Bo G L M S S' th u n s) (hp : ∀ G' M', M'.1 = M.1 → Bo G' L M' S (q_addAt S' v w x).2.2 (nI (q_addAt S' v w x).1) u n s → post (q_addAt S' v w x).2.1 G') : rcv G (some M.1.1) 5 (w_X3_addAt K post (some M.1.1) v w x G) :=
  m_rcv h.2.1 (m_addAt h.2.1 (L_mod (a := q_addAt S' v w x) h hp))
theorem Lc_addAll {v w : Int32} (h : Bo G L M S S' th u n s) (hp : ∀ G' n', Bo G' L M (q_addAll S v w).2.2 S' th u n' s → ((q_addAll S v w).1 = 0 → n' = (q_addAll S v w).2.1.toInt64) → post (nI (q_addAll S v w).1) G') : w_L_addAll K post (some L.1) v w (some u) G :=
  c_rcv h.1 (c_addAll h.1 (L_res1 (a := q_addAll S v w) h (sp_2_lt (Nat.le_of_ble_eq_true rfl) (fun _ _ _ _ _ _ => if_lt (Nat.le_of_ble_eq_true rfl) (Nat.le_of_ble_eq_true rfl))) hp))
theorem Lm_addAll {v w : Int32} (h : Bo G L M S S' th u n s) (hp : ∀ G' M', M'.1 = M.1 → Bo G' L M' S (q_addAll S' v w).2.2 (nI (q_addAll S' v w).1) u n s → post (q_addAll S' v w).2.1 G') : rcv G (some M.1.1) 5 (w_X3_addAll K post (some M.1.1) v w G) :=
  m_rcv h.2.1 (m_addAll h.2.1 (L_mod (a := q_addAll S' v w) h hp))
theorem Lc_remove {v w : Int32} (h : Bo G L M S S' th u n s) (hp : ∀ G' n', Bo G' L M (q_remove S v w).2.2 S' th u n' s → ((q_remove S v w).1 = 0 → n' = (q_remove S v w).2.1.toInt64) → post (nI (q_remove S v w).1) G') : w_L_remove K post (some L.1) v w (some u) G :=
  c_rcv h.1 (c_remove h.1 (L_res1 (a := q_remove S v w) h (sp_at_lt (Nat.le_of_ble_eq_true rfl) (fun _ _ _ _ => (Nat.le_of_ble_eq_true rfl))) hp))
theorem Lm_remove {v w : Int32} (h : Bo G L M S S' th u n s) (hp : ∀ G' M', M'.1 = M.1 → Bo G' L M' S (q_remove S' v w).2.2 (nI (q_remove S' v w).1) u n s → post (q_remove S' v w).2.1 G') : rcv G (some M.1.1) 5 (w_X3_remove K post (some M.1.1) v w G) :=
  m_rcv h.2.1 (m_remove h.2.1 (L_mod (a := q_remove S' v w) h hp))
theorem Lc_removeValue {v x : Int32} (h : Bo G L M S S' th u n s) (hp : ∀ G' n', Bo G' L M (q_removeValue S v x).2.2 S' th u n' s → ((q_removeValue S v x).1 = 0 → n' = (q_removeValue S v x).2.1.toInt64) → post (nI (q_removeValue S v x).1) G') : w_L_removeValue K post (some L.1) v x (some u) G :=
  c_rcv h.1 (c_removeValue h.1 (L_res (a := q_removeValue S v x) h (sp_li_lt (Nat.le_of_ble_eq_true rfl) (fun _ _ _ => if_lt (if_lt (Nat.le_of_ble_eq_true rfl) (Nat.le_of_ble_eq_true rfl)) (Nat.le_of_ble_eq_true rfl))) hp))
theorem Lm_removeValue {v x : Int32} (h : Bo G L M S S' th u n s) (hp : ∀ G' M', M'.1 = M.1 → Bo G' L M' S (q_removeValue S' v x).2.2 (nI (q_removeValue S' v x).1) u n s → post (q_removeValue S' v x).2.1 G') : rcv G (some M.1.1) 5 (w_X3_removeValue K post (some M.1.1) v x G) :=
  m_rcv h.2.1 (m_removeValue h.2.1 (L_mod (a := q_removeValue S' v x) h hp))
theorem Lc_removeAll {v w : Int32} (h : Bo G L M S S' th u n s) (hp : ∀ G' n', Bo G' L M (q_removeAll S v w).2.2 S' th u n' s → ((q_removeAll S v w).1 = 0 → n' = (q_removeAll S v w).2.1.toInt64) → post (nI (q_removeAll S v w).1) G') : w_L_removeAll K post (some L.1) v w (some u) G :=
  c_rcv h.1 (c_removeAll h.1 (L_res1 (a := q_removeAll S v w) h (sp_2_lt (Nat.le_of_ble_eq_true rfl) (fun _ _ _ _ _ _ => if_lt (Nat.le_of_ble_eq_true rfl) (Nat.le_of_ble_eq_true rfl))) hp))
theorem Lm_removeAll {v w : Int32} (h : Bo G L M S S' th u n s) (hp : ∀ G' M', M'.1 = M.1 → Bo G' L M' S (q_removeAll S' v w).2.2 (nI (q_removeAll S' v w).1) u n s → post (q_removeAll S' v w).2.1 G') : rcv G (some M.1.1) 5 (w_X3_removeAll K post (some M.1.1) v w G) :=
  m_rcv h.2.1 (m_removeAll h.2.1 (L_mod (a := q_removeAll S' v w) h hp))
theorem Lc_retainAll {v w : Int32} (h : Bo G L M S S' th u n s) (hp : ∀ G' n', Bo G' L M (q_retainAll S v w).2.2 S' th u n' s → ((q_retainAll S v w).1 = 0 → n' = (q_retainAll S v w).2.1.toInt64) → post (nI (q_retainAll S v w).1) G') : w_L_retainAll K post (some L.1) v w (some u) G :=
  c_rcv h.1 (c_retainAll h.1 (L_res1 (a := q_retainAll S v w) h (sp_2_lt (Nat.le_of_ble_eq_true rfl) (fun _ _ _ _ _ _ => if_lt (Nat.le_of_ble_eq_true rfl) (Nat.le_of_ble_eq_true rfl))) hp))
theorem Lm_retainAll {v w : Int32} (h : Bo G L M S S' th u n s) (hp : ∀ G' M', M'.1 = M.1 → Bo G' L M' S (q_retainAll S' v w).2.2 (nI (q_retainAll S' v w).1) u n s → post (q_retainAll S' v w).2.1 G') : rcv G (some M.1.1) 5 (w_X3_retainAll K post (some M.1.1) v w G) :=
  m_rcv h.2.1 (m_retainAll h.2.1 (L_mod (a := q_retainAll S' v w) h hp))
theorem Lc_removeIf {v t w : Int32} (h : Bo G L M S S' th u n s) (hp : ∀ G' n', Bo G' L M (q_removeIf S v t w).2.2 S' th u n' s → ((q_removeIf S v t w).1 = 0 → n' = (q_removeIf S v t w).2.1.toInt64) → post (nI (q_removeIf S v t w).1) G') : w_L_removeIf K post (some L.1) v t w (some u) G :=
  c_rcv h.1 (c_removeIf h.1 (L_res (a := q_removeIf S v t w) h (sp_li_lt (Nat.le_of_ble_eq_true rfl) (fun _ _ _ => if_lt (if_lt (Nat.le_of_ble_eq_true rfl) (Nat.le_of_ble_eq_true rfl)) (Nat.le_of_ble_eq_true rfl))) hp))
theorem Lm_removeIf {v t w : Int32} (h : Bo G L M S S' th u n s) (hp : ∀ G' M', M'.1 = M.1 → Bo G' L M' S (q_removeIf S' v t w).2.2 (nI (q_removeIf S' v t w).1) u n s → post (q_removeIf S' v t w).2.1 G') : rcv G (some M.1.1) 5 (w_X3_removeIf K post (some M.1.1) v t w G) :=
  m_rcv h.2.1 (m_removeIf h.2.1 (L_mod (a := q_removeIf S' v t w) h hp))
theorem Lc_clear {v : Int32} (h : Bo G L M S S' th u n s) (hp : ∀ G' n', Bo G' L M (q_clear S v).2.2 S' th u n' s → ((q_clear S v).1 = 0 → n' = (q_clear S v).2.1.toInt64) → post (nI (q_clear S v).1) G') : w_L_clear K post (some L.1) v (some u) G :=
  c_rcv h.1 (c_clear h.1 (L_res1 (a := q_clear S v) h (sp_li_lt (Nat.le_of_ble_eq_true rfl) (fun _ _ _ => if_lt (Nat.le_of_ble_eq_true rfl) (Nat.le_of_ble_eq_true rfl))) hp))
theorem Lm_clear {v : Int32} (h : Bo G L M S S' th u n s) (hp : ∀ G' M', M'.1 = M.1 → Bo G' L M' S (q_clear S' v).2.2 (nI (q_clear S' v).1) u n s → post (q_clear S' v).2.1 G') : rcv G (some M.1.1) 5 (w_X3_clear K post (some M.1.1) v G) :=
  m_rcv h.2.1 (m_clear h.2.1 (L_mod (a := q_clear S' v) h hp))
theorem Lc_walkChange {v w x : Int32} (h : Bo G L M S S' th u n s) (hp : ∀ G' n', Bo G' L M (q_walkChange S v w x).2.2 S' th u n' s → ((q_walkChange S v w x).1 = 0 → n' = (q_walkChange S v w x).2.1.toInt64) → post (nI (q_walkChange S v w x).1) G') : w_L_walkChange K post (some L.1) v w x (some u) G :=
  c_rcv h.1 (c_walkChange h.1 (L_res (a := q_walkChange S v w x) h (sp_at_lt (Nat.le_of_ble_eq_true rfl) (fun _ _ _ _ => if_lt (Nat.le_of_ble_eq_true rfl) (Nat.le_of_ble_eq_true rfl))) hp))
theorem Lm_walkChange {v w x : Int32} (h : Bo G L M S S' th u n s) (hp : ∀ G' M', M'.1 = M.1 → Bo G' L M' S (q_walkChange S' v w x).2.2 (nI (q_walkChange S' v w x).1) u n s → post (q_walkChange S' v w x).2.1 G') : rcv G (some M.1.1) 5 (w_X3_walkChange K post (some M.1.1) v w x G) :=
  m_rcv h.2.1 (m_walkChange h.2.1 (L_mod (a := q_walkChange S' v w x) h hp))
def q_house (S : tS) (v : Int32) : tA := if inR v 0 3 then (0, hoF S v, S) else (1, 0, S)
def q_rowOf (S : tS) (v : Int32) : tA := if inR v 0 6 then (0, ro1 (S_at S v), S) else (1, 0, S)
def q_begin (S : tS) (v : Int32) : tA := if inR v 0 6 then (0, be1 (S_at S v), S) else (1, 0, S)
theorem Lc_house {v : Int32} (h : Bo G L M S S' th u n s) (hp : ∀ G' n', Bo G' L M (q_house S v).2.2 S' th u n' s → ((q_house S v).1 = 0 → n' = (q_house S v).2.1.toInt64) → post (nI (q_house S v).1) G') : w_L_house K post (some L.1) v (some u) G := by
  refine c_rcv h.1 (c_house h.1 ?_)
  unfold q_house at hp
  by_cases c : inR v 0 3
  · rw [if_pos c]
    simp only [if_pos c] at hp
    exact L_res2 (a := (0, hoF S v, S)) h (Or.inl rfl) (fun G' n' h1 h2 => hp G' n' h1 (fun _ => h2 rfl))
  · rw [if_neg c]
    simp only [if_neg c] at hp
    exact L_res2 (a := (2, 0, S)) h (Or.inr rfl) (fun G' n' h1 h2 => hp G' n' h1 (fun z => absurd z (by decide)))
theorem Lm_house {v : Int32} (h : Bo G L M S S' th u n s) (hp : ∀ G' M', M'.1 = M.1 → Bo G' L M' S (q_house S' v).2.2 (nI (q_house S' v).1) u n s → post (q_house S' v).2.1 G') : rcv G (some M.1.1) 5 (w_X3_house K post (some M.1.1) v G) :=
  m_rcv h.2.1 (m_house h.2.1 (L_mod (a := q_house S' v) h hp))
theorem Lc_rowOf {v : Int32} (h : Bo G L M S S' th u n s) (hp : ∀ G' n', Bo G' L M (q_rowOf S v).2.2 S' th u n' s → ((q_rowOf S v).1 = 0 → n' = (q_rowOf S v).2.1.toInt64) → post (nI (q_rowOf S v).1) G') : w_L_rowOf K post (some L.1) v (some u) G := by
  refine c_rcv h.1 (c_rowOf h.1 ?_)
  unfold q_rowOf at hp
  by_cases c : inR v 0 6
  · rw [if_pos c]
    simp only [if_pos c] at hp
    exact L_res2 (a := (0, ro1 (S_at S v), S)) h (Or.inl rfl) (fun G' n' h1 h2 => hp G' n' h1 (fun _ => h2 rfl))
  · rw [if_neg c]
    simp only [if_neg c] at hp
    exact L_res2 (a := (2, 0, S)) h (Or.inr rfl) (fun G' n' h1 h2 => hp G' n' h1 (fun z => absurd z (by decide)))
theorem Lm_rowOf {v : Int32} (h : Bo G L M S S' th u n s) (hp : ∀ G' M', M'.1 = M.1 → Bo G' L M' S (q_rowOf S' v).2.2 (nI (q_rowOf S' v).1) u n s → post (q_rowOf S' v).2.1 G') : rcv G (some M.1.1) 5 (w_X3_rowOf K post (some M.1.1) v G) :=
  m_rcv h.2.1 (m_rowOf h.2.1 (L_mod (a := q_rowOf S' v) h hp))
theorem Lc_begin {v : Int32} (h : Bo G L M S S' th u n s) (hp : ∀ G' n', Bo G' L M (q_begin S v).2.2 S' th u n' s → ((q_begin S v).1 = 0 → n' = (q_begin S v).2.1.toInt64) → post (nI (q_begin S v).1) G') : w_L_begin K post (some L.1) v (some u) G := by
  refine c_rcv h.1 (c_begin h.1 ?_)
  unfold q_begin at hp
  by_cases c : inR v 0 6
  · rw [if_pos c]
    simp only [if_pos c] at hp
    exact L_res2 (a := (0, be1 (S_at S v), S)) h (Or.inl rfl) (fun G' n' h1 h2 => hp G' n' h1 (fun _ => h2 rfl))
  · rw [if_neg c]
    simp only [if_neg c] at hp
    exact L_res2 (a := (2, 0, S)) h (Or.inr rfl) (fun G' n' h1 h2 => hp G' n' h1 (fun z => absurd z (by decide)))
theorem Lm_begin {v : Int32} (h : Bo G L M S S' th u n s) (hp : ∀ G' M', M'.1 = M.1 → Bo G' L M' S (q_begin S' v).2.2 (nI (q_begin S' v).1) u n s → post (q_begin S' v).2.1 G') : rcv G (some M.1.1) 5 (w_X3_begin K post (some M.1.1) v G) :=
  m_rcv h.2.1 (m_begin h.2.1 (L_mod (a := q_begin S' v) h hp))
def S_kn1 (S : tS) : tS := (S.1, S.2.1, S.2.2.1 + 1, S.2.2.2)
theorem Lc_knock (h : Bo G L M S S' th u n s) (hp : ∀ G', Bo G' L M (S_kn1 S) S' th u n s → post (S.2.2.1 + 1) G') : rcv G (some L.1) 3 (w_X1_knock K post (some L.1) G) :=
  c_rcv h.1 (c_knock h.1 (fun G' f h' => hp G' (Bo_cls h f h')))
theorem Lm_knock (h : Bo G L M S S' th u n s) (hp : ∀ G', Bo G' L M S (S_kn1 S') 0 u n s → post (S'.2.2.1 + 1) G') : rcv G (some M.1.1) 5 (w_X3_knock K post (some M.1.1) G) :=
  m_rcv h.2.1 (m_knock h.2.1 (fun G' f h' => hp G' (Bo_mod h f (fun _ z => Or.inl z) h')))
theorem Lc_isSound (h : Bo G L M S S' th u n s) (hp : ∀ G', Bo G' L M S S' th u n s → post 1 G') : rcv G (some L.1) 3 (w_X1_isSound K post (some L.1) G) :=
  c_rcv h.1 (c_isSound h.1 (fun G' f h' => hp G' (Bo_cls h f h')))
theorem Lm_isSound (h : Bo G L M S S' th u n s) (hp : ∀ G', Bo G' L M S S' 0 u n s → post 1 G') : rcv G (some M.1.1) 5 (w_X3_isSound K post (some M.1.1) G) :=
  m_rcv h.2.1 (m_isSound h.2.1 (fun G' f h' => hp G' (Bo_mod h f (fun _ z => Or.inl z) h')))
theorem Lc_digest {pl : Int64 → tG → Prop} {px : String → tG → Prop} (h : Bo G L M S S' th u n s) (hp : ∀ G', Bo G' L M S S' th u n s → pl (diF S) G') : rcv G (some L.1) 3 (w_X1_digest K pl px (some L.1) G) :=
  c_rcv h.1 (c_digest h.1 (fun G' f h' => hp G' (Bo_cls h f h')))
theorem Lm_digest {pl : Int64 → tG → Prop} (h : Bo G L M S S' th u n s) (hp : ∀ G', Bo G' L M S S' 0 u n s → pl (diF S') G') : rcv G (some M.1.1) 5 (w_X3_digest K pl (some M.1.1) G) :=
  m_rcv h.2.1 (m_digest h.2.1 (fun G' f h' => hp G' (Bo_mod h f (fun _ z => Or.inl z) h')))
theorem Lc_text {v : Int32} {mc ms : Nat} (hK : KOK K) (h : Bo G L M S S' th u n s) (hmc : 70 ≤ mc) (hms : 600 ≤ ms) (hp : ∀ k G' s', Bo G' L M S S' th u n s' → post k G') : w_L_text K mc ms post (some L.1) v (some u) G :=
  ⟨mc, ms, by omega, by omega, c_rcv h.1 (c_text hK h.1 hmc hms (fun _ => ⟨fun _ => hp _ _ s h, fun z => absurd rfl z⟩) (fun _ _ _ _ x G' f h' => pfV_i (Bo_cls h f h').2.2.1 (Nat.le_of_ble_eq_true rfl) (hp _ _ _ (Bo_out (Bo_cls h f h') n (va_rf x)))))⟩
theorem Lm_text {v : Int32} {mc ms : Nat} {pr : Option Nat → tG → Prop} (hK : KOK K) (h : Bo G L M S S' th u n s) (hmc : 160 ≤ mc) (hms : 3200 ≤ ms) (hp : ∀ x G' th', Bo G' L M S S' th' u n s → pr x G') : rcv G (some M.1.1) 5 (w_X3_text K mc ms pr (some M.1.1) v G) :=
  m_rcv h.2.1 (m_text hK h.2.1 hmc hms (fun _ x G' f h' => hp x G' _ (Bo_mod h f (fun _ z => Or.inl z) h')) (fun _ _ _ _ _ _ _ x G' f h' => hp x G' _ (Bo_mod h f (fun _ z => Or.inl z) h')))
theorem Lc_back {v : Int32} {mc ms : Nat} (hK : KOK K) (h : Bo G L M S S' th u n s) (hmc : 70 ≤ mc) (hms : 600 ≤ ms) (hp : ∀ k G' s', Bo G' L M S S' th u n s' → post k G') : w_L_back K mc ms post (some L.1) v (some u) G :=
  ⟨mc, ms, by omega, by omega, c_rcv h.1 (c_back hK h.1 hmc hms (fun _ => ⟨fun _ => hp _ _ s h, fun z => absurd rfl z⟩) (fun _ _ _ _ x G' f h' => pfV_i (Bo_cls h f h').2.2.1 (Nat.le_of_ble_eq_true rfl) (hp _ _ _ (Bo_out (Bo_cls h f h') n (va_rf x)))))⟩
theorem Lm_back {v : Int32} {mc ms : Nat} {pr : Option Nat → tG → Prop} (hK : KOK K) (h : Bo G L M S S' th u n s) (hmc : 160 ≤ mc) (hms : 3200 ≤ ms) (hp : ∀ x G' th', Bo G' L M S S' th' u n s → pr x G') : rcv G (some M.1.1) 5 (w_X3_back K mc ms pr (some M.1.1) v G) :=
  m_rcv h.2.1 (m_back hK h.2.1 hmc hms (fun _ x G' f h' => hp x G' _ (Bo_mod h f (fun _ z => Or.inl z) h')) (fun _ _ _ _ _ _ _ x G' f h' => hp x G' _ (Bo_mod h f (fun _ z => Or.inl z) h')))
theorem Lc_walk {v p many back : Int32} {mc ms : Nat} (hK : KOK K) (h : Bo G L M S S' th u n s) (hmc : 70 ≤ mc) (hms : 600 ≤ ms) (hp : ∀ k G' s', Bo G' L M S S' th u n s' → post k G') : w_L_walk K mc ms post (some L.1) v p many back (some u) G :=
  ⟨mc, ms, by omega, by omega, c_rcv h.1 (c_walk hK h.1 hmc hms (fun _ => ⟨fun _ => hp _ _ s h, fun z => absurd rfl z⟩) (fun _ _ _ _ _ => ⟨fun z => absurd z (by decide), fun _ => ⟨fun _ => hp _ _ s h, fun z => absurd rfl z⟩⟩) (fun _ _ _ _ _ _ x G' f h' => pfV_i (Bo_cls h f h').2.2.1 (Nat.le_of_ble_eq_true rfl) (hp _ _ _ (Bo_out (Bo_cls h f h') n (va_rf x)))))⟩
theorem Lm_walk {v p many back : Int32} {mc ms : Nat} {pr : Option Nat → tG → Prop} (hK : KOK K) (h : Bo G L M S S' th u n s) (hmc : 200 ≤ mc) (hms : 6100 ≤ ms) (hp : ∀ x G' th', Bo G' L M S S' th' u n s → pr x G') : rcv G (some M.1.1) 5 (w_X3_walk K mc ms pr (some M.1.1) v p many back G) :=
  m_rcv h.2.1 (m_walk hK h.2.1 hmc hms (fun _ x G' f h' => hp x G' _ (Bo_mod h f (fun _ z => Or.inl z) h')) (fun _ _ _ _ _ _ _ _ x G' f h' => hp x G' _ (Bo_mod h f (fun _ z => Or.inl z) h')) (fun _ _ _ _ _ _ _ _ _ x G' f h' => hp x G' _ (Bo_mod h f (fun _ z => Or.inl z) h')))
end BOB
end GRP23x5
