/-! texts: what is made on the way, by bounds -/
def ext (G0 G : tG) : Prop := ∀ (q : Nat) (e : tE), G0 q = some e → G q = some e
theorem ext_rf (G : tG) : ext G G := fun _ _ h => h
theorem ext_tr {G1 G2 G3 : tG} (h : ext G1 G2) (h2 : ext G2 G3) : ext G1 G3 := fun q e hq => h2 q e (h q e hq)
theorem ext_up {G0 G : tG} (h : ext G0 G) {a : Nat} (e : tE) (ha : G0 a = none) : ext G0 (tg_up G a e) := fun q e' hq => by
  rw [tg_n _ _ (fun c => by rw [c, ha] at hq; cases hq)]; exact h q e' hq
theorem ext_none {G0 G : tG} (h : ext G0 G) {a : Nat} (ha : G a = none) : G0 a = none := by
  cases e : G0 a with
  | none => rfl
  | some x => rw [h a x e] at ha; cases ha
theorem ext_fr {G0 G : tG} (h : ext G0 G) (P : Nat → Prop) : fr P G0 G := fun q e hq _ => h q e hq
theorem fr_ext {G0 G G' : tG} {P : Nat → Prop} (h : ext G0 G) (hf : fr P G G') (hp : ∀ q, P q → G0 q = none) : ext G0 G' := fun q e hq =>
  hf q e (h q e hq) (fun c => by rw [hp q c] at hq; cases hq)
abbrev eB (c : Nat) (f : Nat → Int32) : tE := .inl (.byte, c, .inl f)
abbrev oSB (v : Nat) (fl : Int32) (k : Nat) : tE := .inr (1, [.ref v, .int 0, .int fl, .int (nI k)])
def bOK (f : Nat → Int32) (n : Nat) : Prop := ∀ i, i < n → fits .byte (.int (f i)) = true
theorem fit_nar (x : Int32) : fits .byte (.int (vp_nar .byte x)) = true := by
  rw [vp_nar_byte]
  show (decide ((-128 : Int32) ≤ x.toInt8.toInt32) && decide (x.toInt8.toInt32 ≤ 127)) = true
  have h0 : x.toInt8.toInt32.toInt = x.toInt8.toInt := Int8.toInt_toInt32 _
  have h1 := Int8.le_toInt x.toInt8
  have h2 := Int8.toInt_lt x.toInt8
  have e1 : (-128 : Int32).toInt = -128 := rfl
  have e2 : (127 : Int32).toInt = 127 := rfl
  rw [Bool.and_eq_true]
  refine ⟨decide_eq_true ?_, decide_eq_true ?_⟩
  · rw [i32_le, h0, e1]; omega
  · rw [i32_le, h0, e2]; omega
theorem bOK_0 (n : Nat) : bOK (fun _ => 0) n := fun _ _ => (show fits .byte (.int 0) = true by decide)
theorem bOK_upd {f : Nat → Int32} {n : Nat} (h : bOK f n) (j : Nat) {x : Int32} (hx : fits .byte (.int x) = true) : bOK (upd f j x) n := fun i hi => by
  by_cases c : i = j
  · rw [c, upd_s]; exact hx
  · rw [upd_n c]; exact h i hi
theorem bOK_cpy {f g : Nat → Int32} {sp dp n N : Nat} (hf : ∀ i, i < n → fits .byte (.int (f (sp + i))) = true) (hg : bOK g N) : bOK (va_cpy f g sp dp n) N := fun i hi => by
  unfold va_cpy
  by_cases c : dp ≤ i ∧ i < dp + n
  · rw [if_pos c]; exact hf (i - dp) (by omega)
  · rw [if_neg c]; exact hg i hi
theorem shr0 (x : Int32) : x >>> ((0 : Int32) &&& 31) = x := by
  rw [show ((0 : Int32) &&& 31) = 0 by decide]; exact Int32.shiftRight_zero
theorem shl0 (x : Int32) : x <<< ((0 : Int32) &&& 31) = x := by
  rw [show ((0 : Int32) &&& 31) = 0 by decide]; exact Int32.shiftLeft_zero
theorem nI_le0 {m c : Nat} (h : m ≤ c) (hc : c < 2 ^ 30) : nI m - nI c ≤ 0 := by
  rw [i32_le, nI_sub (by omega) hc]
  have : (0 : Int32).toInt = 0 := rfl
  omega
theorem nI_nle0 {m c : Nat} (h : c < m) (hm : m < 2 ^ 30) : ¬ nI m - nI c ≤ 0 := by
  rw [i32_le, nI_sub hm (by omega)]
  have : (0 : Int32).toInt = 0 := rfl
  omega
/-- the first signs of an array -/
def isL (f : Nat → Int32) (l : List Int32) : Prop := ∀ i, i < l.length → l[i]? = some (f i)
theorem isL_nil (f : Nat → Int32) : isL f [] := fun i hi => absurd hi (Nat.not_lt_zero i)
theorem isL_cg {f g : Nat → Int32} {l : List Int32} (h : isL f l) (hg : ∀ i, i < l.length → g i = f i) : isL g l := fun i hi => by rw [hg i hi]; exact h i hi
theorem isL_app {f : Nat → Int32} {l m : List Int32} (h : isL f l) (h2 : ∀ i, i < m.length → m[i]? = some (f (l.length + i))) : isL f (l ++ m) := fun i hi => by
  by_cases c : i < l.length
  · rw [List.getElem?_append_left c]; exact h i c
  · rw [List.getElem?_append_right (by omega)]
    rw [List.length_append] at hi
    have := h2 (i - l.length) (by omega)
    rw [show l.length + (i - l.length) = i by omega] at this
    exact this
theorem isL_upd {f : Nat → Int32} {l : List Int32} (h : isL f l) (x : Int32) : isL (upd f l.length x) (l ++ [x]) :=
  isL_app (isL_cg h (fun i hi => upd_n (by omega))) (fun i hi => by
    have e : i = 0 := by
      have : i < 1 := hi
      omega
    subst e
    rw [Nat.add_zero, upd_s]
    rfl)
theorem isL_cpy {f g : Nat → Int32} {l m : List Int32} {k n : Nat} (hf : isL f m) (hg : isL g l) (hk : l.length = k) (hn : m.length = n) : isL (va_cpy f g 0 k n) (l ++ m) := by
  subst hk
  subst hn
  refine isL_app (isL_cg hg (fun i hi => ?_)) (fun i hi => ?_)
  · unfold va_cpy
    rw [if_neg (by omega)]
  · have := hf i hi
    unfold va_cpy
    rw [if_pos (by omega), show 0 + (l.length + i - l.length) = i by omega]
    exact this
theorem isL_len {f g : Nat → Int32} {l : List Int32} (h : isL f l) (h2 : isL g l) : ∀ i, i < l.length → f i = g i := fun i hi => Option.some.inj ((h i hi).symm.trans (h2 i hi))
/-- a builder: its object and its array, both made since G0; its capacity, its length, its signs -/
def SB (G0 G : tG) (o v c k : Nat) (l : List Int32) : Prop := (G0 o = none ∧ G0 v = none) ∧ (∃ fl, G o = some (oSB v fl k)) ∧ (∃ f, G v = some (eB c f) ∧ bOK f c ∧ isL f l) ∧ k ≤ c ∧ l.length = k
theorem SB_ext {G0 G G' : tG} {o v c k : Nat} {l : List Int32} (h : SB G0 G o v c k l) (he : ext G G') : SB G0 G' o v c k l := by
  obtain ⟨h1, ⟨fl, h2⟩, ⟨f, h3, h4⟩, h5⟩ := h
  exact ⟨h1, ⟨fl, he _ _ h2⟩, ⟨f, he _ _ h3, h4⟩, h5⟩
def capF (c m : Nat) : Nat := if m ≤ c then c else max m (2 * c + 2)
def groF (c m : Nat) : Nat := if m ≤ c then 0 else max m (2 * c + 2)
theorem cap_facts (c m : Nat) : m ≤ capF c m ∧ c ≤ capF c m ∧ groF c m + 2 * c ≤ 2 * capF c m ∧ (∀ B, c ≤ B → 2 * m ≤ B → capF c m ≤ B) := by
  unfold capF groF
  by_cases h : m ≤ c
  · rw [if_pos h, if_pos h]
    exact ⟨h, by omega, by omega, fun B h1 h2 => h1⟩
  · rw [if_neg h, if_neg h]
    exact ⟨by omega, by omega, by omega, fun B h1 h2 => by omega⟩
section STA
variable {K : tK} {G0 G : tG}
theorem cpB_i {r r2 : Option Nat} {sp dp n : Int32} {a n0 b n1 sp' dp' n' : Nat} {f g : Nat → Int32} {P : tG → Prop} (hr : r = some a) (ha : G a = some (eB n0 f) ∨ K.2.1 a = some (n0, f)) (hr2 : r2 = some b) (hb : G b = some (eB n1 g)) (hsp : sp = nI sp') (hdp : dp = nI dp') (hn : n = nI n') (h1 : sp' + n' ≤ n0) (h2 : dp' + n' ≤ n1) (h3 : n0 < 2 ^ 30) (h4 : n1 < 2 ^ 30) (hf : ∀ i, i < n' → fits .byte (.int (f (sp' + i))) = true) (hp : P (tg_up G b (eB n1 (va_cpy f g sp' dp' n')))) : cpB K G r sp r2 dp n P :=
  ⟨a, n0, f, b, n1, g, sp', dp', n', hr, ha, hr2, hb, by rw [hsp]; exact nI_toInt (by omega), by rw [hdp]; exact nI_toInt (by omega), by rw [hn]; exact nI_toInt (by omega), h1, h2, hf, hp⟩
theorem a_newLength {post : Int32 → tG → Prop} {c a b : Nat} (hc : c + a + b < 1000000) (h0 : 0 < c + max a b) (h : post (nI (c + max a b)) G) : w_J8_newLength_cabcc K post (nI c) (nI a) (nI b) G := by
  have e : nI c + (if nI a < nI b then nI b else nI a) = nI (c + max a b) := by
    by_cases q : a < b
    · rw [if_pos (nI_lt q (by omega)), nI_add, Nat.max_eq_right (by omega)]
    · rw [if_neg (nI_nlt (by omega) (by omega)), nI_add, Nat.max_eq_left (by omega)]
  unfold w_J8_newLength_cabcc
  rw [e]
  refine ⟨fun q => absurd q (nI_nle h0 (by omega)), fun _ => ⟨fun q => ?_, fun _ => h⟩⟩
  rw [i32_lt, nI_toInt (by omega)] at q
  have : (2147483639 : Int32).toInt = 2147483639 := rfl
  omega
theorem a_copyOf {post : Option Nat → tG → Prop} {v c N mc ms : Nat} {f : Nat → Int32} (hv : G v = some (eB c f)) (hf : bOK f c) (hN : c < N) (hN2 : N ≤ 65536) (hmc : 1 ≤ mc) (hms : N ≤ ms) (hp : ∀ q f' G', G q = none → G' q = some (eB N f') → bOK f' N → (∀ i, i < c → f' i = f i) → (∀ a, a ≠ q → G' a = G a) → post (some q) G') : w_J7_copyOf_9075b K mc ms post (some v) (nI N) G := by
  refine lenA_i hv ⟨fun _ => ⟨N, hN2, ⟨by omega, by omega⟩, N, nI_toInt (by omega), Nat.le_refl _, fun q hq => ?_⟩, fun z => ?_⟩
  · have hne : v ≠ q := fun z => by rw [z, hq] at hv; cases hv
    have hv2 : tg_up G q (eB N fun _ => 0) v = some (eB c f) := tg_keep hv hne
    refine lenA_i hv2 (cpB_i (n' := c) (sp' := 0) (dp' := 0) rfl (Or.inl hv2) rfl (tg_s _ _ _) rfl rfl ?_ (by omega) (by omega) (by omega) (by omega) (fun i hi => by rw [Nat.zero_add]; exact hf i hi) ?_)
    · show (if nI N < nI c then nI N else nI c) = nI c
      rw [if_neg (nI_nlt (by omega) (by omega))]
    · refine hp q _ _ hq (tg_s _ _ _) (bOK_cpy (fun i hi => by rw [Nat.zero_add]; exact hf i hi) (bOK_0 N)) (fun i hi => by unfold va_cpy; rw [if_pos (by omega), show 0 + (i - 0) = i by omega]) (fun a ha => by rw [tg_n _ _ ha, tg_n _ _ ha])
  · have z : nI N = nI c := z
    rw [nI_eq (by omega) (by omega)] at z
    omega
theorem a_ensure {post : tG → Prop} {o v c k m mc ms : Nat} {L : List Int32} (h0 : ext G0 G) (h : SB G0 G o v c k L) (hc : c < 10000) (hm : m < 10000) (hmc : 1 ≤ mc) (hms : groF c m ≤ ms) (hp : ∀ G' v', ext G0 G' → fr (fun q => q = o) G G' → SB G0 G' o v' (capF c m) k L → post G') : w_J5_ensureCapacityInternal_d00df K mc ms post (some o) (nI m) G := by
  have hSB := h
  obtain ⟨⟨n1, n2⟩, ⟨fl, ho⟩, ⟨f, hv, hf, hL⟩, hk, hkL⟩ := h
  refine gfR_i v ho rfl (lenA_i hv (gfI_i ho rfl ?_))
  show (nI m - (nI c >>> ((0 : Int32) &&& 31)) ≤ 0 → _) ∧ (¬ nI m - (nI c >>> ((0 : Int32) &&& 31)) ≤ 0 → _)
  rw [shr0]
  unfold groF at hms
  unfold capF at hp
  by_cases cm : m ≤ c
  · rw [if_pos cm] at hp
    exact ⟨fun _ => hp G v h0 (fr_rf _ _) hSB, fun q => absurd (nI_le0 cm (by omega)) q⟩
  · rw [if_neg cm] at hp hms
    refine ⟨fun q => absurd q (nI_nle0 (by omega) (by omega)), fun _ => gfR_i v ho rfl (rcv_i ho ?_)⟩
    refine gfR_i v ho rfl (lenA_i hv (gfI_i ho rfl (gfI_i ho rfl ?_)))
    show w_J8_newLength_cabcc K _ (nI c) ((nI m <<< ((0 : Int32) &&& 31)) - nI c) (nI c + ((2 : Int32) <<< ((0 : Int32) &&& 31))) G
    rw [shl0, shl0, nI_subN (by omega), show nI c + (2 : Int32) = nI (c + 2) from nI_add c 2]
    refine a_newLength (by omega) (by omega) ?_
    have eN : c + max (m - c) (c + 2) = max m (2 * c + 2) := by omega
    rw [eN]
    refine ⟨fun _ => gfI_i ho rfl ?_, fun z => ?_⟩
    · rw [shr0]
      refine gfI_i ho rfl ⟨mc, ms, by omega, by omega, ?_⟩
      rw [shl0]
      refine a_copyOf hv hf (by omega) (by omega) hmc hms (fun q f' G' q0 q1 q2 q4 q3 => ?_)
      have hoq : o ≠ q := fun z => by rw [z, q0] at ho; cases ho
      have ho' : G' o = some (oSB v fl k) := by rw [q3 o hoq]; exact ho
      refine pfV_i ho' (Nat.le_of_ble_eq_true rfl) (hp _ q ?_ ?_ ?_)
      · exact ext_up (fun a e ha => by rw [q3 a (fun z => by rw [z, ext_none h0 q0] at ha; cases ha)]; exact h0 a e ha) _ n1
      · exact fr_tr (fr_fresh q0 q3 _) (fr_up _ rfl)
      · exact ⟨⟨n1, ext_none h0 q0⟩, ⟨fl, tg_s _ _ _⟩, ⟨f', tg_keep q1 (fun z => hoq z.symm), q2, isL_cg hL (fun i hi => q4 i (by omega))⟩, by omega, hkL⟩
    · exfalso
      have e := congrArg Int32.toInt z
      rw [nI_toInt (by omega)] at e
      have : (2147483647 : Int32).toInt = 2147483647 := rfl
      omega
/-- how many signs a number takes -/
def szF (x : Int32) : Nat := (if (if x < 0 then x else -x) ≤ -10 then 2 else 1) + (if x < 0 then 1 else 0)
theorem szF_in (x : Int32) : 1 ≤ szF x ∧ szF x ≤ 3 := by
  unfold szF
  split <;> split <;> omega
set_option maxRecDepth 100000 in
theorem neg_tab : ((List.range 100).all fun i => decide (¬ (-nI i) ≤ -100) && decide (-(-nI i) = nI i) && decide ((-(nI i : Int32) < 0) ↔ ¬ i = 0)) = true := by decide +kernel
theorem a_size {post : Int32 → tG → Prop} {x : Int32} (hx : inR x (-99) 99) (h : post (nI (szF x)) G) : w_J6_stringSize_0f7a4 K post x G := by
  have main : ∀ (y : Int32) (d : Nat), ¬ y ≤ -100 → post (nI ((if y ≤ -10 then 2 else 1) + d)) G → w_J6_stringSize_0f7a4_11 K post y (nI d) G := by
    intro y d hy hp
    refine ⟨3, ?_⟩
    show w_J6_stringSize_0f7a4_16_b K post (w_J6_stringSize_0f7a4_16 K post 2) y (nI d) (-10) 1 G
    refine ⟨fun z => absurd z (by decide), fun _ => ⟨fun c => ?_, fun c => ?_⟩⟩
    · rw [if_pos c] at hp
      show w_J6_stringSize_0f7a4_16_b K post (w_J6_stringSize_0f7a4_16 K post 1) y (nI d) (-100) 2 G
      refine ⟨fun z => absurd z (by decide), fun _ => ⟨fun c => absurd c hy, fun _ => ?_⟩⟩
      rw [show (2 : Int32) + nI d = nI (2 + d) from nI_add 2 d]; exact hp
    · rw [if_neg c] at hp
      rw [show (1 : Int32) + nI d = nI (1 + d) from nI_add 1 d]; exact hp
  have h1 := hx.1
  have h2 := hx.2
  rw [i32_lt] at h1
  rw [i32_le] at h2
  have e1 : (99 : Int32).toInt = 99 := rfl
  have e2 : (-99 : Int32).toInt = -99 := rfl
  have e3 : (-100 : Int32).toInt = -100 := rfl
  have e0 : (0 : Int32).toInt = 0 := rfl
  unfold szF at h
  refine ⟨fun c => ?_, fun c => ?_⟩
  · rw [if_pos c, if_pos c] at h
    exact main x 1 (by rw [i32_le]; omega) h
  · rw [if_neg c, if_neg c] at h
    refine main (-x) 0 ?_ h
    obtain ⟨j, hj, rfl⟩ := nI_of c
    rw [nI_toInt hj] at h2
    have t := List.all_eq_true.mp neg_tab j (List.mem_range.mpr (by omega))
    rw [Bool.and_eq_true, Bool.and_eq_true] at t
    exact of_decide_eq_true t.1.1
end STA
