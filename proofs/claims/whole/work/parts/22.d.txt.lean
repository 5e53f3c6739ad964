/-! texts: the class's -/
def vzF (x : Int32) : Nat := if x = -1000 then 1 else szF x
theorem vzF_in (x : Int32) : 1 ≤ vzF x ∧ vzF x ≤ 3 := by
  unfold vzF
  split
  · omega
  · exact szF_in x
/-- the class's texts, as it makes them -/
def ctF (hp : Int32) (d s : Nat → List Int32) : Nat → List Int32
  | 0 => []
  | i + 1 => (if hp = 0 then (if i = 0 then ctF hp d s i else ctF hp d s i ++ [32]) else (if i = 0 then ctF hp d s i else ctF hp d s i ++ [32]) ++ d i ++ [58]) ++ s i
section STD
variable {K : tK} {G : tG} {L : tL} {S : tS} {postX : String → tG → Prop} {Q : List Int32}
theorem c_appendValue {pv : tG → Prop} {G0 : tG} {o v c k mc ms : Nat} {x : Int32} (hK : KOK K) (hx : okV x) (h0 : ext G0 G) (h : SB G0 G o v c k Q) (hc : c < 5000) (hk : k < 1000) (hmc : 1 ≤ mc) (hms : groF c (k + vzF x) ≤ ms) (hp : ∀ G' v', ext G0 G' → SB G0 G' o v' (capF c (k + vzF x)) (k + vzF x) (Q ++ shX K x) → pv G') : w_X1_appendValue K mc ms pv (some o) x G := by
  unfold vzF at hms hp
  refine ⟨fun q => ?_, fun q => ?_⟩
  · have e : shX K x = dgX K x := if_neg q
    rw [if_neg q, e] at hp
    rw [if_neg q] at hms
    exact ⟨mc, ms, by omega, by omega, SB_rcv h (a_appI hK (hx.resolve_left q) h0 h hc hk hmc hms (fun G1 v1 x1 h1 => hp G1 v1 x1 h1))⟩
  · have e : shX K x = [45] := if_pos q
    rw [if_pos q, e] at hp
    rw [if_pos q] at hms
    exact ⟨mc, ms, by omega, by omega, SB_rcv h (a_appC (y := 45) (by decide) (by decide) h0 h hc hk hmc hms (fun G1 v1 x1 h1 => hp G1 v1 x1 h1))⟩
theorem c_textOf {post : Option Nat → tG → Prop} {o v b n N a st mc ms : Nat} {rr : Int32} {f : Nat → Int32} {back hpl9 : Int32} (hK : KOK K) (ho : G o = some (oRL rr v b n)) (hv : G v = some (eI N f)) (hN : N < 2 ^ 31) (hb : b + n ≤ N) (hok : ∀ i, i < n → okV (f (b + i))) (hn : n ≤ 12) (hst : st ≤ 12) (hpl : ∀ i, i < st → plF a back i < n ∧ (back ≠ 0 → i < a)) (hmc : 60 ≤ mc) (hms : 500 ≤ ms) (hp : ∀ s G' n', ext G G' → STR K G' (some s) n' (ctF hpl9 (fun i => dgX K (nI (plF a back i))) (fun i => shX K (f (b + plF a back i))) st) → n' ≤ 200 → post (some s) G') : w_X1_textOf K mc ms post (some o) (nI a) (nI st) back hpl9 G := by
  refine ⟨⟨by omega, by omega⟩, fun q hq => ⟨1, 16, by omega, by omega, ⟨q, rfl⟩, a_init (G0 := G) hq (fun a ha => tg_n _ _ ha) (tg_s _ _ _) (Nat.le_refl _) (Nat.le_refl _) (fun G1 v1 x1 h1 => ?_)⟩⟩
  have main : ∀ (k i nc ns c kk v2 : Nat) (G2 : tG), i + k = st → nc ≤ 2 + 4 * i → ns + 16 ≤ 4 + 2 * c → c ≤ 192 → kk ≤ 8 * i → ext G G2 → SB G G2 q v2 c kk (ctF hpl9 (fun i => dgX K (nI (plF a back i))) (fun i => shX K (f (b + plF a back i))) i) → w_X1_textOf_12 K mc ms post (k + 1) nc ns (some o) (nI a) (nI st) back hpl9 (some q) (nI i) G2 := by
    intro k
    induction k with
    | zero =>
      intro i nc ns c kk v2 G2 hi hnc hns hc hkk x2 h2
      show w_X1_textOf_12_b K mc ms post (w_X1_textOf_12 K mc ms post 0) nc ns (some o) (nI a) (nI st) back hpl9 (some q) (nI i) G2
      have e : i = st := by omega
      subst e
      exact ⟨fun _ => ⟨2, 4 + kk, by omega, by omega, SB_rcv h2 (a_toString h2 (by omega) (Nat.le_refl _) (Nat.le_refl _) (fun s G3 x3 h3 => hp s G3 kk (ext_tr x2 x3) h3 (by omega)))⟩, fun z => absurd (nI_le (by omega) (by omega)) z⟩
    | succ k ih =>
      intro i nc ns c kk v2 G2 hi hnc hns hc hkk x2 h2
      show w_X1_textOf_12_b K mc ms post (w_X1_textOf_12 K mc ms post (k + 1)) nc ns (some o) (nI a) (nI st) back hpl9 (some q) (nI i) G2
      have hq := hpl i (by omega)
      refine ⟨fun z => absurd z (nI_ge (by omega) (by omega)), fun _ => c_placeAfter hq.2 ?_⟩
      have eC : ctF hpl9 (fun i => dgX K (nI (plF a back i))) (fun i => shX K (f (b + plF a back i))) (i + 1) = (if hpl9 = 0 then (if i = 0 then ctF hpl9 (fun i => dgX K (nI (plF a back i))) (fun i => shX K (f (b + plF a back i))) i else ctF hpl9 (fun i => dgX K (nI (plF a back i))) (fun i => shX K (f (b + plF a back i))) i ++ [32]) else (if i = 0 then ctF hpl9 (fun i => dgX K (nI (plF a back i))) (fun i => shX K (f (b + plF a back i))) i else ctF hpl9 (fun i => dgX K (nI (plF a back i))) (fun i => shX K (f (b + plF a back i))) i ++ [32]) ++ dgX K (nI (plF a back i)) ++ [58]) ++ shX K (f (b + plF a back i)) := rfl
      generalize ctF hpl9 (fun i => dgX K (nI (plF a back i))) (fun i => shX K (f (b + plF a back i))) i = ci at eC h2
      generalize hci : ctF hpl9 (fun i => dgX K (nI (plF a back i))) (fun i => shX K (f (b + plF a back i))) (i + 1) = ci1 at eC
      generalize plF a back i = p9 at hq eC ⊢
      have hat : inR (nI p9) (-99) 99 := ⟨by rw [i32_lt, nI_toInt (by omega)]; have : (-99 : Int32).toInt = -99 := rfl; omega, by rw [i32_le, nI_toInt (by omega)]; have : (99 : Int32).toInt = 99 := rfl; omega⟩
      have hz := szF_in (nI p9)
      -- the value at the end of a step
      have s61 : ∀ (nc' ns' c' kk' v3 : Nat) (G3 : tG) (Q : List Int32), nc' ≤ 2 + 4 * i + 3 → ns' + 16 ≤ 4 + 2 * c' → c' ≤ 192 → kk' ≤ 8 * i + 5 → ext G G3 → SB G G3 q v3 c' kk' Q → Q ++ shX K (f (b + p9)) = ci1 → w_X1_textOf_61 K mc ms post (w_X1_textOf_12 K mc ms post (k + 1)) nc' ns' (some o) (nI a) (nI st) back hpl9 (some q) (nI i) (nI p9) G3 := by
        intro nc' ns' c' kk' v3 G3 Q hnc' hns' hc' hkk' x3 h3 hQ
        have hv3 := vzF_in (f (b + p9))
        have cf := cap_facts c' (kk' + vzF (f (b + p9)))
        have b4 := cf.2.2.2 192 (by omega) (by omega)
        refine rcv_i (x3 _ _ ho) (l_read (x3 _ _ ho) (x3 _ _ hv) rfl (by omega) hN ⟨1, groF c' (kk' + vzF (f (b + p9))), by omega, by omega, c_appendValue hK (hok _ hq.1) x3 h3 (by omega) (by omega) (Nat.le_refl _) (Nat.le_refl _) (fun G4 v4 x4 h4 => ?_)⟩)
        rw [nI_1]
        rw [hQ, ← hci] at h4
        exact ih (i + 1) _ _ _ _ v4 G4 (by omega) (by omega) (by omega) b4 (by omega) x4 h4
      have s40 : ∀ (nc' ns' c' kk' v3 : Nat) (G3 : tG) (Q : List Int32), nc' ≤ 2 + 4 * i + 1 → ns' + 16 ≤ 4 + 2 * c' → c' ≤ 192 → kk' ≤ 8 * i + 1 → ext G G3 → SB G G3 q v3 c' kk' Q → Q = (if i = 0 then ci else ci ++ [32]) → w_X1_textOf_40 K mc ms post (w_X1_textOf_12 K mc ms post (k + 1)) nc' ns' (some o) (nI a) (nI st) back hpl9 (some q) (nI i) (nI p9) G3 := by
        intro nc' ns' c' kk' v3 G3 Q hnc' hns' hc' hkk' x3 h3 hQ
        rw [← hQ] at eC
        refine ⟨fun ch => s61 nc' ns' c' kk' v3 G3 Q (by omega) hns' hc' (by omega) x3 h3 (by rw [if_pos ch] at eC; exact eC.symm), fun ch => ?_⟩
        rw [if_neg ch] at eC
        have cf := cap_facts c' (kk' + szF (nI p9))
        have b4 := cf.2.2.2 192 (by omega) (by omega)
        refine ⟨1, groF c' (kk' + szF (nI p9)), by omega, by omega, SB_rcv h3 (a_appI hK hat x3 h3 (by omega) (by omega) (Nat.le_refl _) (Nat.le_refl _) (fun G4 v4 x4 h4 => ?_))⟩
        have cg := cap_facts (capF c' (kk' + szF (nI p9))) (kk' + szF (nI p9) + 1)
        have b5 := cg.2.2.2 192 (by omega) (by omega)
        refine ⟨1, groF (capF c' (kk' + szF (nI p9))) (kk' + szF (nI p9) + 1), by omega, by omega, SB_rcv h4 (a_appC (y := 58) (by decide) (by decide) x4 h4 (by omega) (by omega) (Nat.le_refl _) (Nat.le_refl _) (fun G5 v5 x5 h5 => ?_))⟩
        exact s61 _ _ _ _ v5 G5 _ (by omega) (by omega) b5 (by omega) x5 h5 eC.symm
      refine ⟨fun ci0 => s40 nc ns c kk v2 G2 _ (by omega) hns hc (by omega) x2 h2 ?_, fun ci0 => ?_⟩
      · have e : i = 0 := Decidable.byContradiction fun z => nI_nle (n := i) (by omega) (by omega) ci0
        rw [if_pos e]
      have cf := cap_facts c (kk + 1)
      have b4 := cf.2.2.2 192 (by omega) (by omega)
      exact ⟨1, groF c (kk + 1), by omega, by omega, SB_rcv h2 (a_appC (y := 32) (by decide) (by decide) x2 h2 (by omega) (by omega) (Nat.le_refl _) (Nat.le_refl _) (fun G4 v4 x4 h4 => s40 _ _ _ _ v4 G4 _ (by omega) (by omega) b4 (by omega) x4 h4 (if_neg (fun z => ci0 (by rw [z]; exact (show nI 0 ≤ (0 : Int32) by decide)))).symm))⟩
  exact ⟨st + 1, main st 0 _ _ 16 0 v1 G1 (by omega) (by omega) (by omega) (by omega) (by omega) x1 h1⟩
theorem c_text {post : Option Nat → tG → Prop} {v : Int32} {mc ms : Nat} (hK : KOK K) (h : TwR G L S) (hmc : 70 ≤ mc) (hms : 600 ≤ ms) (h1 : S_at S v = none → postX "java/lang/IndexOutOfBoundsException" G) (h0 : ∀ r b n, S_at S v = some (r, b, n) → ∀ x G' n', fr (clsW L) G G' → TwR G' L S → STR K G' x n' (ctF 0 (fun i => dgX K (nI (plF 0 0 i))) (fun i => shX K (S.2.1 r (b + plF 0 0 i))) n) → n' ≤ 200 → post x G') : w_X1_text K mc ms post postX (some L.1) v G := by
  refine ⟨⟨by omega, by omega⟩, c_rcv h (c_listAt h h1 (fun o r b n c1 c2 c3 c4 => gfI_i c2 rfl ⟨60, 500, by omega, by omega, ?_⟩))⟩
  exact c_textOf (a := 0) hK c2 (h.2.2.2.1 r c3) (by decide) c4 (fun i hi => h.1.2.2 r _ c3 (by omega)) (by omega) (by omega) (fun i hi => ⟨by unfold plF; rw [if_pos rfl]; omega, fun z => absurd rfl z⟩) (Nat.le_refl _) (Nat.le_refl _) (fun s G' n' x hs hn' => h0 r b n c1 _ G' n' (ext_fr x _) (TwR_ext h x) hs hn')
theorem c_back {post : Option Nat → tG → Prop} {v : Int32} {mc ms : Nat} (hK : KOK K) (h : TwR G L S) (hmc : 70 ≤ mc) (hms : 600 ≤ ms) (h1 : S_at S v = none → postX "java/lang/IndexOutOfBoundsException" G) (h0 : ∀ r b n, S_at S v = some (r, b, n) → ∀ x G' n', fr (clsW L) G G' → TwR G' L S → STR K G' x n' (ctF 0 (fun i => dgX K (nI (plF n 1 i))) (fun i => shX K (S.2.1 r (b + plF n 1 i))) n) → n' ≤ 200 → post x G') : w_X1_back K mc ms post postX (some L.1) v G := by
  refine ⟨⟨by omega, by omega⟩, c_rcv h (c_listAt h h1 (fun o r b n c1 c2 c3 c4 => gfI_i c2 rfl (gfI_i c2 rfl ⟨60, 500, by omega, by omega, ?_⟩)))⟩
  exact c_textOf (a := n) hK c2 (h.2.2.2.1 r c3) (by decide) c4 (fun i hi => h.1.2.2 r _ c3 (by omega)) (by omega) (by omega) (fun i hi => ⟨by unfold plF; rw [if_neg (by decide)]; omega, fun _ => hi⟩) (Nat.le_refl _) (Nat.le_refl _) (fun s G' n' x hs hn' => h0 r b n c1 _ G' n' (ext_fr x _) (TwR_ext h x) hs hn')
theorem c_walk {post : Option Nat → tG → Prop} {v p many back : Int32} {mc ms : Nat} (hK : KOK K) (h : TwR G L S) (hmc : 70 ≤ mc) (hms : 600 ≤ ms) (h1 : S_at S v = none → postX "java/lang/IndexOutOfBoundsException" G) (h2 : ∀ r b n, S_at S v = some (r, b, n) → ¬ (inR p 0 (nI n) ∧ inR many 0 12) → postX "java/lang/IllegalArgumentException" G) (h0 : ∀ r b n, S_at S v = some (r, b, n) → inR p 0 (nI n) → inR many 0 12 → ∀ x G' n', fr (clsW L) G G' → TwR G' L S → STR K G' x n' (ctF 1 (fun i => dgX K (nI (plF p.toInt.toNat back i))) (fun i => shX K (S.2.1 r (b + plF p.toInt.toNat back i))) (min many.toInt.toNat (slF p.toInt.toNat n back))) → n' ≤ 200 → post x G') : w_X1_walk K mc ms post postX (some L.1) v p many back G := by
  refine ⟨⟨by omega, by omega⟩, c_rcv h (c_listAt h h1 (fun o r b n c1 c2 c3 c4 => gfI_i c2 rfl ⟨⟨by omega, by omega⟩, c_checkNumber (fun q1 => ⟨⟨by omega, by omega⟩, c_checkNumber (fun q2 => ?_) (fun q2 => h2 r b n c1 (fun z => q2 z.2))⟩) (fun q1 => h2 r b n c1 (fun z => q1 z.1))⟩))⟩
  have hz0 := h0 r b n c1 q1 q2
  obtain ⟨a, ha, rfl⟩ := nI_of2 (nI_toInt (n := n) (by omega)) q1.1 q1.2
  obtain ⟨mn, hmn, rfl⟩ := nI_of2 (M := 12) (n := 12) rfl q2.1 q2.2
  rw [nI_nat (i := a) (by omega), nI_nat (i := mn) (by omega)] at hz0
  have fin : ∀ sl : Nat, slF a n back = sl → sl ≤ n → (∀ i, i < sl → plF a back i < n ∧ (back ≠ 0 → i < a)) → bud (0 + 1 + 1 + 1) (0 + 6 + 6 + 6) mc ms (fun mc_46 ms_46 => w_X1_textOf K mc_46 ms_46 (fun x_46 G_46 => post x_46 G_46) (some o) (nI a) (if nI sl < nI mn then nI sl else nI mn) back 1 G) := fun sl hsE hsl hpl => by
    have e : (if nI sl < nI mn then nI sl else nI mn) = nI (min sl mn) := by
      by_cases c : sl < mn
      · rw [if_pos (nI_lt c (by omega)), Nat.min_eq_left (by omega)]
      · rw [if_neg (nI_nlt (by omega) (by omega)), Nat.min_eq_right (by omega)]
    rw [e]
    refine ⟨60, 500, by omega, by omega, ?_⟩
    exact c_textOf (a := a) hK c2 (h.2.2.2.1 r c3) (by decide) c4 (fun i hi => h.1.2.2 r _ c3 (by omega)) (by omega) (by omega) (fun i hi => hpl i (by omega)) (Nat.le_refl _) (Nat.le_refl _) (fun s G' n' x hs hn' => hz0 _ G' n' (ext_fr x _) (TwR_ext h x) (STR_cg hs (by rw [hsE, Nat.min_comm])) hn')
  refine ⟨fun cb => gfI_i c2 rfl ?_, fun cb => ?_⟩
  · show bud (0 + 1 + 1 + 1) (0 + 6 + 6 + 6) mc ms (fun mc_46 ms_46 => w_X1_textOf K mc_46 ms_46 (fun x_46 G_46 => post x_46 G_46) (some o) (nI a) (if (nI n - nI a) < nI mn then (nI n - nI a) else nI mn) back 1 G)
    rw [nI_subN ha]
    exact fin (n - a) (if_pos cb) (by omega) (fun i hi => ⟨by unfold plF; rw [if_pos cb]; omega, fun z => absurd cb z⟩)
  · exact fin a (if_neg cb) ha (fun i hi => ⟨by unfold plF; rw [if_neg cb]; omega, fun _ => hi⟩)
end STD
