/-! texts: the model's are the class's -/
theorem dgX_pos (K : tK) (x : Int32) : 1 ≤ (dgX K x).length := by
  have h : ∀ j, 1 ≤ (dgN K j).length := fun j => by
    rw [dgN_len]
    split <;> omega
  unfold dgX
  split
  · rw [List.length_cons]; omega
  · exact h _
theorem shX_pos (K : tK) (x : Int32) : 1 ≤ (shX K x).length := by
  unfold shX
  split
  · exact Nat.le_refl _
  · exact dgX_pos K x
theorem ctF_0 {hp : Int32} {d s : Nat → List Int32} (hs : ∀ i, 1 ≤ (s i).length) : ∀ n, (ctF hp d s n).length = 0 ↔ n = 0
  | 0 => ⟨fun _ => rfl, fun _ => rfl⟩
  | n + 1 => ⟨fun h => by
      have h2 : ((if hp = 0 then (if n = 0 then ctF hp d s n else ctF hp d s n ++ [32]) else (if n = 0 then ctF hp d s n else ctF hp d s n ++ [32]) ++ d n ++ [58]) ++ s n).length = 0 := h
      rw [List.length_append] at h2
      have := hs n
      omega, fun h => absurd h (Nat.succ_ne_zero n)⟩
theorem ln_ct {d s : Nat → List Int32} (hs : ∀ i, 1 ≤ (s i).length) : ∀ n, lineF s 0 n = ctF 0 d s n
  | 0 => rfl
  | n + 1 => by
    show (if (lineF s 0 n).length = 0 then s n else if (0 : Int32) = 0 then lineF s 0 n ++ [32] ++ s n else s n ++ [32] ++ lineF s 0 n) = (if (0 : Int32) = 0 then (if n = 0 then ctF 0 d s n else ctF 0 d s n ++ [32]) else (if n = 0 then ctF 0 d s n else ctF 0 d s n ++ [32]) ++ d n ++ [58]) ++ s n
    rw [ln_ct (d := d) hs n, if_pos (rfl : (0 : Int32) = 0), if_pos (rfl : (0 : Int32) = 0)]
    by_cases c : n = 0
    · subst c
      rw [if_pos ((ctF_0 hs 0).mpr rfl), if_pos rfl]
      rfl
    · rw [if_neg c, if_neg (fun z => c ((ctF_0 hs n).mp z))]
theorem wl_ct {d s : Nat → List Int32} (hs : ∀ i, 1 ≤ (s i).length) : ∀ n, wlF d s n = ctF 1 d s n
  | 0 => rfl
  | n + 1 => by
    show wlF d s n ++ (if (wlF d s n).length = 0 then [] else [32]) ++ d n ++ [58] ++ s n = (if (1 : Int32) = 0 then (if n = 0 then ctF 1 d s n else ctF 1 d s n ++ [32]) else (if n = 0 then ctF 1 d s n else ctF 1 d s n ++ [32]) ++ d n ++ [58]) ++ s n
    rw [wl_ct hs n, if_neg (show ¬ (1 : Int32) = 0 by decide)]
    by_cases c : n = 0
    · subst c
      rw [if_pos ((ctF_0 hs 0).mpr rfl), if_pos rfl]
      rfl
    · rw [if_neg c, if_neg (fun z => c ((ctF_0 hs n).mp z))]
theorem ct_front {d : Nat → List Int32} (t : Nat → List Int32) : ∀ m, ctF 0 d t (m + 1) = t 0 ++ (if m = 0 then [] else [32] ++ ctF 0 d (fun i => t (i + 1)) m)
  | 0 => by
    rw [if_pos rfl, List.append_nil]
    rfl
  | m + 1 => by
    have e1 : ctF 0 d t (m + 1 + 1) = ctF 0 d t (m + 1) ++ [32] ++ t (m + 1) := by
      show (if (0 : Int32) = 0 then (if m + 1 = 0 then ctF 0 d t (m + 1) else ctF 0 d t (m + 1) ++ [32]) else (if m + 1 = 0 then ctF 0 d t (m + 1) else ctF 0 d t (m + 1) ++ [32]) ++ d (m + 1) ++ [58]) ++ t (m + 1) = _
      rw [if_pos rfl, if_neg (Nat.succ_ne_zero m)]
    have e2 : ctF 0 d (fun i => t (i + 1)) (m + 1) = (if m = 0 then ctF 0 d (fun i => t (i + 1)) m else ctF 0 d (fun i => t (i + 1)) m ++ [32]) ++ t (m + 1) := by
      show (if (0 : Int32) = 0 then (if m = 0 then ctF 0 d (fun i => t (i + 1)) m else ctF 0 d (fun i => t (i + 1)) m ++ [32]) else (if m = 0 then ctF 0 d (fun i => t (i + 1)) m else ctF 0 d (fun i => t (i + 1)) m ++ [32]) ++ d m ++ [58]) ++ t (m + 1) = _
      rw [if_pos rfl]
    rw [e1, ct_front t m, if_neg (Nat.succ_ne_zero m), e2]
    by_cases c : m = 0
    · subst c
      rw [if_pos rfl, if_pos rfl, List.append_nil, List.append_assoc]
      rfl
    · rw [if_neg c, if_neg c]
      simp only [List.append_assoc]
theorem lb_ct {d s : Nat → List Int32} (hs : ∀ i, 1 ≤ (s i).length) : ∀ n, lineF s 1 n = ctF 0 d (fun i => s (n - 1 - i)) n
  | 0 => rfl
  | n + 1 => by
    show (if (lineF s 1 n).length = 0 then s n else if (1 : Int32) = 0 then lineF s 1 n ++ [32] ++ s n else s n ++ [32] ++ lineF s 1 n) = _
    rw [ct_front, lb_ct (d := d) hs n, if_neg (show ¬ (1 : Int32) = 0 by decide)]
    by_cases c : n = 0
    · subst c
      rw [if_pos ((ctF_0 (fun i => hs _) 0).mpr rfl), if_pos rfl, List.append_nil]
    · rw [if_neg c, if_neg (fun z => c ((ctF_0 (fun i => hs _) n).mp z))]
      have e : (fun i => s (n + 1 - 1 - (i + 1))) = fun i => s (n - 1 - i) := by
        funext i
        congr 1
        omega
      show s n ++ [32] ++ ctF 0 d (fun i => s (n - 1 - i)) n = s n ++ ([32] ++ ctF 0 d (fun i => s (n + 1 - 1 - (i + 1))) n)
      rw [e, List.append_assoc]
/-! texts: compared -/
section STE
variable {K : tK} {G : tG} {L : List Int32}
theorem s_gsC {P : Int32 → Prop} {r : Option Nat} {n : Nat} (h : STR K G r n L) (hp : P 0) : gsC K G r 0 P := by
  rcases h.2 with ⟨a, w, f, x, y, h1, h2, h3, h4⟩ | ⟨a, w, f, h1, h2, h3, h4⟩
  · subst h1
    exact Or.inl (gfI_i h2 rfl hp)
  · exact Or.inr ⟨a, w, h1, h2, hp⟩
theorem s_alQ {P : Int32 → Prop} {w n i : Nat} {f : Nat → Int32} (h : G w = some (eB n f) ∨ K.2.1 w = some (n, f)) (hi : i < n) (hn : n < 2 ^ 30) (hp : P (f i)) : alQ K G (some w) (nI i) P := by
  rcases h with h | h
  · exact Or.inl (alI_i h rfl hi (by omega) hp)
  · exact Or.inr ⟨w, n, f, i, rfl, h, nI_toInt (by omega), hi, hp⟩
theorem s_eqB {post : Int32 → tG → Prop} {w w2 n : Nat} {f f2 : Nat → Int32} (h : G w = some (eB n f) ∨ K.2.1 w = some (n, f)) (h2 : G w2 = some (eB n f2) ∨ K.2.1 w2 = some (n, f2)) (he : ∀ i, i < n → f i = f2 i) (hn : n < 2 ^ 30) (hp : post 1 G) : w_J1_equals_b5fdf K post (some w) (some w2) G := by
  have main : ∀ (k i : Nat), i + k = n → w_J1_equals_b5fdf_9 K post (k + 1) (some w) (some w2) (nI i) G := by
    intro k
    induction k with
    | zero =>
      intro i hi
      show w_J1_equals_b5fdf_9_b K post (w_J1_equals_b5fdf_9 K post 0) (some w) (some w2) (nI i) G
      have e : i = n := by omega
      subst e
      exact s_lenK h ⟨fun _ => ⟨by decide, hp⟩, fun c => absurd (nI_le (by omega) (by omega)) c⟩
    | succ k ih =>
      intro i hi
      show w_J1_equals_b5fdf_9_b K post (w_J1_equals_b5fdf_9 K post (k + 1)) (some w) (some w2) (nI i) G
      refine s_lenK h ⟨fun c => absurd c (nI_ge (by omega) (by omega)), fun _ => s_alQ h (by omega) hn (s_alQ h2 (by omega) hn ⟨fun _ => ?_, fun z => absurd (he i (by omega)) z⟩)⟩
      rw [nI_1]
      exact ih (i + 1) (by omega)
  exact s_lenK h (s_lenK h2 ⟨fun z => absurd rfl z, fun _ => ⟨n + 1, main n 0 (by omega)⟩⟩)
theorem s_equals {post : Int32 → tG → Prop} {r r2 : Option Nat} {n n2 : Nat} (h : STR K G r n L) (h2 : STR K G r2 n2 L) (hn : n ≤ 200) (hp : post 1 G) : w_J0_equals_9ea2d K post r r2 G := by
  have en : n2 = n := h2.1.symm.trans h.1
  subst en
  refine ⟨fun _ => s_rcv h2 ⟨fun z => absurd z (by decide), fun _ => s_rcv h2 ⟨fun z => absurd z (by decide), fun _ => s_gsC h (s_gsC h2 ⟨fun z => absurd rfl z, fun _ => ?_⟩)⟩⟩, fun _ => ⟨by decide, hp⟩⟩
  refine s_val h (fun w f hw _ hL => s_val h2 (fun w2 f2 hw2 _ hL2 => s_eqB hw hw2 (fun i hi => isL_len hL hL2 i (by rw [h.1]; exact hi)) (by omega) ⟨fun z => absurd z (by decide), fun _ => ⟨by decide, hp⟩⟩))
end STE
