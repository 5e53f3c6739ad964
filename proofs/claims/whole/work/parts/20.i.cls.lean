/-! new lists: part, lay -/
def TwC (G : tG) (L : tL) (S : tS) : Prop := (∃ lf, G L.1 = some (oTw L.2.1 L.2.2.1 S.2.2.1 S.2.2.2) ∧ G L.2.1 = some (eL lf) ∧ lfR G L.2.2.2 lf S) ∧ (∃ g, G L.2.2.1 = some (eI 12 g)) ∧ (∀ r, r < 3 → G (L.2.2.2 r) = some (eI 12 (S.2.1 r))) ∧ (∀ r, r < 3 → L.2.2.2 r ≠ L.2.2.1) ∧ (∀ r r', r < 3 → r' < 3 → L.2.2.2 r = L.2.2.2 r' → r = r')
theorem TwR_C {G : tG} {L : tL} {S : tS} (h : TwR G L S) : TwC G L S := h.2
theorem TwC_R {G : tG} {L : tL} {S : tS} (h : TwC G L S) (hs : S_ok S) : TwR G L S := ⟨hs, h⟩
def S_lst (S : tS) (j : Nat) (q : Option (Nat × Nat × Nat)) : tS := ((fun j' => if j' = j then q else S.1 j'), S.2)
theorem va_up_s (f : Nat → Option Nat) (j : Nat) (v : Option Nat) : va_up f j v j = v := by simp [va_up]
theorem va_up_n (f : Nat → Option Nat) {j k : Nat} (v : Option Nat) (h : k ≠ j) : va_up f j v k = f k := by simp [va_up, h]
theorem TwC_lst {G : tG} {L : tL} {S : tS} {lf : Nat → Option Nat} {j : Nat} {v : Option Nat} {q : Option (Nat × Nat × Nat)} (h : TwC G L S) (hk : G L.2.1 = some (eL lf)) (hv : (v = none ∧ q = none) ∨ ∃ o r b n, v = some o ∧ q = some (r, b, n) ∧ G o = some (oRL (nI r) (L.2.2.2 r) b n)) : TwC (tg_up G L.2.1 (eL (va_up lf j v))) L (S_lst S j q) := by
  obtain ⟨⟨lf', h2, h3, h4⟩, ⟨g, h5⟩, h6, h7, h8⟩ := h
  rw [h3] at hk
  cases hk
  refine ⟨⟨_, tg_keep h2 (ne_OI h2 h3), tg_s _ _ _, fun j' hj' => ?_⟩, ⟨g, tg_keep h5 (ne_of_G h5 h3 (fun e => by cases e))⟩, fun r hr => tg_keep (h6 r hr) (ne_of_G (h6 r hr) h3 (fun e => by cases e)), h7, h8⟩
  by_cases c : j' = j
  · subst c
    rw [va_up_s]
    show (v = none ∧ (if j' = j' then q else S.1 j') = none) ∨ ∃ o r b n, v = some o ∧ (if j' = j' then q else S.1 j') = some (r, b, n) ∧ _
    rw [if_pos rfl]
    rcases hv with e | ⟨o, r, b, n, e1, e2, e3⟩
    · exact Or.inl e
    · exact Or.inr ⟨o, r, b, n, e1, e2, tg_keep e3 (ne_OI e3 h3)⟩
  · rw [va_up_n _ _ c]
    show (lf j' = none ∧ (if j' = j then q else S.1 j') = none) ∨ ∃ o r b n, lf j' = some o ∧ (if j' = j then q else S.1 j') = some (r, b, n) ∧ _
    rw [if_neg c]
    rcases h4 j' hj' with e | ⟨o, r, b, n, e1, e2, e3⟩
    · exact Or.inl e
    · exact Or.inr ⟨o, r, b, n, e1, e2, tg_keep e3 (ne_OI e3 h3)⟩
/-- what is the same but for a cell that wasn't there -/
theorem fr_fresh {G G' : tG} {q : Nat} (hq : G q = none) (h : ∀ a, a ≠ q → G' a = G a) (P : Nat → Prop) : fr P G G' := fun a e ha _ => by
  rw [h a (fun c => by rw [c, hq] at ha; cases ha)]; exact ha
theorem TwR_fresh {G G' : tG} {L : tL} {S : tS} {q : Nat} (h : TwR G L S) (hq : G q = none) (h' : ∀ a, a ≠ q → G' a = G a) : TwR G' L S :=
  TwR_fr (P := fun _ => False) h (fr_fresh hq h' _) (fun _ _ z => z) (fun _ _ z => z.elim)
theorem asR_i {G : tG} {a n j : Nat} {f : Nat → Option Nat} {ty : FieldType} {i : Int32} {v : Option Nat} {ok : tE → Prop} {P : tG → Prop} (hG : G a = some (.inl (ty, n, .inr (.inr (.inr (.inr f)))))) (hi : i = nI j) (hj : j < n) (hn : n < 2 ^ 31) (hv : v = none ∨ ∃ (b : Nat) (e : tE), v = some b ∧ G b = some e ∧ ok e) (h : P (tg_up G a (.inl (ty, n, .inr (.inr (.inr (.inr (va_up f j v)))))))) : asR G (some a) i ty v ok P := ⟨a, n, f, j, rfl, hG, by rw [hi]; exact nI_toInt (by omega), hj, hv, h⟩
section CLI
variable {K : tK} {G : tG} {L : tL} {S : tS} {post : Int32 → tG → Prop} {postX : String → tG → Prop}
/-- a list's object is filled -/
theorem c_initRL {pv : tG → Prop} {q v : Nat} {r b n : Int32} (hq : G q = some (.inr (2, [.int 0, .null, .int 0, .int 0]))) (hp : ∀ G', G' q = some (.inr (2, [.int r, .ref v, .int b, .int n])) → (∀ a, a ≠ q → G' a = G a) → pv G') : w_X0_init K pv (some q) r (some v) b n G := by
  refine ⟨⟨q, rfl⟩, pfV_i hq (Nat.le_of_ble_eq_true rfl) (pfV_i (tg_s _ _ _) (Nat.le_of_ble_eq_true rfl) (pfV_i (tg_s _ _ _) (Nat.le_of_ble_eq_true rfl) (pfV_i (tg_s _ _ _) (Nat.le_of_ble_eq_true rfl) ?_)))⟩
  refine hp _ (tg_s _ _ _) (fun a ha => ?_)
  rw [tg_n _ _ ha, tg_n _ _ ha, tg_n _ _ ha, tg_n _ _ ha]
/-- a list of the places from a on, up to e -/
theorem c_pieceOf {pq : Option Nat → tG → Prop} {o r b n a e : Nat} (ho : G o = some (oRL (nI r) (L.2.2.2 r) b n)) (hae : a ≤ e) (hp : ∀ q G', G q = none → G' q = some (oRL (nI r) (L.2.2.2 r) (b + a) (e - a)) → (∀ x, x ≠ q → G' x = G x) → pq (some q) G') : w_X0_pieceOf K pq (some o) (nI a) (nI e) G := by
  intro q hq
  have ho2 : tg_up G q (.inr (2, [.int 0, .null, .int 0, .int 0])) o = some (oRL (nI r) (L.2.2.2 r) b n) := tg_keep ho (fun c => by rw [c, hq] at ho; cases ho)
  refine gfI_i ho2 rfl (gfR_i _ ho2 rfl (gfI_i ho2 rfl ⟨⟨q, rfl⟩, c_initRL (tg_s _ _ _) (fun G' q1 q2 => hp q G' hq ?_ (fun x hx => ?_))⟩))
  · rw [q1, nI_add]
    have e1 : nI e - nI a = nI (e - a) := by
      have e2 : nI e = nI (e - a) + nI a := by rw [nI_add]; congr 1; omega
      rw [e2, Int32.add_sub_cancel]
    rw [e1]
  · rw [q2 x hx, tg_n _ _ hx]
theorem S_part_ok (h : S_ok S) {p j r b n a e : Nat} (hp3 : 3 ≤ p) (hj : j < 7) (hs : S.1 j = some (r, b, n)) (hae : a ≤ e) (he : e ≤ n) : S_ok (S_lst S p (some (r, b + a, e - a))) := by
  refine ⟨fun r' hr' => ?_, fun j' r' b' n' hj' hs' => ?_, h.2.2⟩
  · show ∃ n, (if r' = p then _ else S.1 r') = _ ∧ _
    rw [if_neg (by omega)]; exact h.1 r' hr'
  · have hr0 : ∀ r'', r'' < 3 → (S_lst S p (some (r, b + a, e - a))).1 r'' = S.1 r'' := fun r'' hr'' => by
      show (if r'' = p then _ else S.1 r'') = _
      rw [if_neg (by omega)]
    have hs' : (if j' = p then some (r, b + a, e - a) else S.1 j') = some (r', b', n') := hs'
    by_cases c : j' = p
    · rw [if_pos c] at hs'
      cases hs'
      obtain ⟨h1, n0, h2, h3⟩ := h.2.1 j r b n hj hs
      exact ⟨h1, n0, by rw [hr0 r h1]; exact h2, by omega⟩
    · rw [if_neg c] at hs'
      obtain ⟨h1, n0, h2, h3⟩ := h.2.1 j' r' b' n' hj' hs'
      exact ⟨h1, n0, by rw [hr0 r' h1]; exact h2, h3⟩
def sp_part (S : tS) (p v x y : Int32) : tA := if 3 ≤ p.toInt ∧ p.toInt < 7 then sp_li S (S_at S v) (fun r b n => if inR y 0 (nI n) ∧ inR x 0 y then (0, nI (y.toInt.toNat - x.toInt.toNat), S_lst S p.toInt.toNat (some (r, b + x.toInt.toNat, y.toInt.toNat - x.toInt.toNat))) else (2, 0, S)) else (1, 0, S)
theorem c_part {p v x y : Int32} (h : TwR G L S) (hp : tRes L G post postX (sp_part S p v x y)) : w_X1_part K post postX (some L.1) p v x y G := by
  unfold sp_part at hp
  refine c_checkPart (fun j hj3 hj7 ej => ?_) (fun c => ?_)
  · subst ej
    rw [nI_toInt (by omega), if_pos (by omega)] at hp
    refine c_rcv h (c_listAt h (fun c => ?_) (fun o r b n c1 c2 c3 c4 => ?_))
    · rw [c] at hp; exact (hp G (fr_rf _ _) h).2.1 rfl
    · rw [c1] at hp
      refine gfI_i c2 rfl (c_checkNumber (fun hy => c_checkNumber (fun hx => ?_) (fun hx => ?_)) (fun hy => ?_))
      · simp only [sp_li, if_pos (And.intro hy hx)] at hp
        obtain ⟨e, he, rfl⟩ := nI_of2 (nI_toInt (n := n) (by omega)) hy.1 hy.2
        obtain ⟨a, ha, rfl⟩ := nI_of2 (nI_toInt (n := e) (by omega)) hx.1 hx.2
        rw [nI_nat (by omega), nI_nat (by omega)] at hp
        refine rcv_i c2 (c_pieceOf c2 ha (fun q G1 q0 q1 q2 => ?_))
        have h1 := TwR_fresh h q0 q2
        obtain ⟨⟨lf, k2, k3, k4⟩, -⟩ := TwR_C h1
        have hne : q ≠ L.2.1 := ne_OI q1 k3
        refine gfR_i _ k2 rfl (asR_i k3 rfl hj7 (by omega) (Or.inr ⟨q, _, rfl, q1, ⟨_, rfl⟩⟩) (gfI_i (tg_keep q1 hne) rfl ?_))
        have hj : ∃ j0, j0 < 7 ∧ S.1 j0 = some (r, b, n) := by
          unfold S_at at c1
          by_cases z : 0 ≤ v.toInt ∧ v.toInt < 7
          · rw [if_pos z] at c1; exact ⟨_, by omega, c1⟩
          · rw [if_neg z] at c1; cases c1
        obtain ⟨j0, hj0, hs0⟩ := hj
        refine (hp _ (fr_tr (fr_fresh q0 q2 _) (fr_up _ (Or.inr (Or.inl rfl)))) (TwC_R (TwC_lst (TwR_C h1) k3 (Or.inr ⟨q, r, b + a, e - a, rfl, rfl, q1⟩)) (S_part_ok h.1 hj3 hj0 hs0 ha he))).1 rfl
      · simp only [sp_li, if_neg (fun z : inR y 0 (nI n) ∧ inR x 0 y => hx z.2)] at hp
        exact (hp G (fr_rf _ _) h).2.2 rfl
      · simp only [sp_li, if_neg (fun z : inR y 0 (nI n) ∧ inR x 0 y => hy z.1)] at hp
        exact (hp G (fr_rf _ _) h).2.2 rfl
  · rw [if_neg c] at hp
    exact (hp G (fr_rf _ _) h).2.1 rfl
end CLI
