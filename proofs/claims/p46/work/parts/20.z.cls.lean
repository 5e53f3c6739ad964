section GRP20x0
/-! PURE ROWS: how the transformers' questions are answered -/
theorem gfI_i {G : tG} {a ci k : Nat} {fs : List Value} {x : Int32} {P : Int32 → Prop} (hG : G a = some (.inr (ci, fs))) (hx : fs[k]? = some (.int x)) (h : P x) : gfI G (some a) ci k P := ⟨a, fs, x, rfl, hG, hx, h⟩
theorem gfL_i {G : tG} {a ci k : Nat} {fs : List Value} {x : Int64} {P : Int64 → Prop} (hG : G a = some (.inr (ci, fs))) (hx : fs[k]? = some (.long x)) (h : P x) : gfL G (some a) ci k P := ⟨a, fs, x, rfl, hG, hx, h⟩
theorem gfR_i {G : tG} {a ci k : Nat} {fs : List Value} (v : Nat) {P : Option Nat → Prop} (hG : G a = some (.inr (ci, fs))) (hx : fs[k]? = some (.ref v)) (h : P (some v)) : gfR G (some a) ci k P := ⟨a, fs, some v, rfl, hG, hx, h⟩
theorem pfV_i {G : tG} {a ci k : Nat} {fs : List Value} {v : Value} {P : tG → Prop} (hG : G a = some (.inr (ci, fs))) (hk : k < fs.length) (h : P (tg_up G a (.inr (ci, fs.set k v)))) : pfV G (some a) ci k v P := ⟨a, fs, rfl, hG, hk, h⟩
theorem alI_i {G : tG} {a n j : Nat} {f : Nat → Int32} {ty : FieldType} {i : Int32} {P : Int32 → Prop} (hG : G a = some (.inl (ty, n, .inl f))) (hi : i = nI j) (hj : j < n) (hn : n < 2 ^ 31) (h : P (f j)) : alI G (some a) i ty P := ⟨a, n, f, j, rfl, hG, by rw [hi]; exact nI_toInt (by omega), hj, h⟩
theorem alR_i {G : tG} {a n j : Nat} {f : Nat → Option Nat} {ty : FieldType} {i : Int32} {P : Option Nat → Prop} (hG : G a = some (.inl (ty, n, .inr (.inr (.inr (.inr f)))))) (hi : i = nI j) (hj : j < n) (hn : n < 2 ^ 31) (h : P (f j)) : alR G (some a) i ty P := ⟨a, n, f, j, rfl, hG, by rw [hi]; exact nI_toInt (by omega), hj, h⟩
theorem asI_i {G : tG} {a n j : Nat} {f : Nat → Int32} {ty : FieldType} {i x : Int32} {P : tG → Prop} (hG : G a = some (.inl (ty, n, .inl f))) (hi : i = nI j) (hj : j < n) (hn : n < 2 ^ 31) (h : P (tg_up G a (.inl (ty, n, .inl (upd f j x))))) : asI G (some a) i ty x P := ⟨a, n, f, j, rfl, hG, by rw [hi]; exact nI_toInt (by omega), hj, h⟩
theorem lenA_i {G : tG} {a : Nat} {ty : FieldType} {x : vp_A} {P : Int32 → Prop} (hG : G a = some (.inl (ty, x))) (h : P (nI x.1)) : lenA G (some a) P := ⟨a, ty, x, rfl, hG, h⟩
theorem rcv_i {G : tG} {a ci : Nat} {fs : List Value} {P : Prop} (hG : G a = some (.inr (ci, fs))) (h : P) : rcv G (some a) ci P := ⟨a, fs, rfl, hG, h⟩
theorem ifT {c : Prop} {A B : Prop} (hc : c) (h : A) : (c → A) ∧ (¬ c → B) := ⟨fun _ => h, fun q => absurd hc q⟩
theorem ifF {c : Prop} {A B : Prop} (hc : ¬ c) (h : B) : (c → A) ∧ (¬ c → B) := ⟨fun q => absurd q hc, fun _ => h⟩
theorem ifT2 {c : Prop} {A B : Prop} (hc : c) (h : B) : (¬ c → A) ∧ (c → B) := ⟨fun q => absurd hc q, fun _ => h⟩
theorem ifF2 {c : Prop} {A B : Prop} (hc : ¬ c) (h : A) : (¬ c → A) ∧ (c → B) := ⟨fun _ => h, fun q => absurd q hc⟩
/-- a list of the class: an object, its row's places -/
abbrev oRL (r : Int32) (v : Nat) (b n : Nat) : tE := .inr (2, [.int r, .ref v, .int (nI b), .int (nI n)])
abbrev eI (n : Nat) (f : Nat → Int32) : tE := .inl (.int, n, .inl f)
theorem tg_keep {G : tG} {a b : Nat} {e e2 : tE} (h : G b = some e2) (hne : b ≠ a) : tg_up G a e b = some e2 := by rw [tg_n _ _ hne]; exact h
theorem ne_of_G {G : tG} {a b : Nat} {e1 e2 : tE} (h1 : G a = some e1) (h2 : G b = some e2) (h : e1 ≠ e2) : a ≠ b := fun q => h (Option.some.inj (h1.symm.trans (q ▸ h2)))
theorem ne_OI {G : tG} {a b : Nat} {o : Nat × List Value} {x : FieldType × vp_A} (h1 : G a = some (.inr o)) (h2 : G b = some (.inl x)) : a ≠ b := ne_of_G h1 h2 (fun h => by cases h)
/-! RowList -/
section RLL
variable {K : tK} {G : tG} {o v : Nat} {r : Int32} {b n N : Nat} {f : Nat → Int32}
theorem l_read {post : Int32 → tG → Prop} (ho : G o = some (oRL r v b n)) (hv : G v = some (eI N f)) {place : Int32} {j : Nat} (hp : place = nI j) (hj : b + j < N) (hN : N < 2 ^ 31) (h : post (f (b + j)) G) : w_X0_read K post (some o) place G := by
  subst hp
  refine gfI_i ho rfl ?_
  rw [nI_add]
  refine ifF (nI_pos (by omega)) ?_
  refine gfR_i v ho rfl (lenA_i hv ?_)
  refine ifF (nI_ge hj hN) ?_
  exact gfR_i v ho rfl (alI_i hv rfl hj hN h)
theorem l_write {post : Int32 → tG → Prop} (ho : G o = some (oRL r v b n)) (hv : G v = some (eI N f)) {place x : Int32} {j : Nat} (hp : place = nI j) (hj : b + j < N) (hN : N < 2 ^ 31) (h : post (f (b + j)) (tg_up G v (eI N (upd f (b + j) x)))) : w_X0_write K post (some o) place x G := by
  refine rcv_i ho (l_read ho hv hp hj hN ?_)
  subst hp
  refine gfI_i ho rfl ?_
  rw [nI_add]
  refine ifF (nI_pos (by omega)) ?_
  refine gfR_i v ho rfl (lenA_i hv ?_)
  refine ifF (nI_ge hj hN) ?_
  exact gfR_i v ho rfl (asI_i hv rfl hj hN h)
theorem l_isPlace {post : Int32 → tG → Prop} (ho : G o = some (oRL r v b n)) {j : Nat} (hj : j < 2 ^ 31) (hn : n < 2 ^ 31) (h : post (if j < n then 1 else 0) G) : w_X0_isPlace K post (some o) (nI j) G := by
  refine ifF (nI_pos hj) ?_
  refine gfI_i ho rfl ?_
  by_cases c : j < n
  · rw [if_pos c] at h
    refine ifF (nI_ge c hn) ⟨by decide, h⟩
  · rw [if_neg c] at h
    exact ifT ((nI_leI hn hj).mpr (by omega)) ⟨by decide, h⟩
theorem l_isPlaceN {post : Int32 → tG → Prop} {place : Int32} (hp : place < 0) (h : post 0 G) : w_X0_isPlace K post (some o) place G := by
  exact ifT hp ⟨by decide, h⟩
theorem l_exchange {post : tG → Prop} (ho : G o = some (oRL r v b n)) (hv : G v = some (eI N f)) {p q : Int32} {i j : Nat} (hp : p = nI i) (hq : q = nI j) (hi : b + i < N) (hj : b + j < N) (hN : N < 2 ^ 31) (h : post (tg_up (tg_up G v (eI N (upd f (b + i) (f (b + j))))) v (eI N (upd (upd f (b + i) (f (b + j))) (b + j) (f (b + i)))))) : w_X0_exchange K post (some o) p q G := by
  have hne : o ≠ v := ne_OI ho hv
  refine rcv_i ho (l_read ho hv hq hj hN ?_)
  refine rcv_i ho (l_write ho hv hp hi hN ?_)
  exact rcv_i (tg_keep ho hne) (l_write (tg_keep ho hne) (tg_s _ _ _) hq hj hN h)
end RLL
/-- what a step leaves alone: all that was there, but the cells of P -/
def fr (P : Nat → Prop) (G G' : tG) : Prop := ∀ (q : Nat) (e : tE), G q = some e → ¬ P q → G' q = some e
theorem fr_rf (P : Nat → Prop) (G : tG) : fr P G G := fun _ _ h _ => h
theorem fr_tr {P : Nat → Prop} {G1 G2 G3 : tG} (h : fr P G1 G2) (h2 : fr P G2 G3) : fr P G1 G3 := fun q e hq hp => h2 q e (h q e hq hp) hp
theorem fr_up {P : Nat → Prop} {G : tG} {a : Nat} (e : tE) (h : P a) : fr P G (tg_up G a e) := fun q e' hq hp => by
  rw [tg_n]
  · exact hq
  · intro he; exact hp (he ▸ h)
theorem fr_new {P : Nat → Prop} {G : tG} {a : Nat} (e : tE) (h : G a = none) : fr P G (tg_up G a e) := fun q e' hq _ => by
  rw [tg_n]
  · exact hq
  · intro he; rw [he, h] at hq; cases hq
/-! the rows as the document has them: the lists (row, begin, length), the values by row and place, knocks, refusals -/
abbrev tS : Type := (Nat → Option (Nat × Nat × Nat)) × (Nat → Nat → Int32) × Int32 × Int32
abbrev okV (x : Int32) : Prop := x = -1000 ∨ (¬ x < -99 ∧ x ≤ 99)
def S_ok (S : tS) : Prop := (∀ r, r < 3 → ∃ n, S.1 r = some (r, 0, n) ∧ n ≤ 12) ∧ (∀ j r b n, j < 7 → S.1 j = some (r, b, n) → r < 3 ∧ ∃ n0, S.1 r = some (r, 0, n0) ∧ b + n ≤ n0) ∧ (∀ r i, r < 3 → i < 12 → okV (S.2.1 r i))
theorem S_12 {S : tS} (h : S_ok S) {j r b n : Nat} (hj : j < 7) (hs : S.1 j = some (r, b, n)) : r < 3 ∧ b + n ≤ 12 := by
  obtain ⟨hr, n0, h1, h2⟩ := h.2.1 j r b n hj hs
  obtain ⟨n1, h3, h4⟩ := h.1 r hr
  rw [h1] at h3
  cases h3
  exact ⟨hr, by omega⟩
/-- one value written -/
def S_put (S : tS) (r k : Nat) (x : Int32) : tS := (S.1, (fun r' => if r' = r then upd (S.2.1 r) k x else S.2.1 r'), S.2.2)
theorem S_put_ok {S : tS} (h : S_ok S) (r k : Nat) {x : Int32} (hx : okV x) : S_ok (S_put S r k x) := by
  refine ⟨h.1, h.2.1, fun r' i hr hi => ?_⟩
  show okV ((if r' = r then upd (S.2.1 r) k x else S.2.1 r') i)
  by_cases c : r' = r
  · rw [if_pos c]
    unfold upd
    by_cases c2 : i = k
    · simp [c2, hx]
    · simp [c2]; exact h.2.2 r i (c ▸ hr) hi
  · rw [if_neg c]; exact h.2.2 r' i hr hi
/-! the class's cells: the object, its lists' array, its spare array, the rows' arrays -/
abbrev tL : Type := Nat × Nat × Nat × (Nat → Nat)
abbrev oTw (la sp : Nat) (k rf : Int32) : tE := .inr (3, [.ref la, .ref sp, .int k, .int rf])
abbrev eL (lf : Nat → Option Nat) : tE := .inl (.object "Twinrow$RowList", 7, .inr (.inr (.inr (.inr lf))))
def lfR (G : tG) (va : Nat → Nat) (lf : Nat → Option Nat) (S : tS) : Prop := ∀ j, j < 7 → (lf j = none ∧ S.1 j = none) ∨ ∃ o r b n, lf j = some o ∧ S.1 j = some (r, b, n) ∧ G o = some (oRL (nI r) (va r) b n)
def TwR (G : tG) (L : tL) (S : tS) : Prop := S_ok S ∧ (∃ lf, G L.1 = some (oTw L.2.1 L.2.2.1 S.2.2.1 S.2.2.2) ∧ G L.2.1 = some (eL lf) ∧ lfR G L.2.2.2 lf S) ∧ (∃ g, G L.2.2.1 = some (eI 12 g)) ∧ (∀ r, r < 3 → G (L.2.2.2 r) = some (eI 12 (S.2.1 r))) ∧ (∀ r, r < 3 → L.2.2.2 r ≠ L.2.2.1) ∧ (∀ r r', r < 3 → r' < 3 → L.2.2.2 r = L.2.2.2 r' → r = r')
def clsW (L : tL) (q : Nat) : Prop := q = L.1 ∨ q = L.2.1 ∨ q = L.2.2.1 ∨ q = L.2.2.2 0 ∨ q = L.2.2.2 1 ∨ q = L.2.2.2 2
theorem clsW_va {L : tL} {r : Nat} (h : r < 3) : clsW L (L.2.2.2 r) := by
  rcases (show r = 0 ∨ r = 1 ∨ r = 2 by omega) with rfl | rfl | rfl
  · exact Or.inr (Or.inr (Or.inr (Or.inl rfl)))
  · exact Or.inr (Or.inr (Or.inr (Or.inr (Or.inl rfl))))
  · exact Or.inr (Or.inr (Or.inr (Or.inr (Or.inr rfl))))
/-- a cell of another kind is no cell of the class that changes -/
theorem TwR_obj {G : tG} {L : tL} {S : tS} (h : TwR G L S) {q ci : Nat} {fs : List Value} (hq : G q = some (.inr (ci, fs))) (hci : ci ≠ 3) : ¬ clsW L q := by
  obtain ⟨h1, ⟨lf, h2, h3, h4⟩, ⟨g, h5⟩, h6, -, -⟩ := h
  rintro (e | e | e | e | e | e) <;> subst e
  · rw [h2] at hq; cases hq; exact hci rfl
  · rw [h3] at hq; cases hq
  · rw [h5] at hq; cases hq
  · rw [h6 0 (by omega)] at hq; cases hq
  · rw [h6 1 (by omega)] at hq; cases hq
  · rw [h6 2 (by omega)] at hq; cases hq
/-- a cell that isn't the class's is written or made -/
theorem TwR_fr {G G' : tG} {L : tL} {S : tS} {P : Nat → Prop} (h : TwR G L S) (hf : fr P G G') (hp : ∀ q, clsW L q → ¬ P q) (ho : ∀ q fs, P q → G q ≠ some (.inr (2, fs))) : TwR G' L S := by
  obtain ⟨h1, ⟨lf, h2, h3, h4⟩, ⟨g, h5⟩, h6, h7, h8⟩ := h
  refine ⟨h1, ⟨lf, hf _ _ h2 (hp _ (Or.inl rfl)), hf _ _ h3 (hp _ (Or.inr (Or.inl rfl))), fun j hj => ?_⟩, ⟨g, hf _ _ h5 (hp _ (Or.inr (Or.inr (Or.inl rfl))))⟩, fun r hr => hf _ _ (h6 r hr) (hp _ (clsW_va hr)), h7, h8⟩
  rcases h4 j hj with c | ⟨o, r, b, n, c1, c2, c3⟩
  · exact Or.inl c
  · exact Or.inr ⟨o, r, b, n, c1, c2, hf _ _ c3 (fun hP => ho o _ hP c3)⟩
/-- a row's value is written -/
theorem TwR_put {G : tG} {L : tL} {S : tS} (h : TwR G L S) {r : Nat} (hr : r < 3) (k : Nat) {x : Int32} (hx : okV x) : TwR (tg_up G (L.2.2.2 r) (eI 12 (upd (S.2.1 r) k x))) L (S_put S r k x) := by
  obtain ⟨h1, ⟨lf, h2, h3, h4⟩, ⟨g, h5⟩, h6, h7, h8⟩ := h
  have hv := h6 r hr
  refine ⟨S_put_ok h1 r k hx, ⟨lf, tg_keep h2 (ne_OI h2 hv), tg_keep h3 (ne_of_G h3 hv (fun e => by cases e)), fun j hj => ?_⟩, ⟨g, tg_keep h5 (fun e => h7 r hr e.symm)⟩, fun r' hr' => ?_, h7, h8⟩
  · rcases h4 j hj with c | ⟨o, r', b, n, c1, c2, c3⟩
    · exact Or.inl c
    · exact Or.inr ⟨o, r', b, n, c1, c2, tg_keep c3 (ne_OI c3 hv)⟩
  · by_cases c : r' = r
    · subst c
      rw [tg_s]
      show some _ = some (eI 12 (if r' = r' then upd (S.2.1 r') k x else S.2.1 r'))
      rw [if_pos rfl]
    · rw [tg_n _ _ (fun e => c (h8 r' r hr' hr e)), h6 r' hr']
      show some _ = some (eI 12 (if r' = r then upd (S.2.1 r) k x else S.2.1 r'))
      rw [if_neg c]
/-- the class's own fields: knocks, refusals -/
def S_kn (S : tS) (k : Int32) : tS := (S.1, S.2.1, k, S.2.2.2)
def S_rf (S : tS) (k : Int32) : tS := (S.1, S.2.1, S.2.2.1, k)
theorem TwR_own {G : tG} {L : tL} {S : tS} (h : TwR G L S) (k rf : Int32) : TwR (tg_up G L.1 (oTw L.2.1 L.2.2.1 k rf)) L (S.1, S.2.1, k, rf) := by
  obtain ⟨h1, ⟨lf, h2, h3, h4⟩, ⟨g, h5⟩, h6, h7, h8⟩ := h
  refine ⟨h1, ⟨lf, tg_s _ _ _, tg_keep h3 (fun e => ne_OI h2 h3 e.symm), fun j hj => ?_⟩, ⟨g, tg_keep h5 (fun e => ne_OI h2 h5 e.symm)⟩, fun r hr => tg_keep (h6 r hr) (fun e => ne_OI h2 (h6 r hr) e.symm), h7, h8⟩
  rcases h4 j hj with c | ⟨o, r, b, n, c1, c2, c3⟩
  · exact Or.inl c
  · exact Or.inr ⟨o, r, b, n, c1, c2, tg_keep c3 (ne_of_G c3 h2 (fun e => by cases e))⟩
/-! a list by its number -/
def S_at (S : tS) (v : Int32) : Option (Nat × Nat × Nat) := if 0 ≤ v.toInt ∧ v.toInt < 7 then S.1 v.toInt.toNat else none
theorem i32_lt {x y : Int32} : x < y ↔ x.toInt < y.toInt := Int32.lt_iff_toInt_lt
theorem i32_le {x y : Int32} : x ≤ y ↔ x.toInt ≤ y.toInt := Int32.le_iff_toInt_le
theorem S_at_nI (S : tS) {j : Nat} (h : j < 7) : S_at S (nI j) = S.1 j := by
  unfold S_at
  rw [nI_toInt (by omega), if_pos ⟨by omega, by omega⟩]
  rfl
section TWA
variable {K : tK} {G : tG} {L : tL} {S : tS} {v : Int32}
/-- what the number finds: nothing, or a list's object -/
theorem c_listOrNull {post : Option Nat → tG → Prop} (h : TwR G L S) (h0 : S_at S v = none → post none G) (h1 : ∀ o r b n, S_at S v = some (r, b, n) → G o = some (oRL (nI r) (L.2.2.2 r) b n) → r < 3 → b + n ≤ 12 → post (some o) G) : w_X1_listOrNull K post (some L.1) v G := by
  obtain ⟨k1, ⟨lf, k2, k3, k4⟩, -⟩ := h
  unfold w_X1_listOrNull
  refine ⟨fun c => h0 ?_, fun c => ?_⟩
  · unfold S_at
    rw [i32_lt] at c
    rw [if_neg]
    intro q
    have : (0 : Int32).toInt = 0 := rfl
    omega
  · obtain ⟨j, hj, rfl⟩ := nI_of c
    refine gfR_i _ k2 rfl (lenA_i k3 ?_)
    refine ⟨fun c2 => h0 ?_, fun c2 => ?_⟩
    · have c2 : nI 7 ≤ nI j := c2
      rw [nI_leI (by omega) hj] at c2
      unfold S_at
      rw [nI_toInt hj, if_neg (by omega)]
    · have c2 : ¬ nI 7 ≤ nI j := c2
      rw [nI_leI (by omega) hj] at c2
      have hj7 : j < 7 := by omega
      refine gfR_i _ k2 rfl (alR_i k3 rfl hj7 (by omega) ?_)
      rw [S_at_nI S hj7] at h0 h1
      rcases k4 j hj7 with ⟨c3, c4⟩ | ⟨o, r, b, n, c3, c4, c5⟩
      · rw [c3]; exact h0 c4
      · rw [c3]
        have := S_12 k1 hj7 c4
        exact h1 o r b n c4 c5 this.1 this.2
theorem c_rcv {P : Prop} (h : TwR G L S) (hp : P) : rcv G (some L.1) 3 P := by
  obtain ⟨k1, ⟨lf, k2, k3, k4⟩, -⟩ := h
  exact rcv_i k2 hp
theorem c_listAt {post : Option Nat → tG → Prop} {postX : String → tG → Prop} (h : TwR G L S) (h0 : S_at S v = none → postX "java/lang/IndexOutOfBoundsException" G) (h1 : ∀ o r b n, S_at S v = some (r, b, n) → G o = some (oRL (nI r) (L.2.2.2 r) b n) → r < 3 → b + n ≤ 12 → post (some o) G) : w_X1_listAt K post postX (some L.1) v G := by
  refine c_rcv h (c_listOrNull h (fun c => ?_) (fun o r b n c1 c2 c3 c4 => ?_))
  · exact ⟨fun q => absurd rfl q, fun _ => h0 c⟩
  · exact ⟨fun _ => h1 o r b n c1 c2 c3 c4, fun q => by cases q⟩
/-- a twin by its row's number -/
def S_tw (S : tS) (v : Int32) : Option (Nat × Nat × Nat) := if 0 ≤ v.toInt ∧ v.toInt < 3 then S.1 v.toInt.toNat else none
theorem c_twinAt {post : Option Nat → tG → Prop} {postX : String → tG → Prop} (h : TwR G L S) (h0 : S_tw S v = none → postX "java/lang/IndexOutOfBoundsException" G) (h1 : ∀ o r n, v = nI r → S.1 r = some (r, 0, n) → G o = some (oRL (nI r) (L.2.2.2 r) 0 n) → r < 3 → n ≤ 12 → post (some o) G) : w_X1_twinAt K post postX (some L.1) v G := by
  have k1 := h.1
  refine ⟨fun c => ?_, fun c => c_rcv h (c_listOrNull h (fun c2 => ?_) (fun o r b n c1 c2 c3 c4 => ?_))⟩
  · refine ⟨fun q => absurd rfl q, fun _ => h0 ?_⟩
    rw [i32_le] at c
    unfold S_tw
    rw [if_neg]
    intro q
    have : (3 : Int32).toInt = 3 := rfl
    omega
  · refine ⟨fun q => absurd rfl q, fun _ => h0 ?_⟩
    unfold S_tw
    unfold S_at at c2
    by_cases q : 0 ≤ v.toInt ∧ v.toInt < 3
    · rw [if_pos ⟨q.1, by omega⟩] at c2
      rw [if_pos q]; exact c2
    · rw [if_neg q]
  · refine ⟨fun _ => ?_, fun q => by cases q⟩
    unfold S_at at c1
    by_cases q : 0 ≤ v.toInt ∧ v.toInt < 7
    · rw [if_pos q] at c1
      rw [i32_le] at c
      have h3 : (3 : Int32).toInt = 3 := rfl
      have hr : v.toInt.toNat < 3 := by omega
      obtain ⟨n0, e1, e2⟩ := k1.1 _ hr
      rw [c1] at e1
      cases e1
      have hv : v = nI v.toInt.toNat := by
        obtain ⟨j, hj, e⟩ := nI_of (x := v) (by rw [i32_lt]; have : (0 : Int32).toInt = 0 := rfl; omega)
        rw [e, nI_toInt hj]; rfl
      exact h1 o _ n hv c1 c2 hr (by omega)
    · rw [if_neg q] at c1; cases c1
end TWA
/-! the checks -/
section CHK
variable {K : tK} {G : tG} {post : tG → Prop} {postX : String → tG → Prop}
abbrev inR (x a b : Int32) : Prop := ¬ x < a ∧ x ≤ b
theorem c_checkNumber {x a b : Int32} (h1 : inR x a b → post G) (h2 : ¬ inR x a b → postX "java/lang/IllegalArgumentException" G) : w_X1_checkNumber K post postX x a b G :=
  ⟨fun c => h2 (fun q => q.1 c), fun c => ⟨fun c2 => h1 ⟨c, c2⟩, fun c2 => h2 (fun q => c2 q.2)⟩⟩
theorem c_checkValue {x : Int32} (h1 : okV x → post G) (h2 : ¬ okV x → postX "java/lang/IllegalArgumentException" G) : w_X1_checkValue K post postX x G :=
  ⟨fun c => h1 (Or.inl c), fun c => c_checkNumber (fun q => h1 (Or.inr q)) (fun q => h2 (fun z => z.elim c q))⟩
theorem c_checkRule {x y : Int32} (h1 : inR x 0 3 → inR y (-99) 99 → post G) (h2 : ¬ (inR x 0 3 ∧ inR y (-99) 99) → postX "java/lang/IllegalArgumentException" G) : w_X1_checkRule K post postX x y G :=
  c_checkNumber (fun q => c_checkNumber (fun q2 => h1 q q2) (fun q2 => h2 (fun z => q2 z.2))) (fun q => h2 (fun z => q z.1))
theorem c_checkPart {x : Int32} (h1 : ∀ j, 3 ≤ j → j < 7 → x = nI j → post G) (h2 : ¬ (3 ≤ x.toInt ∧ x.toInt < 7) → postX "java/lang/IndexOutOfBoundsException" G) : w_X1_checkPart K post postX x G := by
  have e3 : (3 : Int32).toInt = 3 := rfl
  have e7 : (7 : Int32).toInt = 7 := rfl
  have e0 : (0 : Int32).toInt = 0 := rfl
  refine ⟨fun c => h2 ?_, fun c => ⟨fun c2 => ?_, fun c2 => h2 ?_⟩⟩
  · rw [i32_lt] at c; omega
  · rw [i32_lt] at c c2
    obtain ⟨j, hj, rfl⟩ := nI_of (x := x) (by rw [i32_lt]; omega)
    rw [nI_toInt hj] at c c2
    exact h1 j (by omega) (by omega) rfl
  · rw [i32_lt] at c2; omega
/-- a place of a list of n -/
theorem c_checkPlace {r v : Int32} {o a b n : Nat} (ho : G o = some (oRL r a b n)) (hn : n ≤ 12) (h1 : ∀ i, i < n → v = nI i → post G) (h2 : ¬ (0 ≤ v.toInt ∧ v.toInt < n) → postX "java/lang/IndexOutOfBoundsException" G) : w_X1_checkPlace K post postX (some o) v G := by
  have e0 : (0 : Int32).toInt = 0 := rfl
  refine rcv_i ho ?_
  by_cases c : v < 0
  · refine l_isPlaceN c ⟨fun q => absurd rfl q, fun _ => h2 ?_⟩
    rw [i32_lt] at c; omega
  · obtain ⟨i, hi, rfl⟩ := nI_of c
    refine l_isPlace ho hi (by omega) ?_
    by_cases c2 : i < n
    · rw [if_pos c2]
      exact ⟨fun _ => h1 i c2 rfl, fun q => absurd q (by decide)⟩
    · rw [if_neg c2]
      refine ⟨fun q => absurd rfl q, fun _ => h2 ?_⟩
      rw [nI_toInt hi]; omega
end CHK
end GRP20x0
section GRP20x1
/-! what a call does: 0 and its answer, or 1 / 2 for the two refusals; the rows behind it -/
abbrev tA : Type := Nat × Int32 × tS
def tRes (L : tL) (G : tG) (post : Int32 → tG → Prop) (postX : String → tG → Prop) (a : tA) : Prop := ∀ G' : tG, fr (clsW L) G G' → TwR G' L a.2.2 → (a.1 = 0 → post a.2.1 G') ∧ (a.1 = 1 → postX "java/lang/IndexOutOfBoundsException" G') ∧ (a.1 = 2 → postX "java/lang/IllegalArgumentException" G')
theorem nI_nat {i : Nat} (h : i < 2 ^ 31) : (nI i).toInt.toNat = i := by rw [nI_toInt h]; rfl
theorem nI_inn {i n : Nat} (h : i < n) (hn : n < 2 ^ 31) : 0 ≤ (nI i).toInt ∧ (nI i).toInt < n := by rw [nI_toInt (by omega)]; omega
def sp_at (S : tS) (q : Option (Nat × Nat × Nat)) (w : Int32) (f : Nat → Nat → Nat → Nat → tA) : tA := match q with
  | none => (1, 0, S)
  | some (r, b, n) => if 0 ≤ w.toInt ∧ w.toInt < n then f r b n w.toInt.toNat else (1, 0, S)
def sp_li (S : tS) (q : Option (Nat × Nat × Nat)) (f : Nat → Nat → Nat → tA) : tA := match q with
  | none => (1, 0, S)
  | some (r, b, n) => f r b n
def S_ref (S : tS) : tS := (S.1, S.2.1, S.2.2.1, S.2.2.2 + 1)
section CLA
variable {K : tK} {G : tG} {L : tL} {S : tS} {post : Int32 → tG → Prop} {postX : String → tG → Prop}
theorem c_refuseIf {b : Int32} (h : TwR G L S) (h1 : b ≠ 0 → ∀ G', fr (clsW L) G G' → TwR G' L (S_ref S) → post (-9) G') (h0 : b = 0 → post 0 G) : w_X1_refuseIf K post (some L.1) b G := by
  refine ⟨fun c => ?_, fun c => h0 c⟩
  obtain ⟨lf, k2, k3, k4⟩ := h.2.1
  refine gfI_i k2 rfl (pfV_i k2 (Nat.le_of_ble_eq_true rfl) ?_)
  exact h1 c _ (fr_up _ (Or.inl rfl)) (TwR_own h _ _)
theorem c_knock {pk : Int32 → tG → Prop} (h : TwR G L S) (h1 : ∀ G', fr (clsW L) G G' → TwR G' L (S.1, S.2.1, S.2.2.1 + 1, S.2.2.2) → pk (S.2.2.1 + 1) G') : w_X1_knock K pk (some L.1) G := by
  obtain ⟨lf, k2, k3, k4⟩ := h.2.1
  refine gfI_i k2 rfl (pfV_i k2 (Nat.le_of_ble_eq_true rfl) (gfI_i (tg_s _ _ _) rfl ?_))
  exact h1 _ (fr_up _ (Or.inl rfl)) (TwR_own h _ _)
/-- a place of a list, and what stands there -/
theorem c_get {v w : Int32} (h : TwR G L S) (hp : tRes L G post postX (sp_at S (S_at S v) w fun r b n i => (0, S.2.1 r (b + i), S))) : w_X1_get K post postX (some L.1) v w G := by
  refine c_rcv h (c_listAt h (fun c => ?_) (fun o r b n c1 c2 c3 c4 => ?_))
  · rw [c] at hp; exact (hp G (fr_rf _ _) h).2.1 rfl
  · rw [c1] at hp
    refine c_checkPlace c2 (by omega) (fun i hi e => ?_) (fun c => ?_)
    · subst e
      simp only [sp_at, if_pos (nI_inn hi (show n < 2 ^ 31 by omega)), nI_nat (show i < 2 ^ 31 by omega)] at hp
      exact rcv_i c2 (l_read c2 (h.2.2.2.1 r c3) rfl (by omega) (by omega) ((hp G (fr_rf _ _) h).1 rfl))
    · simp only [sp_at, if_neg c] at hp
      exact (hp G (fr_rf _ _) h).2.1 rfl
theorem c_at {v w : Int32} (h : TwR G L S) (hp : tRes L G post postX (sp_at S (S_tw S v) w fun r b n i => (0, S.2.1 r (b + i), S))) : w_X1_at K post postX (some L.1) v w G := by
  refine c_rcv h (c_twinAt h (fun c => ?_) (fun o r n e1 c1 c2 c3 c4 => ?_))
  · rw [c] at hp; exact (hp G (fr_rf _ _) h).2.1 rfl
  · have e2 : S_tw S v = some (r, 0, n) := by
      rw [e1]; unfold S_tw
      rw [nI_toInt (by omega), if_pos (by omega)]; exact c1
    rw [e2] at hp
    refine c_checkPlace c2 (by omega) (fun i hi e => ?_) (fun c => ?_)
    · subst e
      simp only [sp_at, if_pos (nI_inn hi (show n < 2 ^ 31 by omega)), nI_nat (show i < 2 ^ 31 by omega)] at hp
      exact rcv_i c2 (l_read c2 (h.2.2.2.1 r c3) rfl (by omega) (by omega) ((hp G (fr_rf _ _) h).1 rfl))
    · simp only [sp_at, if_neg c] at hp
      exact (hp G (fr_rf _ _) h).2.1 rfl
/-- one value is written through a list -/
theorem t_write {pw : Int32 → tG → Prop} {o r b n i : Nat} {x : Int32} {v : Int32} (h : TwR G L S) (ho : G o = some (oRL (nI r) (L.2.2.2 r) b n)) (hr : r < 3) (hn : b + n ≤ 12) (hv : v = nI i) (hi : i < n) (hx : okV x) (hp : ∀ G', fr (clsW L) G G' → TwR G' L (S_put S r (b + i) x) → G' o = some (oRL (nI r) (L.2.2.2 r) b n) → pw (S.2.1 r (b + i)) G') : w_X0_write K pw (some o) v x G := by
  have hv9 := h.2.2.2.1 r hr
  exact l_write ho hv9 hv (by omega) (by omega) (hp _ (fr_up _ (clsW_va hr)) (TwR_put h hr _ hx) (tg_keep ho (ne_OI ho hv9)))

theorem c_set {v w x : Int32} (h : TwR G L S) (hp : tRes L G post postX (sp_at S (S_at S v) w fun r b n i => if okV x then (0, S.2.1 r (b + i), S_put S r (b + i) x) else (2, 0, S))) : w_X1_set K post postX (some L.1) v w x G := by
  refine c_rcv h (c_listAt h (fun c => ?_) (fun o r b n c1 c2 c3 c4 => ?_))
  · rw [c] at hp; exact (hp G (fr_rf _ _) h).2.1 rfl
  · rw [c1] at hp
    refine c_checkPlace c2 (by omega) (fun i hi e => ?_) (fun c => ?_)
    · subst e
      simp only [sp_at, if_pos (nI_inn hi (show n < 2 ^ 31 by omega)), nI_nat (show i < 2 ^ 31 by omega)] at hp
      refine c_checkValue (fun hx => ?_) (fun hx => ?_)
      · rw [if_pos hx] at hp
        exact rcv_i c2 (t_write h c2 c3 c4 rfl hi hx (fun G' q1 q2 _ => (hp G' q1 q2).1 rfl))
      · rw [if_neg hx] at hp
        exact (hp G (fr_rf _ _) h).2.2 rfl
    · simp only [sp_at, if_neg c] at hp
      exact (hp G (fr_rf _ _) h).2.1 rfl
end CLA
end GRP20x1
section GRP20x2
/-! searching -/
def fpF (f : Nat → Int32) (x : Int32) : Nat → Nat → Int32
  | 0, _ => -1
  | k + 1, i => if f i = x then nI i else fpF f x k (i + 1)
def lpF (f : Nat → Int32) (x : Int32) : Nat → Int32
  | 0 => -1
  | k + 1 => if f k = x then nI k else lpF f x k
def ofF (f : Nat → Int32) (x : Int32) : Nat → Int32
  | 0 => 0
  | k + 1 => ofF f x k + (if f k = x then 1 else 0)
/-- is it anywhere among the first n? -/
def hasF (f : Nat → Int32) (x : Int32) (n : Nat) : Bool := (List.range n).any fun i => decide (f i = x)
theorem fpF_ne (f : Nat → Int32) (x : Int32) : ∀ k i, i + k < 2 ^ 31 → (fpF f x k i = -1 ↔ ∀ j, i ≤ j → j < i + k → f j ≠ x)
  | 0, i, _ => ⟨fun _ j h1 h2 => absurd h2 (by omega), fun _ => rfl⟩
  | k + 1, i, h => by
    show (if f i = x then nI i else fpF f x k (i + 1)) = -1 ↔ _
    by_cases c : f i = x
    · rw [if_pos c]
      refine ⟨fun q => ?_, fun q => absurd c (q i (by omega) (by omega))⟩
      exact absurd (show nI i < 0 by rw [q]; decide) (nI_pos (by omega))
    · rw [if_neg c, fpF_ne f x k (i + 1) (by omega)]
      refine ⟨fun q j h1 h2 => ?_, fun q j h1 h2 => q j (by omega) (by omega)⟩
      by_cases e : j = i
      · rw [e]; exact c
      · exact q j (by omega) (by omega)
section SRC
variable {K : tK} {G : tG} {o v b n N : Nat} {r : Int32} {f : Nat → Int32} {x : Int32}
theorem c_firstPlace {pk : Int32 → tG → Prop} (ho : G o = some (oRL r v b n)) (hv : G v = some (eI N f)) (hN : N < 2 ^ 31) (hb : b + n ≤ N) (h : pk (fpF (fun i => f (b + i)) x n 0) G) : w_X1_firstPlace K pk (some o) x G := by
  have main : ∀ k i, i + k = n → pk (fpF (fun i => f (b + i)) x k i) G → w_X1_firstPlace_2 K pk (k + 1) (some o) x (nI i) G := by
    intro k
    induction k with
    | zero =>
      intro i hi hp
      show w_X1_firstPlace_2_b K pk (w_X1_firstPlace_2 K pk 0) (some o) x (nI i) G
      exact gfI_i ho rfl ⟨fun _ => hp, fun c => absurd (nI_le (by omega) (by omega)) c⟩
    | succ k ih =>
      intro i hi hp
      show w_X1_firstPlace_2_b K pk (w_X1_firstPlace_2 K pk (k + 1)) (some o) x (nI i) G
      refine gfI_i ho rfl ⟨fun c => absurd c (nI_ge (by omega) (by omega)), fun _ => rcv_i ho (l_read ho hv rfl (by omega) hN ⟨fun c => ?_, fun c => ?_⟩)⟩
      · simp only [fpF, if_neg c] at hp
        rw [nI_1]
        exact ih (i + 1) (by omega) hp
      · simp only [fpF, if_pos c] at hp
        exact hp
  exact ⟨n + 1, main n 0 (by omega) h⟩
theorem c_lastPlace {pk : Int32 → tG → Prop} (ho : G o = some (oRL r v b n)) (hv : G v = some (eI N f)) (hN : N < 2 ^ 31) (hb : b + n ≤ N) (h : pk (lpF (fun i => f (b + i)) x n) G) : w_X1_lastPlace K pk (some o) x G := by
  have main : ∀ k, k ≤ n → pk (lpF (fun i => f (b + i)) x k) G → w_X1_lastPlace_7 K pk (k + 1) (some o) x (nI k - 1) G := by
    intro k
    induction k with
    | zero =>
      intro hi hp
      show w_X1_lastPlace_7_b K pk (w_X1_lastPlace_7 K pk 0) (some o) x (nI 0 - 1) G
      exact ⟨fun _ => hp, fun c => absurd (by decide) c⟩
    | succ k ih =>
      intro hi hp
      show w_X1_lastPlace_7_b K pk (w_X1_lastPlace_7 K pk (k + 1)) (some o) x (nI (k + 1) - 1) G
      rw [nI_pred]
      refine ⟨fun c => absurd c (nI_pos (by omega)), fun _ => rcv_i ho (l_read ho hv rfl (by omega) hN ⟨fun c => ?_, fun c => ?_⟩)⟩
      · simp only [lpF, if_neg c] at hp
        have e : nI k + (-1 : Int32) = nI k - 1 := by rw [Int32.sub_eq_add_neg]
        rw [e]
        exact ih (by omega) hp
      · simp only [lpF, if_pos c] at hp
        exact hp
  exact gfI_i ho rfl ⟨n + 1, main n (by omega) h⟩
theorem c_stands {pk : Int32 → tG → Prop} (ho : G o = some (oRL r v b n)) (hv : G v = some (eI N f)) (hN : N < 2 ^ 31) (hb : b + n ≤ N) (h : pk (if fpF (fun i => f (b + i)) x n 0 = -1 then 0 else 1) G) : w_X1_stands K pk (some o) x G := by
  refine c_firstPlace ho hv hN hb ⟨fun c => ⟨by decide, ?_⟩, fun c => ⟨by decide, ?_⟩⟩
  · rw [if_pos c] at h; exact h
  · rw [if_neg c] at h; exact h
end SRC
section CLB
variable {K : tK} {G : tG} {L : tL} {S : tS} {post : Int32 → tG → Prop} {postX : String → tG → Prop}
abbrev S_v (S : tS) (r b : Nat) : Nat → Int32 := fun i => S.2.1 r (b + i)
theorem c_length {v : Int32} (h : TwR G L S) (hp : tRes L G post postX (sp_li S (S_at S v) fun r b n => (0, nI n, S))) : w_X1_length K post postX (some L.1) v G := by
  refine c_rcv h (c_listAt h (fun c => ?_) (fun o r b n c1 c2 c3 c4 => ?_))
  · rw [c] at hp; exact (hp G (fr_rf _ _) h).2.1 rfl
  · rw [c1] at hp; exact gfI_i c2 rfl ((hp G (fr_rf _ _) h).1 rfl)
theorem c_isEmpty {v : Int32} (h : TwR G L S) (hp : tRes L G post postX (sp_li S (S_at S v) fun r b n => (0, if n = 0 then 1 else 0, S))) : w_X1_isEmpty K post postX (some L.1) v G := by
  refine c_rcv h (c_listAt h (fun c => ?_) (fun o r b n c1 c2 c3 c4 => ?_))
  · rw [c] at hp; exact (hp G (fr_rf _ _) h).2.1 rfl
  · rw [c1] at hp
    refine gfI_i c2 rfl ⟨fun c => ⟨by decide, ?_⟩, fun c => ⟨by decide, ?_⟩⟩
    · have hn : ¬ n = 0 := fun e => c (by rw [e]; rfl)
      simp only [sp_li, if_neg hn] at hp
      exact (hp G (fr_rf _ _) h).1 rfl
    · have hn : n = 0 := Decidable.byContradiction fun e => nI_ne0 (by omega) (by omega) c
      simp only [sp_li, if_pos hn] at hp
      exact (hp G (fr_rf _ _) h).1 rfl
theorem c_indexOf {v x : Int32} (h : TwR G L S) (hp : tRes L G post postX (sp_li S (S_at S v) fun r b n => if okV x then (0, fpF (S_v S r b) x n 0, S) else (2, 0, S))) : w_X1_indexOf K post postX (some L.1) v x G := by
  refine c_rcv h (c_listAt h (fun c => ?_) (fun o r b n c1 c2 c3 c4 => ?_))
  · rw [c] at hp; exact (hp G (fr_rf _ _) h).2.1 rfl
  · rw [c1] at hp
    refine c_checkValue (fun hx => ?_) (fun hx => ?_)
    · simp only [sp_li, if_pos hx] at hp
      exact c_firstPlace c2 (h.2.2.2.1 r c3) (by decide) c4 ((hp G (fr_rf _ _) h).1 rfl)
    · simp only [sp_li, if_neg hx] at hp
      exact (hp G (fr_rf _ _) h).2.2 rfl
theorem c_lastIndexOf {v x : Int32} (h : TwR G L S) (hp : tRes L G post postX (sp_li S (S_at S v) fun r b n => if okV x then (0, lpF (S_v S r b) x n, S) else (2, 0, S))) : w_X1_lastIndexOf K post postX (some L.1) v x G := by
  refine c_rcv h (c_listAt h (fun c => ?_) (fun o r b n c1 c2 c3 c4 => ?_))
  · rw [c] at hp; exact (hp G (fr_rf _ _) h).2.1 rfl
  · rw [c1] at hp
    refine c_checkValue (fun hx => ?_) (fun hx => ?_)
    · simp only [sp_li, if_pos hx] at hp
      exact c_lastPlace c2 (h.2.2.2.1 r c3) (by decide) c4 ((hp G (fr_rf _ _) h).1 rfl)
    · simp only [sp_li, if_neg hx] at hp
      exact (hp G (fr_rf _ _) h).2.2 rfl
theorem c_has {v x : Int32} (h : TwR G L S) (hp : tRes L G post postX (sp_li S (S_at S v) fun r b n => if okV x then (0, if fpF (S_v S r b) x n 0 = -1 then 0 else 1, S) else (2, 0, S))) : w_X1_has K post postX (some L.1) v x G := by
  refine c_rcv h (c_listAt h (fun c => ?_) (fun o r b n c1 c2 c3 c4 => ?_))
  · rw [c] at hp; exact (hp G (fr_rf _ _) h).2.1 rfl
  · rw [c1] at hp
    refine c_checkValue (fun hx => ?_) (fun hx => ?_)
    · simp only [sp_li, if_pos hx] at hp
      refine c_stands c2 (h.2.2.2.1 r c3) (by decide) c4 ⟨?_, (hp G (fr_rf _ _) h).1 rfl⟩
      split <;> decide
    · simp only [sp_li, if_neg hx] at hp
      exact (hp G (fr_rf _ _) h).2.2 rfl
/-! what is refused -/
theorem c_add {v x : Int32} (h : TwR G L S) (hp : tRes L G post postX (sp_li S (S_at S v) fun _ _ _ => if okV x then (0, -9, S_ref S) else (2, 0, S))) : w_X1_add K post postX (some L.1) v x G := by
  refine c_rcv h (c_listAt h (fun c => ?_) (fun o r b n c1 c2 c3 c4 => ?_))
  · rw [c] at hp; exact (hp G (fr_rf _ _) h).2.1 rfl
  · rw [c1] at hp
    refine c_checkValue (fun hx => ?_) (fun hx => ?_)
    · simp only [sp_li, if_pos hx] at hp
      exact c_rcv h (c_refuseIf h (fun _ G' q1 q2 => (hp G' q1 q2).1 rfl) (fun q => absurd q (by decide)))
    · simp only [sp_li, if_neg hx] at hp
      exact (hp G (fr_rf _ _) h).2.2 rfl
theorem c_addAt {v w x : Int32} (h : TwR G L S) (hp : tRes L G post postX (sp_li S (S_at S v) fun _ _ n => if inR w 0 (nI n) ∧ okV x then (0, -9, S_ref S) else (2, 0, S))) : w_X1_addAt K post postX (some L.1) v w x G := by
  refine c_rcv h (c_listAt h (fun c => ?_) (fun o r b n c1 c2 c3 c4 => ?_))
  · rw [c] at hp; exact (hp G (fr_rf _ _) h).2.1 rfl
  · rw [c1] at hp
    refine gfI_i c2 rfl (c_checkNumber (fun hw => c_checkValue (fun hx => ?_) (fun hx => ?_)) (fun hw => ?_))
    · simp only [sp_li, if_pos (And.intro hw hx)] at hp
      exact c_rcv h (c_refuseIf h (fun _ G' q1 q2 => (hp G' q1 q2).1 rfl) (fun q => absurd q (by decide)))
    · simp only [sp_li, if_neg (fun q : inR w 0 (nI n) ∧ okV x => hx q.2)] at hp
      exact (hp G (fr_rf _ _) h).2.2 rfl
    · simp only [sp_li, if_neg (fun q : inR w 0 (nI n) ∧ okV x => hw q.1)] at hp
      exact (hp G (fr_rf _ _) h).2.2 rfl
theorem c_remove {v w : Int32} (h : TwR G L S) (hp : tRes L G post postX (sp_at S (S_at S v) w fun _ _ _ _ => (0, -9, S_ref S))) : w_X1_remove K post postX (some L.1) v w G := by
  refine c_rcv h (c_listAt h (fun c => ?_) (fun o r b n c1 c2 c3 c4 => ?_))
  · rw [c] at hp; exact (hp G (fr_rf _ _) h).2.1 rfl
  · rw [c1] at hp
    refine c_checkPlace c2 (by omega) (fun i hi e => ?_) (fun c => ?_)
    · subst e
      simp only [sp_at, if_pos (nI_inn hi (show n < 2 ^ 31 by omega))] at hp
      exact c_rcv h (c_refuseIf h (fun _ G' q1 q2 => (hp G' q1 q2).1 rfl) (fun q => absurd q (by decide)))
    · simp only [sp_at, if_neg c] at hp
      exact (hp G (fr_rf _ _) h).2.1 rfl
theorem c_walkChange {v w x : Int32} (h : TwR G L S) (hp : tRes L G post postX (sp_at S (S_at S v) w fun _ _ _ _ => if inR x 0 2 then (0, -9, S_ref S) else (2, 0, S))) : w_X1_walkChange K post postX (some L.1) v w x G := by
  refine c_rcv h (c_listAt h (fun c => ?_) (fun o r b n c1 c2 c3 c4 => ?_))
  · rw [c] at hp; exact (hp G (fr_rf _ _) h).2.1 rfl
  · rw [c1] at hp
    refine c_checkPlace c2 (by omega) (fun i hi e => ?_) (fun c => ?_)
    · subst e
      simp only [sp_at, if_pos (nI_inn hi (show n < 2 ^ 31 by omega))] at hp
      refine c_checkNumber (fun hx => ?_) (fun hx => ?_)
      · rw [if_pos hx] at hp
        exact c_rcv h (c_refuseIf h (fun _ G' q1 q2 => (hp G' q1 q2).1 rfl) (fun q => absurd q (by decide)))
      · rw [if_neg hx] at hp
        exact (hp G (fr_rf _ _) h).2.2 rfl
    · simp only [sp_at, if_neg c] at hp
      exact (hp G (fr_rf _ _) h).2.1 rfl
theorem c_clear {v : Int32} (h : TwR G L S) (hp : tRes L G post postX (sp_li S (S_at S v) fun _ _ n => if n = 0 then (0, 0, S) else (0, -9, S_ref S))) : w_X1_clear K post postX (some L.1) v G := by
  refine c_rcv h (c_listAt h (fun c => ?_) (fun o r b n c1 c2 c3 c4 => ?_))
  · rw [c] at hp; exact (hp G (fr_rf _ _) h).2.1 rfl
  · rw [c1] at hp
    refine gfI_i c2 rfl ⟨fun c => c_rcv h (c_refuseIf h (fun q => absurd rfl q) (fun _ => ?_)), fun c => c_rcv h (c_refuseIf h (fun _ G' q1 q2 => ?_) (fun q => absurd q (by decide)))⟩
    · have hn : n = 0 := Decidable.byContradiction fun e => nI_nle (by omega) (by omega) c
      simp only [sp_li, if_pos hn] at hp
      exact (hp G (fr_rf _ _) h).1 rfl
    · have hn : ¬ n = 0 := fun e => c (by rw [e]; decide)
      simp only [sp_li, if_neg hn] at hp
      exact (hp G' q1 q2).1 rfl
theorem c_removeValue {v x : Int32} (h : TwR G L S) (hp : tRes L G post postX (sp_li S (S_at S v) fun r b n => if okV x then (if fpF (S_v S r b) x n 0 = -1 then (0, 0, S) else (0, -9, S_ref S)) else (2, 0, S))) : w_X1_removeValue K post postX (some L.1) v x G := by
  refine c_rcv h (c_listAt h (fun c => ?_) (fun o r b n c1 c2 c3 c4 => ?_))
  · rw [c] at hp; exact (hp G (fr_rf _ _) h).2.1 rfl
  · rw [c1] at hp
    refine c_checkValue (fun hx => ?_) (fun hx => ?_)
    · simp only [sp_li, if_pos hx] at hp
      refine c_stands c2 (h.2.2.2.1 r c3) (by decide) c4 ?_
      by_cases c : fpF (S_v S r b) x n 0 = -1
      · rw [if_pos c] at hp
        rw [if_pos c]
        exact c_rcv h (c_refuseIf h (fun q => absurd rfl q) (fun _ => (hp G (fr_rf _ _) h).1 rfl))
      · rw [if_neg c] at hp
        rw [if_neg c]
        exact c_rcv h (c_refuseIf h (fun _ G' q1 q2 => (hp G' q1 q2).1 rfl) (fun q => absurd q (by decide)))
    · simp only [sp_li, if_neg hx] at hp
      exact (hp G (fr_rf _ _) h).2.2 rfl
end CLB
end GRP20x2
section GRP20x3
/-! values written one behind another -/
def S_map (S : tS) (r b : Nat) (f : Nat → Int32 → Int32) : Nat → tS
  | 0 => S
  | k + 1 => S_put (S_map S r b f k) r (b + k) (f k ((S_map S r b f k).2.1 r (b + k)))
def S_exch (S : tS) (r i j : Nat) : tS := S_put (S_put S r i (S.2.1 r j)) r j (S.2.1 r i)
section CLD
variable {K : tK} {G : tG} {L : tL} {S : tS} {post : Int32 → tG → Prop} {postX : String → tG → Prop}
theorem c_put {v w x : Int32} (h : TwR G L S) (hp : tRes L G post postX (sp_at S (S_tw S v) w fun r b n i => if okV x then (0, S.2.1 r (b + i), S_put S r (b + i) x) else (2, 0, S))) : w_X1_put K post postX (some L.1) v w x G := by
  refine c_rcv h (c_twinAt h (fun c => ?_) (fun o r n e1 c1 c2 c3 c4 => ?_))
  · rw [c] at hp; exact (hp G (fr_rf _ _) h).2.1 rfl
  · have e2 : S_tw S v = some (r, 0, n) := by
      rw [e1]; unfold S_tw
      rw [nI_toInt (by omega), if_pos (by omega)]; exact c1
    rw [e2] at hp
    refine c_checkPlace c2 (by omega) (fun i hi e => ?_) (fun c => ?_)
    · subst e
      simp only [sp_at, if_pos (nI_inn hi (show n < 2 ^ 31 by omega)), nI_nat (show i < 2 ^ 31 by omega)] at hp
      refine c_checkValue (fun hx => ?_) (fun hx => ?_)
      · rw [if_pos hx] at hp
        exact rcv_i c2 (t_write h c2 c3 (by omega) rfl hi hx (fun G' q1 q2 _ => (hp G' q1 q2).1 rfl))
      · rw [if_neg hx] at hp
        exact (hp G (fr_rf _ _) h).2.2 rfl
    · simp only [sp_at, if_neg c] at hp
      exact (hp G (fr_rf _ _) h).2.1 rfl
theorem c_writeAll {pv : tG → Prop} {o r b n : Nat} {x : Int32} (h : TwR G L S) (ho : G o = some (oRL (nI r) (L.2.2.2 r) b n)) (hr : r < 3) (hn : b + n ≤ 12) (hx : okV x) (hp : ∀ G', fr (clsW L) G G' → TwR G' L (S_map S r b (fun _ _ => x) n) → G' o = some (oRL (nI r) (L.2.2.2 r) b n) → pv G') : w_X1_writeAll K pv (some o) x G := by
  have main : ∀ k i G1, i + k = n → fr (clsW L) G G1 → TwR G1 L (S_map S r b (fun _ _ => x) i) → G1 o = some (oRL (nI r) (L.2.2.2 r) b n) → w_X1_writeAll_2 K pv (k + 1) (some o) x (nI i) G1 := by
    intro k
    induction k with
    | zero =>
      intro i G1 hi hf h1 ho1
      show w_X1_writeAll_2_b K pv (w_X1_writeAll_2 K pv 0) (some o) x (nI i) G1
      have e : i = n := by omega
      subst e
      exact gfI_i ho1 rfl ⟨fun _ => hp G1 hf h1 ho1, fun c => absurd (nI_le (by omega) (by omega)) c⟩
    | succ k ih =>
      intro i G1 hi hf h1 ho1
      show w_X1_writeAll_2_b K pv (w_X1_writeAll_2 K pv (k + 1)) (some o) x (nI i) G1
      refine gfI_i ho1 rfl ⟨fun c => absurd c (nI_ge (by omega) (by omega)), fun _ => rcv_i ho1 (t_write h1 ho1 hr hn rfl (by omega) hx (fun G' q1 q2 q3 => ?_))⟩
      rw [nI_1]
      exact ih (i + 1) G' (by omega) (fr_tr hf q1) q2 q3
  exact ⟨n + 1, main n 0 G (by omega) (fr_rf _ _) h ho⟩
theorem c_fill {v x : Int32} (h : TwR G L S) (hp : tRes L G post postX (sp_li S (S_at S v) fun r b n => if okV x then (0, nI n, S_map S r b (fun _ _ => x) n) else (2, 0, S))) : w_X1_fill K post postX (some L.1) v x G := by
  refine c_rcv h (c_listAt h (fun c => ?_) (fun o r b n c1 c2 c3 c4 => ?_))
  · rw [c] at hp; exact (hp G (fr_rf _ _) h).2.1 rfl
  · rw [c1] at hp
    refine c_checkValue (fun hx => ?_) (fun hx => ?_)
    · simp only [sp_li, if_pos hx] at hp
      exact c_writeAll h c2 c3 c4 hx (fun G' q1 q2 q3 => gfI_i q3 rfl ((hp G' q1 q2).1 rfl))
    · simp only [sp_li, if_neg hx] at hp
      exact (hp G (fr_rf _ _) h).2.2 rfl
/-- every old value becomes x; 1 if there was one -/
def roF (S : tS) (r b : Nat) (old x : Int32) : Nat → tS × Int32
  | 0 => (S, 0)
  | k + 1 => if (roF S r b old x k).1.2.1 r (b + k) = old then (S_put (roF S r b old x k).1 r (b + k) x, 1) else roF S r b old x k
theorem c_replaceOld {v y x : Int32} (h : TwR G L S) (hp : tRes L G post postX (sp_li S (S_at S v) fun r b n => if okV y ∧ okV x then (0, (roF S r b y x n).2, (roF S r b y x n).1) else (2, 0, S))) : w_X1_replaceOld K post postX (some L.1) v y x G := by
  refine c_rcv h (c_listAt h (fun c => ?_) (fun o r b n c1 c2 c3 c4 => ?_))
  · rw [c] at hp; exact (hp G (fr_rf _ _) h).2.1 rfl
  · rw [c1] at hp
    refine c_checkValue (fun hy => c_checkValue (fun hx => ?_) (fun hx => ?_)) (fun hy => ?_)
    · simp only [sp_li, if_pos (And.intro hy hx)] at hp
      have main : ∀ k i G1, i + k = n → fr (clsW L) G G1 → TwR G1 L (roF S r b y x i).1 → G1 o = some (oRL (nI r) (L.2.2.2 r) b n) → w_X1_replaceOld_21 K post postX (k + 1) y x (some o) (roF S r b y x i).2 (nI i) G1 := by
        intro k
        induction k with
        | zero =>
          intro i G1 hi hf h1 ho1
          show w_X1_replaceOld_21_b K post postX (w_X1_replaceOld_21 K post postX 0) y x (some o) (roF S r b y x i).2 (nI i) G1
          have e : i = n := by omega
          subst e
          exact gfI_i ho1 rfl ⟨fun _ => (hp G1 hf h1).1 rfl, fun c => absurd (nI_le (by omega) (by omega)) c⟩
        | succ k ih =>
          intro i G1 hi hf h1 ho1
          show w_X1_replaceOld_21_b K post postX (w_X1_replaceOld_21 K post postX (k + 1)) y x (some o) (roF S r b y x i).2 (nI i) G1
          refine gfI_i ho1 rfl ⟨fun c => absurd c (nI_ge (by omega) (by omega)), fun _ => rcv_i ho1 (l_read ho1 (h1.2.2.2.1 r c3) rfl (by omega) (by omega) ⟨fun c => ?_, fun c => ?_⟩)⟩
          · show w_X1_replaceOld_21 K post postX (k + 1) y x (some o) (roF S r b y x i).2 (nI i + 1) G1
            rw [nI_1]
            have e : roF S r b y x (i + 1) = roF S r b y x i := by show (if _ then _ else _) = _; rw [if_neg c]
            have := ih (i + 1) G1 (by omega) hf (by rw [e]; exact h1) ho1
            rw [e] at this
            exact this
          · refine rcv_i ho1 (t_write h1 ho1 c3 c4 rfl (by omega) hx (fun G' q1 q2 q3 => ?_))
            show w_X1_replaceOld_21 K post postX (k + 1) y x (some o) 1 (nI i + 1) G'
            rw [nI_1]
            have e : roF S r b y x (i + 1) = (S_put (roF S r b y x i).1 r (b + i) x, 1) := by show (if _ then _ else _) = _; rw [if_pos c]
            have := ih (i + 1) G' (by omega) (fr_tr hf q1) (by rw [e]; exact q2) q3
            rw [e] at this
            exact this
      exact ⟨n + 1, main n 0 G (by omega) (fr_rf _ _) h c2⟩
    · simp only [sp_li, if_neg (fun q : okV y ∧ okV x => hx q.2)] at hp
      exact (hp G (fr_rf _ _) h).2.2 rfl
    · simp only [sp_li, if_neg (fun q : okV y ∧ okV x => hy q.1)] at hp
      exact (hp G (fr_rf _ _) h).2.2 rfl
theorem t_okV (h : TwR G L S) {r i : Nat} (hr : r < 3) (hi : i < 12) : okV (S.2.1 r i) := h.1.2.2 r i hr hi
/-- two places of a list change their values -/
theorem c_exchange {pv : tG → Prop} {o r b n i j : Nat} {v w : Int32} (h : TwR G L S) (ho : G o = some (oRL (nI r) (L.2.2.2 r) b n)) (hr : r < 3) (hn : b + n ≤ 12) (hv : v = nI i) (hw : w = nI j) (hi : i < n) (hj : j < n) (hp : ∀ G', fr (clsW L) G G' → TwR G' L (S_exch S r (b + i) (b + j)) → G' o = some (oRL (nI r) (L.2.2.2 r) b n) → pv G') : w_X0_exchange K pv (some o) v w G := by
  refine rcv_i ho (l_read ho (h.2.2.2.1 r hr) hw (by omega) (by omega) ?_)
  refine rcv_i ho (t_write h ho hr hn hv hi (t_okV h hr (by omega)) (fun G1 q1 q2 q3 => ?_))
  refine rcv_i q3 (t_write q2 q3 hr hn hw hj (t_okV h hr (by omega)) (fun G2 p1 p2 p3 => ?_))
  exact hp G2 (fr_tr q1 p1) p2 p3
theorem c_swap {v w x : Int32} (h : TwR G L S) (hp : tRes L G post postX (sp_at S (S_at S v) w fun r b n i => if 0 ≤ x.toInt ∧ x.toInt < n then (0, if S.2.1 r (b + i) = S.2.1 r (b + x.toInt.toNat) then 0 else 1, S_exch S r (b + i) (b + x.toInt.toNat)) else (1, 0, S))) : w_X1_swap K post postX (some L.1) v w x G := by
  refine c_rcv h (c_listAt h (fun c => ?_) (fun o r b n c1 c2 c3 c4 => ?_))
  · rw [c] at hp; exact (hp G (fr_rf _ _) h).2.1 rfl
  · rw [c1] at hp
    refine c_checkPlace c2 (by omega) (fun i hi e => ?_) (fun c => ?_)
    · subst e
      simp only [sp_at, if_pos (nI_inn hi (show n < 2 ^ 31 by omega)), nI_nat (show i < 2 ^ 31 by omega)] at hp
      refine c_checkPlace c2 (by omega) (fun j hj e => ?_) (fun c => ?_)
      · subst e
        simp only [if_pos (nI_inn hj (show n < 2 ^ 31 by omega)), nI_nat (show j < 2 ^ 31 by omega)] at hp
        have hv := h.2.2.2.1 r c3
        refine rcv_i c2 (l_read c2 hv rfl (by omega) (by omega) (rcv_i c2 (l_read c2 hv rfl (by omega) (by omega) ⟨fun c => ?_, fun c => ?_⟩)))
        · rw [if_neg c] at hp
          exact rcv_i c2 (c_exchange h c2 c3 c4 rfl rfl hi hj (fun G' q1 q2 _ => (hp G' q1 q2).1 rfl))
        · rw [if_pos c] at hp
          exact rcv_i c2 (c_exchange h c2 c3 c4 rfl rfl hi hj (fun G' q1 q2 _ => (hp G' q1 q2).1 rfl))
      · rw [if_neg c] at hp
        exact (hp G (fr_rf _ _) h).2.1 rfl
    · simp only [sp_at, if_neg c] at hp
      exact (hp G (fr_rf _ _) h).2.1 rfl
end CLD
end GRP20x3
section GRP20x4
/-! turning a piece round, sorting -/
def tuF (r b : Nat) : Nat → Nat → Nat → tS → tS
  | 0, _, _, S => S
  | k + 1, i, e, S => if i + 1 < e then tuF r b k (i + 1) (e - 1) (S_exch S r (b + i) (b + (e - 1))) else S
def goF (fall x y : Int32) : Bool := if fall = 0 then decide (x < y) else decide (y < x)
def skF (r b : Nat) (fall : Int32) : Nat → tS → tS
  | 0, S => S
  | p + 1, S => if goF fall (S.2.1 r (b + (p + 1))) (S.2.1 r (b + p)) then skF r b fall p (S_exch S r (b + (p + 1)) (b + p)) else S
def soF (r b : Nat) (fall : Int32) (S : tS) : Nat → tS
  | 0 => S
  | k + 1 => skF r b fall (k + 1) (soF r b fall S k)
theorem nI_m1 (k : Nat) : nI k + (-1 : Int32) = nI k - 1 := by rw [Int32.sub_eq_add_neg]
theorem c_compare {K : tK} {G : tG} {x y : Int32} {pk : Int32 → tG → Prop} (h : ∀ z : Int32, (z < 0 ↔ x < y) → (0 < z ↔ y < x) → pk z G) : w_J6_compare_7cf53 K pk x y G := by
  refine ⟨fun c => ⟨fun c2 => h 1 ⟨fun q => absurd q (by decide), fun q => ?_⟩ ⟨fun _ => ?_, fun _ => by decide⟩, fun c2 => h 0 ⟨fun q => absurd q (by decide), fun q => ?_⟩ ⟨fun q => absurd q (by decide), fun q => ?_⟩⟩, fun c => h (-1) ⟨fun _ => ?_, fun _ => by decide⟩ ⟨fun q => absurd q (by decide), fun q => ?_⟩⟩
  · rw [i32_lt] at q; rw [i32_le] at c; omega
  · rw [i32_lt]; rw [i32_le] at c
    have : x.toInt ≠ y.toInt := fun e => c2 (Int32.toInt_inj.mp e)
    omega
  · subst c2; rw [i32_lt] at q; omega
  · subst c2; rw [i32_lt] at q; omega
  · rw [i32_lt]; rw [i32_le] at c; omega
  · rw [i32_lt] at q; rw [i32_le] at c; omega
section CLE
variable {K : tK} {G : tG} {L : tL} {S : tS} {post : Int32 → tG → Prop} {postX : String → tG → Prop}
theorem c_turn {pv : tG → Prop} {o r b n : Nat} (hr : r < 3) (hn : b + n ≤ 12) : ∀ (k i e : Nat) (S : tS) (G : tG), e ≤ n → i ≤ 12 → e ≤ i + k → TwR G L S → G o = some (oRL (nI r) (L.2.2.2 r) b n) → (∀ G', fr (clsW L) G G' → TwR G' L (tuF r b k i e S) → G' o = some (oRL (nI r) (L.2.2.2 r) b n) → pv G') → w_X1_turn_7 K pv (k + 1) (some o) (nI e - 1) (nI i) G := by
  intro k
  induction k with
  | zero =>
    intro i e S G he hi hk h ho hp
    show w_X1_turn_7_b K pv (w_X1_turn_7 K pv 0) (some o) (nI e - 1) (nI i) G
    refine ⟨fun _ => hp G (fr_rf _ _) h ho, fun c => absurd ?_ c⟩
    cases e with
    | zero =>
      rw [i32_le, nI_toInt (by omega)]
      have : (nI 0 - 1 : Int32).toInt = -1 := by decide
      omega
    | succ e =>
      rw [nI_pred]
      exact nI_le (by omega) (by omega)
  | succ k ih =>
    intro i e S G he hi hk h ho hp
    show w_X1_turn_7_b K pv (w_X1_turn_7 K pv (k + 1)) (some o) (nI e - 1) (nI i) G
    cases e with
    | zero =>
      refine ⟨fun _ => hp G (fr_rf _ _) (by simp only [tuF]; exact h) ho, fun c => absurd ?_ c⟩
      rw [i32_le, nI_toInt (by omega)]
      have : (nI 0 - 1 : Int32).toInt = -1 := by decide
      omega
    | succ e =>
      rw [nI_pred]
      refine ⟨fun c => ?_, fun c => ?_⟩
      · rw [nI_leI (by omega) (by omega)] at c
        have hq : ¬ i + 1 < e + 1 := by omega
        simp only [tuF, if_neg hq] at hp
        exact hp G (fr_rf _ _) h ho
      · rw [nI_leI (by omega) (by omega)] at c
        have hq : i + 1 < e + 1 := by omega
        simp only [tuF, if_pos hq] at hp
        refine rcv_i ho (c_exchange h ho hr hn rfl rfl (by omega) (by omega) (fun G' q1 q2 q3 => ?_))
        rw [nI_m1, nI_1]
        exact ih (i + 1) e _ G' (by omega) (by omega) (by omega) q2 q3 (fun G2 p1 p2 p3 => hp G2 (fr_tr q1 p1) p2 p3)
theorem c_reverse {v : Int32} (h : TwR G L S) (hp : tRes L G post postX (sp_li S (S_at S v) fun r b n => (0, nI n, tuF r b n 0 n S))) : w_X1_reverse K post postX (some L.1) v G := by
  refine c_rcv h (c_listAt h (fun c => ?_) (fun o r b n c1 c2 c3 c4 => ?_))
  · rw [c] at hp; exact (hp G (fr_rf _ _) h).2.1 rfl
  · rw [c1] at hp
    exact gfI_i c2 rfl ⟨n + 1, c_turn c3 c4 n 0 n S G (by omega) (by omega) (by omega) h c2 (fun G' q1 q2 q3 => gfI_i q3 rfl ((hp G' q1 q2).1 rfl))⟩
theorem c_sink {pv : tG → Prop} {o r b n : Nat} {fall : Int32} (hr : r < 3) (hn : b + n ≤ 12) : ∀ (p : Nat) (S : tS) (G : tG), p < n → TwR G L S → G o = some (oRL (nI r) (L.2.2.2 r) b n) → (∀ G', fr (clsW L) G G' → TwR G' L (skF r b fall p S) → G' o = some (oRL (nI r) (L.2.2.2 r) b n) → pv G') → w_X1_sink_2 K pv (p + 1) (some o) fall (nI p) G := by
  intro p
  induction p with
  | zero =>
    intro S G he h ho hp
    show w_X1_sink_2_b K pv (w_X1_sink_2 K pv 0) (some o) fall (nI 0) G
    exact ⟨fun _ => hp G (fr_rf _ _) h ho, fun c => absurd (by decide) c⟩
  | succ p ih =>
    intro S G he h ho hp
    show w_X1_sink_2_b K pv (w_X1_sink_2 K pv (p + 1)) (some o) fall (nI (p + 1)) G
    have hv := h.2.2.2.1 r hr
    refine ⟨fun c => absurd c (nI_nle (by omega) (by omega)), fun _ => rcv_i ho (l_read ho hv rfl (by omega) (by omega) (rcv_i ho (l_read ho hv (nI_pred p) (by omega) (by omega) (c_compare (fun z z1 z2 => ?_)))))⟩
    have go : goF fall (S.2.1 r (b + (p + 1))) (S.2.1 r (b + p)) = true → w_X1_sink_41 K pv (w_X1_sink_2 K pv (p + 1)) (some o) fall (nI (p + 1)) G := by
      intro hg
      simp only [skF, if_pos hg] at hp
      refine rcv_i ho (c_exchange h ho hr hn rfl (nI_pred p) (by omega) (by omega) (fun G' q1 q2 q3 => ?_))
      rw [nI_m1, nI_pred]
      exact ih _ G' (by omega) q2 q3 (fun G2 p1 p2 p3 => hp G2 (fr_tr q1 p1) p2 p3)
    have stop : ¬ goF fall (S.2.1 r (b + (p + 1))) (S.2.1 r (b + p)) = true → w_X1_sink_40 K pv G := by
      intro hg
      simp only [skF, if_neg hg] at hp
      exact hp G (fr_rf _ _) h ho
    refine ⟨fun cf => ⟨fun c => go ?_, fun c => stop ?_⟩, fun cf => ⟨fun c => go ?_, fun c => stop ?_⟩⟩
    · unfold goF; rw [if_pos cf]; exact decide_eq_true (z1.mp c)
    · unfold goF; rw [if_pos cf]; intro q; exact c (z1.mpr (of_decide_eq_true q))
    · unfold goF; rw [if_neg cf]; exact decide_eq_true (z2.mp c)
    · unfold goF; rw [if_neg cf]; intro q; exact c (z2.mpr (of_decide_eq_true q))
theorem c_sort {v fall : Int32} (h : TwR G L S) (hp : tRes L G post postX (sp_li S (S_tw S v) fun r b n => (0, nI n, soF r b fall S (n - 1)))) : w_X1_sort K post postX (some L.1) v fall G := by
  refine c_rcv h (c_twinAt h (fun c => ?_) (fun o r n e1 c1 c2 c3 c4 => ?_))
  · rw [c] at hp; exact (hp G (fr_rf _ _) h).2.1 rfl
  · have e2 : S_tw S v = some (r, 0, n) := by
      rw [e1]; unfold S_tw
      rw [nI_toInt (by omega), if_pos (by omega)]; exact c1
    rw [e2] at hp
    have main : ∀ k i G1, i + k = n - 1 → fr (clsW L) G G1 → TwR G1 L (soF r 0 fall S i) → G1 o = some (oRL (nI r) (L.2.2.2 r) 0 n) → w_X1_sort_9 K post postX (k + 1) fall (some o) (nI (i + 1)) G1 := by
      intro k
      induction k with
      | zero =>
        intro i G1 hi hf h1 ho1
        show w_X1_sort_9_b K post postX (w_X1_sort_9 K post postX 0) fall (some o) (nI (i + 1)) G1
        have e : i = n - 1 := by omega
        subst e
        exact gfI_i ho1 rfl ⟨fun _ => gfI_i ho1 rfl ((hp G1 hf h1).1 rfl), fun c => absurd (nI_le (by omega) (by omega)) c⟩
      | succ k ih =>
        intro i G1 hi hf h1 ho1
        show w_X1_sort_9_b K post postX (w_X1_sort_9 K post postX (k + 1)) fall (some o) (nI (i + 1)) G1
        refine gfI_i ho1 rfl ⟨fun c => absurd c (nI_ge (by omega) (by omega)), fun _ => ⟨i + 1 + 1, c_sink c3 (by omega) (i + 1) _ G1 (by omega) h1 ho1 (fun G' q1 q2 q3 => ?_)⟩⟩
        rw [nI_1]
        exact ih (i + 1) G' (by omega) (fr_tr hf q1) q2 q3
    exact ⟨n - 1 + 1, main (n - 1) 0 G (by omega) (fr_rf _ _) h c2⟩
end CLE
end GRP20x4
section GRP20x5
/-! comparing two lists, sums -/
def haF (f g : Nat → Int32) : Nat → Nat → Int32
  | 0, _ => 1
  | k + 1, i => if f i = g i then haF f g k (i + 1) else 0
def stF (f : Nat → Int32) (n : Nat) (x : Int32) : Int32 := if fpF f x n 0 = -1 then 0 else 1
/-- is there a value of f that stands in g (is = 1), or doesn't (is = 0)? -/
def onF (f g : Nat → Int32) (n : Nat) (is : Int32) : Nat → Nat → Int32
  | 0, _ => 0
  | k + 1, i => if stF g n (f i) = is then 1 else onF f g n is k (i + 1)
def nuF (x : Int32) : Int32 := if x = -1000 then 0 else x
def coF (f : Nat → Int32) : Nat → Int32
  | 0 => 1
  | k + 1 => 31 * coF f k + nuF (f k)
def suF (f : Nat → Int32) : Nat → Int32
  | 0 => 0
  | k + 1 => suF f k + nuF (f k)
theorem haF_01 (f g : Nat → Int32) : ∀ k i, haF f g k i = 0 ∨ haF f g k i = 1
  | 0, _ => Or.inr rfl
  | k + 1, i => by
    show (if f i = g i then haF f g k (i + 1) else 0) = 0 ∨ (if f i = g i then haF f g k (i + 1) else 0) = 1
    by_cases c : f i = g i
    · rw [if_pos c]; exact haF_01 f g k (i + 1)
    · rw [if_neg c]; exact Or.inl rfl
theorem nar_01 {x : Int32} (h : x = 0 ∨ x = 1) : narrow .boolean (.int x) = .int x := by rcases h with rfl | rfl <;> decide
section SRD
variable {K : tK} {G : tG} {o v b n N o2 v2 b2 n2 N2 : Nat} {r r2 : Int32} {f f2 : Nat → Int32}
theorem c_numberOf {pk : Int32 → tG → Prop} {x : Int32} (h : pk (nuF x) G) : w_X1_numberOf K pk x G := by
  refine ⟨fun c => ?_, fun c => ?_⟩
  · unfold nuF at h; rw [if_neg c] at h; exact h
  · unfold nuF at h; rw [if_pos c] at h; exact h
theorem c_hasAllFrom {pk : Int32 → tG → Prop} {a : Nat} (ho : G o = some (oRL r v b n)) (hv : G v = some (eI N f)) (hN : N < 2 ^ 31) (ho2 : G o2 = some (oRL r2 v2 b2 n2)) (hv2 : G v2 = some (eI N2 f2)) (hN2 : N2 < 2 ^ 31) (hb : b + a + n2 ≤ N) (hb2 : b2 + n2 ≤ N2) (h : pk (haF (fun i => f (b + (a + i))) (fun i => f2 (b2 + i)) n2 0) G) : w_X1_hasAllFrom K pk (some o) (nI a) (some o2) G := by
  have main : ∀ k i, i + k = n2 → pk (haF (fun i => f (b + (a + i))) (fun i => f2 (b2 + i)) k i) G → w_X1_hasAllFrom_2 K pk (k + 1) (some o) (nI a) (some o2) (nI i) G := by
    intro k
    induction k with
    | zero =>
      intro i hi hp
      show w_X1_hasAllFrom_2_b K pk (w_X1_hasAllFrom_2 K pk 0) (some o) (nI a) (some o2) (nI i) G
      exact gfI_i ho2 rfl ⟨fun _ => ⟨by decide, hp⟩, fun c => absurd (nI_le (by omega) (by omega)) c⟩
    | succ k ih =>
      intro i hi hp
      show w_X1_hasAllFrom_2_b K pk (w_X1_hasAllFrom_2 K pk (k + 1)) (some o) (nI a) (some o2) (nI i) G
      refine gfI_i ho2 rfl ⟨fun c => absurd c (nI_ge (by omega) (by omega)), fun _ => rcv_i ho (l_read ho hv (nI_add a i) (by omega) hN (rcv_i ho2 (l_read ho2 hv2 rfl (by omega) hN2 ⟨fun c => ?_, fun c => ⟨by decide, ?_⟩⟩)))⟩
      · rw [nI_1]
        have c : (fun i => f (b + (a + i))) i = (fun i => f2 (b2 + i)) i := c
        simp only [haF, if_pos c] at hp
        exact ih (i + 1) (by omega) hp
      · have c : ¬ (fun i => f (b + (a + i))) i = (fun i => f2 (b2 + i)) i := c
        simp only [haF, if_neg c] at hp
        exact hp
  exact ⟨n2 + 1, main n2 0 (by omega) h⟩
theorem c_areSame {pk : Int32 → tG → Prop} (ho : G o = some (oRL r v b n)) (hv : G v = some (eI N f)) (hN : N < 2 ^ 31) (ho2 : G o2 = some (oRL r2 v2 b2 n2)) (hv2 : G v2 = some (eI N2 f2)) (hN2 : N2 < 2 ^ 31) (hb : b + n ≤ N) (hb2 : b2 + n2 ≤ N2) (h : pk (if n = n2 then haF (fun i => f (b + i)) (fun i => f2 (b2 + i)) n2 0 else 0) G) : w_X1_areSame K pk (some o) (some o2) G := by
  refine gfI_i ho rfl (gfI_i ho2 rfl ⟨fun c => ⟨by decide, ?_⟩, fun c => ?_⟩)
  · have : ¬ n = n2 := fun e => c (by rw [e])
    rw [if_neg this] at h; exact h
  · have e : n = n2 := (nI_eq (by omega) (by omega)).mp c
    rw [if_pos e] at h
    refine c_hasAllFrom (a := 0) ho hv hN ho2 hv2 hN2 (by omega) hb2 ?_
    simp only [Nat.zero_add]
    rcases haF_01 (fun i => f (b + i)) (fun i => f2 (b2 + i)) n2 0 with q | q
    · rw [q] at h ⊢
      exact ⟨fun _ => ⟨by decide, h⟩, fun z => absurd rfl z⟩
    · rw [q] at h ⊢
      exact ⟨fun z => absurd z (by decide), fun _ => ⟨by decide, h⟩⟩
theorem c_hasOne {pk : Int32 → tG → Prop} {is : Int32} (ho : G o = some (oRL r v b n)) (hv : G v = some (eI N f)) (hN : N < 2 ^ 31) (ho2 : G o2 = some (oRL r2 v2 b2 n2)) (hv2 : G v2 = some (eI N2 f2)) (hN2 : N2 < 2 ^ 31) (hb : b + n ≤ N) (hb2 : b2 + n2 ≤ N2) (h : pk (onF (fun i => f (b + i)) (fun i => f2 (b2 + i)) n2 is n 0) G) : w_X1_hasOneThatStands K pk (some o) (some o2) is G := by
  have main : ∀ k i, i + k = n → pk (onF (fun i => f (b + i)) (fun i => f2 (b2 + i)) n2 is k i) G → w_X1_hasOneThatStands_2 K pk (k + 1) (some o) (some o2) is (nI i) G := by
    intro k
    induction k with
    | zero =>
      intro i hi hp
      show w_X1_hasOneThatStands_2_b K pk (w_X1_hasOneThatStands_2 K pk 0) (some o) (some o2) is (nI i) G
      exact gfI_i ho rfl ⟨fun _ => ⟨by decide, hp⟩, fun c => absurd (nI_le (by omega) (by omega)) c⟩
    | succ k ih =>
      intro i hi hp
      show w_X1_hasOneThatStands_2_b K pk (w_X1_hasOneThatStands_2 K pk (k + 1)) (some o) (some o2) is (nI i) G
      refine gfI_i ho rfl ⟨fun c => absurd c (nI_ge (by omega) (by omega)), fun _ => rcv_i ho (l_read ho hv rfl (by omega) hN (c_stands ho2 hv2 hN2 hb2 ?_))⟩
      by_cases c : stF (fun i => f2 (b2 + i)) n2 ((fun i => f (b + i)) i) = is
      · simp only [onF, if_pos c] at hp
        exact ⟨fun z => absurd c z, fun _ => ⟨by decide, hp⟩⟩
      · simp only [onF, if_neg c] at hp
        refine ⟨fun _ => ?_, fun z => absurd z c⟩
        rw [nI_1]
        exact ih (i + 1) (by omega) hp
  exact ⟨n + 1, main n 0 (by omega) h⟩
theorem onF_01 (f g : Nat → Int32) (n : Nat) (is : Int32) : ∀ k i, onF f g n is k i = 0 ∨ onF f g n is k i = 1
  | 0, _ => Or.inl rfl
  | k + 1, i => by
    show (if stF g n (f i) = is then 1 else onF f g n is k (i + 1)) = 0 ∨ (if stF g n (f i) = is then 1 else onF f g n is k (i + 1)) = 1
    by_cases c : stF g n (f i) = is
    · rw [if_pos c]; exact Or.inr rfl
    · rw [if_neg c]; exact onF_01 f g n is k (i + 1)
theorem c_codeOf {pk : Int32 → tG → Prop} (ho : G o = some (oRL r v b n)) (hv : G v = some (eI N f)) (hN : N < 2 ^ 31) (hb : b + n ≤ N) (h : pk (coF (fun i => f (b + i)) n) G) : w_X1_codeOf K pk (some o) 0 (nI n) G := by
  have main : ∀ k i, i + k = n → w_X1_codeOf_5 K pk (k + 1) (some o) (nI n) (coF (fun i => f (b + i)) i) (nI i) G := by
    intro k
    induction k with
    | zero =>
      intro i hi
      show w_X1_codeOf_5_b K pk (w_X1_codeOf_5 K pk 0) (some o) (nI n) (coF (fun i => f (b + i)) i) (nI i) G
      have e : i = n := by omega
      subst e
      exact ⟨fun _ => h, fun c => absurd (nI_le (by omega) (by omega)) c⟩
    | succ k ih =>
      intro i hi
      show w_X1_codeOf_5_b K pk (w_X1_codeOf_5 K pk (k + 1)) (some o) (nI n) (coF (fun i => f (b + i)) i) (nI i) G
      refine ⟨fun c => absurd c (nI_ge (by omega) (by omega)), fun _ => rcv_i ho (l_read ho hv rfl (by omega) hN (c_numberOf ?_))⟩
      rw [nI_1]
      exact ih (i + 1) (by omega)
  exact ⟨n + 1, main n 0 (by omega)⟩
end SRD
section CLF
variable {K : tK} {G : tG} {L : tL} {S : tS} {post : Int32 → tG → Prop} {postX : String → tG → Prop}
def sp_2 (S : tS) (p q : Option (Nat × Nat × Nat)) (f : Nat → Nat → Nat → Nat → Nat → Nat → tA) : tA := match p, q with
  | some (r, b, n), some (r2, b2, n2) => f r b n r2 b2 n2
  | _, _ => (1, 0, S)
/-- two lists -/
theorem c_two {v w : Int32} {F : Nat → Nat → Nat → Nat → Nat → Nat → tA} {PW : Option Nat → Option Nat → tG → Prop} (h : TwR G L S) (hp : tRes L G post postX (sp_2 S (S_at S v) (S_at S w) F)) (hk : ∀ o r b n o2 r2 b2 n2, G o = some (oRL (nI r) (L.2.2.2 r) b n) → r < 3 → b + n ≤ 12 → G o2 = some (oRL (nI r2) (L.2.2.2 r2) b2 n2) → r2 < 3 → b2 + n2 ≤ 12 → tRes L G post postX (F r b n r2 b2 n2) → PW (some o) (some o2) G) : rcv G (some L.1) 3 (w_X1_listAt K (fun x G_2 => rcv G_2 (some L.1) 3 (w_X1_listAt K (fun y G_3 => PW x y G_3) postX (some L.1) w G_2)) postX (some L.1) v G) := by
  refine c_rcv h (c_listAt h (fun c => ?_) (fun o r b n c1 c2 c3 c4 => c_rcv h (c_listAt h (fun c => ?_) (fun o2 r2 b2 n2 d1 d2 d3 d4 => ?_))))
  · rw [c] at hp; exact (hp G (fr_rf _ _) h).2.1 rfl
  · rw [c, c1] at hp; exact (hp G (fr_rf _ _) h).2.1 rfl
  · rw [c1, d1] at hp
    exact hk o r b n o2 r2 b2 n2 c2 c3 c4 d2 d3 d4 hp
theorem c_areEqual {v w : Int32} (h : TwR G L S) (hp : tRes L G post postX (sp_2 S (S_at S v) (S_at S w) fun r b n r2 b2 n2 => (0, if n = n2 then haF (S_v S r b) (S_v S r2 b2) n2 0 else 0, S))) : w_X1_areEqual K post postX (some L.1) v w G := by
  refine c_two (PW := fun x y G => w_X1_areSame K (fun x_12 G_12 => (narrow .boolean (.int x_12) = .int x_12 ∧ post x_12 G_12)) x y G) h hp (fun o r b n o2 r2 b2 n2 c2 c3 c4 d2 d3 d4 hq => ?_)
  refine c_areSame c2 (h.2.2.2.1 r c3) (by decide) d2 (h.2.2.2.1 r2 d3) (by decide) c4 d4 ⟨nar_01 ?_, (hq G (fr_rf _ _) h).1 rfl⟩
  split
  · exact haF_01 _ _ _ _
  · exact Or.inl rfl
theorem c_areApart {v w : Int32} (h : TwR G L S) (hp : tRes L G post postX (sp_2 S (S_at S v) (S_at S w) fun r b n r2 b2 n2 => (0, if onF (S_v S r b) (S_v S r2 b2) n2 1 n 0 = 0 then 1 else 0, S))) : w_X1_areApart K post postX (some L.1) v w G := by
  refine c_two (PW := fun x y G => w_X1_hasOneThatStands K (fun x_13 G_13 => ((¬ x_13 = 0 → w_X1_areApart_24 K post postX ((0 : Int32)) G_13) ∧ (x_13 = 0 → w_X1_areApart_24 K post postX ((1 : Int32)) G_13))) x y 1 G) h hp (fun o r b n o2 r2 b2 n2 c2 c3 c4 d2 d3 d4 hq => ?_)
  refine c_hasOne c2 (h.2.2.2.1 r c3) (by decide) d2 (h.2.2.2.1 r2 d3) (by decide) c4 d4 ⟨fun c => ⟨by decide, ?_⟩, fun c => ⟨by decide, ?_⟩⟩
  · have hq := (hq G (fr_rf _ _) h).1 rfl
    simp only [if_neg c] at hq; exact hq
  · have hq := (hq G (fr_rf _ _) h).1 rfl
    simp only [if_pos c] at hq; exact hq
theorem c_hasAll {v w : Int32} (h : TwR G L S) (hp : tRes L G post postX (sp_2 S (S_at S v) (S_at S w) fun r b n r2 b2 n2 => (0, if onF (S_v S r2 b2) (S_v S r b) n 0 n2 0 = 0 then 1 else 0, S))) : w_X1_hasAll K post postX (some L.1) v w G := by
  refine c_two (PW := fun x y G => w_X1_hasOneThatStands K (fun x_13 G_13 => ((¬ x_13 = 0 → w_X1_hasAll_24 K post postX ((0 : Int32)) G_13) ∧ (x_13 = 0 → w_X1_hasAll_24 K post postX ((1 : Int32)) G_13))) y x 0 G) h hp (fun o r b n o2 r2 b2 n2 c2 c3 c4 d2 d3 d4 hq => ?_)
  refine c_hasOne d2 (h.2.2.2.1 r2 d3) (by decide) c2 (h.2.2.2.1 r c3) (by decide) d4 c4 ⟨fun c => ⟨by decide, ?_⟩, fun c => ⟨by decide, ?_⟩⟩
  · have hq := (hq G (fr_rf _ _) h).1 rfl
    simp only [if_neg c] at hq; exact hq
  · have hq := (hq G (fr_rf _ _) h).1 rfl
    simp only [if_pos c] at hq; exact hq
theorem c_removeAll {v w : Int32} (h : TwR G L S) (hp : tRes L G post postX (sp_2 S (S_at S v) (S_at S w) fun r b n r2 b2 n2 => if onF (S_v S r b) (S_v S r2 b2) n2 1 n 0 = 0 then (0, 0, S) else (0, -9, S_ref S))) : w_X1_removeAll K post postX (some L.1) v w G := by
  refine c_two (PW := fun x y G => w_X1_hasOneThatStands K (fun x_14 G_14 => rcv G_14 (some L.1) 3 (w_X1_refuseIf K (fun x_17 G_17 => post x_17 G_17) (some L.1) x_14 G_14)) x y 1 G) h hp (fun o r b n o2 r2 b2 n2 c2 c3 c4 d2 d3 d4 hq => ?_)
  refine c_hasOne c2 (h.2.2.2.1 r c3) (by decide) d2 (h.2.2.2.1 r2 d3) (by decide) c4 d4 (c_rcv h (c_refuseIf h (fun c G' q1 q2 => ?_) (fun c => ?_)))
  · rw [if_neg c] at hq; exact (hq G' q1 q2).1 rfl
  · rw [if_pos c] at hq; exact (hq G (fr_rf _ _) h).1 rfl
theorem c_retainAll {v w : Int32} (h : TwR G L S) (hp : tRes L G post postX (sp_2 S (S_at S v) (S_at S w) fun r b n r2 b2 n2 => if onF (S_v S r b) (S_v S r2 b2) n2 0 n 0 = 0 then (0, 0, S) else (0, -9, S_ref S))) : w_X1_retainAll K post postX (some L.1) v w G := by
  refine c_two (PW := fun x y G => w_X1_hasOneThatStands K (fun x_14 G_14 => rcv G_14 (some L.1) 3 (w_X1_refuseIf K (fun x_17 G_17 => post x_17 G_17) (some L.1) x_14 G_14)) x y 0 G) h hp (fun o r b n o2 r2 b2 n2 c2 c3 c4 d2 d3 d4 hq => ?_)
  refine c_hasOne c2 (h.2.2.2.1 r c3) (by decide) d2 (h.2.2.2.1 r2 d3) (by decide) c4 d4 (c_rcv h (c_refuseIf h (fun c G' q1 q2 => ?_) (fun c => ?_)))
  · rw [if_neg c] at hq; exact (hq G' q1 q2).1 rfl
  · rw [if_pos c] at hq; exact (hq G (fr_rf _ _) h).1 rfl
theorem c_addAll {v w : Int32} (h : TwR G L S) (hp : tRes L G post postX (sp_2 S (S_at S v) (S_at S w) fun _ _ _ _ _ n2 => if n2 = 0 then (0, 0, S) else (0, -9, S_ref S))) : w_X1_addAll K post postX (some L.1) v w G := by
  refine c_two (PW := fun x y G => gfI G y 2 3 (fun x_12 => ((x_12 ≤ 0 → w_X1_addAll_23 K post postX (some L.1) ((0 : Int32)) G) ∧ (¬ x_12 ≤ 0 → w_X1_addAll_23 K post postX (some L.1) ((1 : Int32)) G)))) h hp (fun o r b n o2 r2 b2 n2 c2 c3 c4 d2 d3 d4 hq => ?_)
  refine gfI_i d2 rfl ⟨fun c => c_rcv h (c_refuseIf h (fun q => absurd rfl q) (fun _ => ?_)), fun c => c_rcv h (c_refuseIf h (fun _ G' q1 q2 => ?_) (fun q => absurd q (by decide)))⟩
  · have hn : n2 = 0 := Decidable.byContradiction fun e => nI_nle (by omega) (by omega) c
    rw [if_pos hn] at hq; exact (hq G (fr_rf _ _) h).1 rfl
  · have hn : ¬ n2 = 0 := fun e => c (by rw [e]; decide)
    rw [if_neg hn] at hq; exact (hq G' q1 q2).1 rfl
theorem c_code {v : Int32} (h : TwR G L S) (hp : tRes L G post postX (sp_li S (S_at S v) fun r b n => (0, coF (S_v S r b) n, S))) : w_X1_code K post postX (some L.1) v G := by
  refine c_rcv h (c_listAt h (fun c => ?_) (fun o r b n c1 c2 c3 c4 => ?_))
  · rw [c] at hp; exact (hp G (fr_rf _ _) h).2.1 rfl
  · rw [c1] at hp
    exact gfI_i c2 rfl (c_codeOf c2 (h.2.2.2.1 r c3) (by decide) c4 ((hp G (fr_rf _ _) h).1 rfl))
end CLF
end GRP20x5
section GRP20x6
/-! counting, sums, tests, rules -/
def tsF (test number x : Int32) : Int32 := if test = 0 then (if x = -1000 then 1 else 0) else if test = 1 then (if x = number then 1 else 0) else (if x = -1000 then 0 else if number ≤ x then 0 else 1)
def otF (f : Nat → Int32) (test number : Int32) : Nat → Nat → Int32
  | 0, _ => 0
  | k + 1, i => if tsF test number (f i) = 0 then otF f test number k (i + 1) else 1
def wiF (x : Int32) : Int32 := if (-99 : Int32) < (if x < (99 : Int32) then x else (99 : Int32)) then (if x < (99 : Int32) then x else (99 : Int32)) else (-99 : Int32)
def ruF (rule number x : Int32) : Int32 := if rule = 0 then wiF (nuF x + number) else if rule = 1 then (if nuF x < number then number else nuF x) else if rule = 2 then wiF (nuF x * number) else (if nuF x = number then -1000 else nuF x)
theorem wiF_ok (x : Int32) : okV (wiF x) := by
  refine Or.inr ?_
  unfold wiF
  have e1 : (99 : Int32).toInt = 99 := rfl
  have e2 : (-99 : Int32).toInt = -99 := rfl
  by_cases d : x < 99
  · simp only [if_pos d]
    by_cases c : -99 < x
    · rw [if_pos c]
      rw [i32_lt] at c d; exact ⟨fun q => by rw [i32_lt] at q; omega, by rw [i32_le]; omega⟩
    · rw [if_neg c]; exact ⟨by decide, by decide⟩
  · simp only [if_neg d]
    exact ⟨by decide, by decide⟩
theorem nuF_in {x : Int32} (h : okV x) : inR (nuF x) (-99) 99 := by
  unfold nuF
  by_cases c : x = -1000
  · rw [if_pos c]; exact ⟨by decide, by decide⟩
  · rw [if_neg c]; exact h.resolve_left c
theorem ruF_ok {rule number x : Int32} (hx : okV x) (hn : inR number (-99) 99) : okV (ruF rule number x) := by
  unfold ruF
  split
  · exact wiF_ok _
  · split
    · split
      · exact Or.inr hn
      · exact Or.inr (nuF_in hx)
    · split
      · exact wiF_ok _
      · split
        · exact Or.inl rfl
        · exact Or.inr (nuF_in hx)
section SRG
variable {K : tK} {G : tG} {o v b n N : Nat} {r : Int32} {f : Nat → Int32}
theorem c_isOfTest {pk : Int32 → tG → Prop} {x t w : Int32} (h : pk (tsF t w x) G) : w_X1_isOfTest K pk x t w G := by
  unfold tsF at h
  refine ⟨fun c => ?_, fun c => ?_, fun c => ?_⟩
  · rw [if_pos c] at h
    refine ⟨fun d => ⟨by decide, ?_⟩, fun d => ⟨by decide, ?_⟩⟩
    · rw [if_neg d] at h; exact h
    · rw [if_pos d] at h; exact h
  · have c0 : ¬ t = 0 := by rw [c]; decide
    rw [if_neg c0, if_pos c] at h
    refine ⟨fun d => ⟨by decide, ?_⟩, fun d => ⟨by decide, ?_⟩⟩
    · rw [if_neg d] at h; exact h
    · rw [if_pos d] at h; exact h
  · rw [if_neg c.1, if_neg c.2] at h
    refine ⟨fun d => ⟨by decide, ?_⟩, fun d => ⟨fun d2 => ⟨by decide, ?_⟩, fun d2 => ⟨by decide, ?_⟩⟩⟩
    · rw [if_pos d] at h; exact h
    · rw [if_neg d, if_pos d2] at h; exact h
    · rw [if_neg d, if_neg d2] at h; exact h
theorem c_hasOneOfTest {pk : Int32 → tG → Prop} {t w : Int32} (ho : G o = some (oRL r v b n)) (hv : G v = some (eI N f)) (hN : N < 2 ^ 31) (hb : b + n ≤ N) (h : pk (otF (fun i => f (b + i)) t w n 0) G) : w_X1_hasOneOfTest K pk (some o) t w G := by
  have main : ∀ k i, i + k = n → pk (otF (fun i => f (b + i)) t w k i) G → w_X1_hasOneOfTest_2 K pk (k + 1) (some o) t w (nI i) G := by
    intro k
    induction k with
    | zero =>
      intro i hi hp
      show w_X1_hasOneOfTest_2_b K pk (w_X1_hasOneOfTest_2 K pk 0) (some o) t w (nI i) G
      exact gfI_i ho rfl ⟨fun _ => ⟨by decide, hp⟩, fun c => absurd (nI_le (by omega) (by omega)) c⟩
    | succ k ih =>
      intro i hi hp
      show w_X1_hasOneOfTest_2_b K pk (w_X1_hasOneOfTest_2 K pk (k + 1)) (some o) t w (nI i) G
      refine gfI_i ho rfl ⟨fun c => absurd c (nI_ge (by omega) (by omega)), fun _ => rcv_i ho (l_read ho hv rfl (by omega) hN (c_isOfTest ⟨fun c => ?_, fun c => ⟨by decide, ?_⟩⟩))⟩
      · have c : tsF t w ((fun i => f (b + i)) i) = 0 := c
        simp only [otF, if_pos c] at hp
        rw [nI_1]
        exact ih (i + 1) (by omega) hp
      · have c : ¬ tsF t w ((fun i => f (b + i)) i) = 0 := c
        simp only [otF, if_neg c] at hp
        exact hp
  exact ⟨n + 1, main n 0 (by omega) h⟩
theorem c_within {pk : Int32 → tG → Prop} {x : Int32} (h : pk (wiF x) G) : w_X1_withinNumbers K pk x G := h
theorem c_ruled {pk : Int32 → tG → Prop} {x rule w : Int32} (hr : inR rule 0 3) (h : pk (ruF rule w x) G) : w_X1_ruled K pk x rule w G := by
  refine c_numberOf ?_
  unfold ruF at h
  refine ⟨fun c => ?_, fun c => ?_, fun c => ?_, fun c => ?_⟩
  · rw [if_pos c] at h; exact h
  · have c0 : ¬ rule = 0 := by rw [c]; decide
    rw [if_neg c0, if_pos c] at h; exact h
  · have c0 : ¬ rule = 0 := by rw [c]; decide
    have c1 : ¬ rule = 1 := by rw [c]; decide
    rw [if_neg c0, if_neg c1, if_pos c] at h; exact h
  · have c0 : ¬ rule = 0 := fun e => by rw [e] at c; revert c; decide
    have c1 : ¬ rule = 1 := fun e => by rw [e] at c; revert c; decide
    have c2 : ¬ rule = 2 := fun e => by rw [e] at c; revert c; decide
    rw [if_neg c0, if_neg c1, if_neg c2] at h
    refine ⟨fun d => ?_, fun d => ?_⟩
    · rw [if_neg d] at h; exact h
    · rw [if_pos d] at h; exact h
end SRG
section CLG
variable {K : tK} {G : tG} {L : tL} {S : tS} {post : Int32 → tG → Prop} {postX : String → tG → Prop}
theorem c_sum {v : Int32} (h : TwR G L S) (hp : tRes L G post postX (sp_li S (S_at S v) fun r b n => (0, suF (S_v S r b) n, S))) : w_X1_sum K post postX (some L.1) v G := by
  refine c_rcv h (c_listAt h (fun c => ?_) (fun o r b n c1 c2 c3 c4 => ?_))
  · rw [c] at hp; exact (hp G (fr_rf _ _) h).2.1 rfl
  · rw [c1] at hp
    have hp := (hp G (fr_rf _ _) h).1 rfl
    have main : ∀ k i, i + k = n → w_X1_sum_11 K post postX (k + 1) (some o) (suF (S_v S r b) i) (nI i) G := by
      intro k
      induction k with
      | zero =>
        intro i hi
        show w_X1_sum_11_b K post postX (w_X1_sum_11 K post postX 0) (some o) (suF (S_v S r b) i) (nI i) G
        have e : i = n := by omega
        subst e
        exact gfI_i c2 rfl ⟨fun _ => hp, fun c => absurd (nI_le (by omega) (by omega)) c⟩
      | succ k ih =>
        intro i hi
        show w_X1_sum_11_b K post postX (w_X1_sum_11 K post postX (k + 1)) (some o) (suF (S_v S r b) i) (nI i) G
        refine gfI_i c2 rfl ⟨fun c => absurd c (nI_ge (by omega) (by omega)), fun _ => rcv_i c2 (l_read c2 (h.2.2.2.1 r c3) rfl (by omega) (by omega) (c_numberOf ?_))⟩
        rw [nI_1]
        exact ih (i + 1) (by omega)
    exact ⟨n + 1, main n 0 (by omega)⟩
theorem c_often {v x : Int32} (h : TwR G L S) (hp : tRes L G post postX (sp_li S (S_at S v) fun r b n => if okV x then (0, ofF (S_v S r b) x n, S) else (2, 0, S))) : w_X1_often K post postX (some L.1) v x G := by
  refine c_rcv h (c_listAt h (fun c => ?_) (fun o r b n c1 c2 c3 c4 => ?_))
  · rw [c] at hp; exact (hp G (fr_rf _ _) h).2.1 rfl
  · rw [c1] at hp
    refine c_checkValue (fun hx => ?_) (fun hx => ?_)
    · simp only [sp_li, if_pos hx] at hp
      have hp := (hp G (fr_rf _ _) h).1 rfl
      have main : ∀ k i, i + k = n → w_X1_often_16 K post postX (k + 1) x (some o) (ofF (S_v S r b) x i) (nI i) G := by
        intro k
        induction k with
        | zero =>
          intro i hi
          show w_X1_often_16_b K post postX (w_X1_often_16 K post postX 0) x (some o) (ofF (S_v S r b) x i) (nI i) G
          have e : i = n := by omega
          subst e
          exact gfI_i c2 rfl ⟨fun _ => hp, fun c => absurd (nI_le (by omega) (by omega)) c⟩
        | succ k ih =>
          intro i hi
          show w_X1_often_16_b K post postX (w_X1_often_16 K post postX (k + 1)) x (some o) (ofF (S_v S r b) x i) (nI i) G
          have hi2 := ih (i + 1) (by omega)
          refine gfI_i c2 rfl ⟨fun c => absurd c (nI_ge (by omega) (by omega)), fun _ => rcv_i c2 (l_read c2 (h.2.2.2.1 r c3) rfl (by omega) (by omega) ⟨fun c => ?_, fun c => ?_⟩)⟩
          · show w_X1_often_16 K post postX (k + 1) x (some o) (ofF (S_v S r b) x i + 0) (nI i + 1) G
            rw [nI_1]
            have e : ofF (S_v S r b) x (i + 1) = ofF (S_v S r b) x i + 0 := by show _ + (if _ then _ else _) = _; rw [if_neg c]
            rw [e] at hi2; exact hi2
          · show w_X1_often_16 K post postX (k + 1) x (some o) (ofF (S_v S r b) x i + 1) (nI i + 1) G
            rw [nI_1]
            have e : ofF (S_v S r b) x (i + 1) = ofF (S_v S r b) x i + 1 := by show _ + (if _ then _ else _) = _; rw [if_pos c]
            rw [e] at hi2; exact hi2
      exact ⟨n + 1, main n 0 (by omega)⟩
    · simp only [sp_li, if_neg hx] at hp
      exact (hp G (fr_rf _ _) h).2.2 rfl
theorem c_removeIf {v t w : Int32} (h : TwR G L S) (hp : tRes L G post postX (sp_li S (S_at S v) fun r b n => if inR t 0 2 ∧ inR w (-99) 99 then (if otF (S_v S r b) t w n 0 = 0 then (0, 0, S) else (0, -9, S_ref S)) else (2, 0, S))) : w_X1_removeIf K post postX (some L.1) v t w G := by
  refine c_rcv h (c_listAt h (fun c => ?_) (fun o r b n c1 c2 c3 c4 => ?_))
  · rw [c] at hp; exact (hp G (fr_rf _ _) h).2.1 rfl
  · rw [c1] at hp
    refine c_checkNumber (fun ht => c_checkNumber (fun hw => ?_) (fun hw => ?_)) (fun ht => ?_)
    · simp only [sp_li, if_pos (And.intro ht hw)] at hp
      refine c_hasOneOfTest c2 (h.2.2.2.1 r c3) (by decide) c4 (c_rcv h (c_refuseIf h (fun c G' q1 q2 => ?_) (fun c => ?_)))
      · rw [if_neg c] at hp; exact (hp G' q1 q2).1 rfl
      · rw [if_pos c] at hp; exact (hp G (fr_rf _ _) h).1 rfl
    · simp only [sp_li, if_neg (fun q : inR t 0 2 ∧ inR w (-99) 99 => hw q.2)] at hp
      exact (hp G (fr_rf _ _) h).2.2 rfl
    · simp only [sp_li, if_neg (fun q : inR t 0 2 ∧ inR w (-99) 99 => ht q.1)] at hp
      exact (hp G (fr_rf _ _) h).2.2 rfl
/-- the places that a walker writes: from a on, or down from a -/
def plF (a : Nat) (back : Int32) (i : Nat) : Nat := if back = 0 then a + i else a - 1 - i
def wrF (S : tS) (r b a : Nat) (back rule w : Int32) : Nat → tS
  | 0 => S
  | k + 1 => S_put (wrF S r b a back rule w k) r (b + plF a back k) (ruF rule w ((wrF S r b a back rule w k).2.1 r (b + plF a back k)))
def slF (a n : Nat) (back : Int32) : Nat := if back = 0 then n - a else a
theorem c_placeAfter {pk : Int32 → tG → Prop} {a i : Nat} {back : Int32} (hi : back ≠ 0 → i < a) (h : pk (nI (plF a back i)) G) : w_X1_placeAfter K pk (nI a) (nI i) back G := by
  unfold plF at h
  refine ⟨fun c => ?_, fun c => ?_⟩
  · rw [if_pos c] at h
    show pk (nI a + nI i) G
    rw [nI_add]; exact h
  · rw [if_neg c] at h
    show pk (nI a - 1 - nI i) G
    have e : nI a - 1 - nI i = nI (a - 1 - i) := by
      have hi := hi c
      have e1 : nI a = nI (a - 1 - i) + nI i + 1 := by rw [nI_add, nI_1]; congr 1; omega
      rw [e1, Int32.add_sub_cancel, Int32.add_sub_cancel]
    rw [e]; exact h
theorem c_writeRuled {o r b n a : Nat} {back rule w : Int32} {pv : Int32 → tG → Prop} (h : TwR G L S) (c2 : G o = some (oRL (nI r) (L.2.2.2 r) b n)) (c3 : r < 3) (c4 : b + n ≤ 12) (ha : a ≤ n) (hr : inR rule 0 3) (hw : inR w (-99) 99) (hp : ∀ G', fr (clsW L) G G' → TwR G' L (wrF S r b a back rule w (slF a n back)) → pv (nI (slF a n back)) G') : w_X1_writeRuled K pv (some o) (nI a) rule w back G := by
  have hs : slF a n back ≤ n := by unfold slF; split <;> omega
  have hpl : ∀ i, i < slF a n back → plF a back i < n ∧ (back ≠ 0 → i < a) := by
    intro i hi
    unfold slF at hi; unfold plF
    by_cases c : back = 0
    · rw [if_pos c] at hi ⊢; exact ⟨by omega, fun q => absurd c q⟩
    · rw [if_neg c] at hi ⊢; exact ⟨by omega, fun _ => hi⟩
  have main : ∀ k i G1, i + k = slF a n back → fr (clsW L) G G1 → TwR G1 L (wrF S r b a back rule w i) → G1 o = some (oRL (nI r) (L.2.2.2 r) b n) → w_X1_writeRuled_12 K pv (k + 1) (some o) (nI a) rule w back (nI (slF a n back)) (nI i) G1 := by
    intro k
    induction k with
    | zero =>
      intro i G1 hi hf h1 ho1
      show w_X1_writeRuled_12_b K pv (w_X1_writeRuled_12 K pv 0) (some o) (nI a) rule w back (nI (slF a n back)) (nI i) G1
      have e : i = slF a n back := by omega
      subst e
      exact ⟨fun _ => hp G1 hf h1, fun c => absurd (nI_le (by omega) (by omega)) c⟩
    | succ k ih =>
      intro i G1 hi hf h1 ho1
      show w_X1_writeRuled_12_b K pv (w_X1_writeRuled_12 K pv (k + 1)) (some o) (nI a) rule w back (nI (slF a n back)) (nI i) G1
      have hq := hpl i (by omega)
      refine ⟨fun c => absurd c (nI_ge (by omega) (by omega)), fun _ => c_placeAfter hq.2 (rcv_i ho1 (l_read ho1 (h1.2.2.2.1 r c3) rfl (by omega) (by omega) (c_ruled hr (rcv_i ho1 (t_write h1 ho1 c3 c4 rfl hq.1 (ruF_ok (t_okV h1 c3 (by omega)) hw) (fun G' q1 q2 q3 => ?_))))))⟩
      rw [nI_1]
      exact ih (i + 1) G' (by omega) (fr_tr hf q1) q2 q3
  have fin : ∃ n1 : Nat, w_X1_writeRuled_12 K pv n1 (some o) (nI a) rule w back (nI (slF a n back)) 0 G := ⟨slF a n back + 1, main _ 0 G (by omega) (fr_rf _ _) h c2⟩
  refine ⟨fun c => gfI_i c2 rfl ?_, fun c => ?_⟩
  · have e : nI n - nI a = nI (slF a n back) := by
      unfold slF; rw [if_pos c]
      have e1 : nI n = nI (n - a) + nI a := by rw [nI_add]; congr 1; omega
      rw [e1, Int32.add_sub_cancel]
    show ∃ n1 : Nat, w_X1_writeRuled_12 K pv n1 (some o) (nI a) rule w back (nI n - nI a) 0 G
    rw [e]; exact fin
  · have e : nI a = nI (slF a n back) := by unfold slF; rw [if_neg c]
    show ∃ n1 : Nat, w_X1_writeRuled_12 K pv n1 (some o) (nI a) rule w back (nI a) 0 G
    have fin2 := fin
    rw [← e] at fin2
    exact fin2
end CLG
end GRP20x6
section GRP20x7
/-! rules over a list, the first place of a list in another one, what the house tells -/
theorem nI_sub {a b : Nat} (ha : a < 2 ^ 30) (hb : b < 2 ^ 30) : (nI a - nI b).toInt = (a : Int) - b := by
  rw [Int32.toInt_sub, nI_toInt (by omega), nI_toInt (by omega)]
  exact Int.bmod_eq_of_le (by omega) (by omega)
def iaF (f g : Nat → Int32) (n2 : Nat) : Nat → Nat → Int32
  | 0, _ => -1
  | k + 1, i => if haF (fun j => f (i + j)) g n2 0 = 0 then iaF f g n2 k (i + 1) else nI i
def paF (S : tS) : Nat → Int32
  | 0 => 0
  | k + 1 => paF S k + (if S.1 (3 + k) = none then 0 else 1)
def lnF (q : Option (Nat × Nat × Nat)) : Nat := match q with
  | none => 0
  | some (_, _, n) => n
def prF (S : tS) : Nat → Int32
  | 0 => 0
  | k + 1 => prF S k + nI (lnF (S.1 k))
section CLH
variable {K : tK} {G : tG} {L : tL} {S : tS} {post : Int32 → tG → Prop} {postX : String → tG → Prop}
theorem c_replaceAll {v rule w : Int32} (h : TwR G L S) (hp : tRes L G post postX (sp_li S (S_at S v) fun r b n => if inR rule 0 3 ∧ inR w (-99) 99 then (0, nI (slF 0 n 0), wrF S r b 0 0 rule w (slF 0 n 0)) else (2, 0, S))) : w_X1_replaceAll K post postX (some L.1) v rule w G := by
  refine c_rcv h (c_listAt h (fun c => ?_) (fun o r b n c1 c2 c3 c4 => ?_))
  · rw [c] at hp; exact (hp G (fr_rf _ _) h).2.1 rfl
  · rw [c1] at hp
    refine c_checkRule (fun q1 q2 => ?_) (fun q => ?_)
    · simp only [sp_li, if_pos (And.intro q1 q2)] at hp
      exact c_writeRuled (a := 0) h c2 c3 c4 (by omega) q1 q2 (fun G' p1 p2 => (hp G' p1 p2).1 rfl)
    · simp only [sp_li, if_neg q] at hp
      exact (hp G (fr_rf _ _) h).2.2 rfl
theorem c_walkSet {v p rule w back : Int32} (h : TwR G L S) (hp : tRes L G post postX (sp_li S (S_at S v) fun r b n => if inR p 0 (nI n) ∧ (inR rule 0 3 ∧ inR w (-99) 99) then (0, nI (slF p.toInt.toNat n back), wrF S r b p.toInt.toNat back rule w (slF p.toInt.toNat n back)) else (2, 0, S))) : w_X1_walkSet K post postX (some L.1) v p rule w back G := by
  refine c_rcv h (c_listAt h (fun c => ?_) (fun o r b n c1 c2 c3 c4 => ?_))
  · rw [c] at hp; exact (hp G (fr_rf _ _) h).2.1 rfl
  · rw [c1] at hp
    refine gfI_i c2 rfl (c_checkNumber (fun hq => c_checkRule (fun q1 q2 => ?_) (fun q => ?_)) (fun hq => ?_))
    · simp only [sp_li, if_pos (And.intro hq (And.intro q1 q2))] at hp
      obtain ⟨a, ha, rfl⟩ := nI_of2 (nI_toInt (n := n) (by omega)) hq.1 hq.2
      rw [nI_nat (by omega)] at hp
      exact c_writeRuled h c2 c3 c4 ha q1 q2 (fun G' p1 p2 => (hp G' p1 p2).1 rfl)
    · simp only [sp_li, if_neg (fun z : inR p 0 (nI n) ∧ (inR rule 0 3 ∧ inR w (-99) 99) => q z.2)] at hp
      exact (hp G (fr_rf _ _) h).2.2 rfl
    · simp only [sp_li, if_neg (fun z : inR p 0 (nI n) ∧ (inR rule 0 3 ∧ inR w (-99) 99) => hq z.1)] at hp
      exact (hp G (fr_rf _ _) h).2.2 rfl
theorem c_indexOfAll {v w : Int32} (h : TwR G L S) (hp : tRes L G post postX (sp_2 S (S_at S v) (S_at S w) fun r b n r2 b2 n2 => (0, iaF (S_v S r b) (S_v S r2 b2) n2 (n + 1 - n2) 0, S))) : w_X1_indexOfAll K post postX (some L.1) v w G := by
  refine c_two (PW := fun x y G => ∃ n : Nat, w_X1_indexOfAll_16 K post postX n x y ((0 : Int32)) G) h hp (fun o r b n o2 r2 b2 n2 c2 c3 c4 d2 d3 d4 hq => ?_)
  have hq := (hq G (fr_rf _ _) h).1 rfl
  have main : ∀ k i, i + k = n + 1 - n2 → post (iaF (S_v S r b) (S_v S r2 b2) n2 k i) G → w_X1_indexOfAll_16 K post postX (k + 1) (some o) (some o2) (nI i) G := by
    intro k
    induction k with
    | zero =>
      intro i hi hp
      show w_X1_indexOfAll_16_b K post postX (w_X1_indexOfAll_16 K post postX 0) (some o) (some o2) (nI i) G
      refine gfI_i c2 rfl (gfI_i d2 rfl ⟨fun _ => hp, fun c => absurd ?_ c⟩)
      rw [i32_lt, nI_sub (by omega) (by omega), nI_toInt (by omega)]
      omega
    | succ k ih =>
      intro i hi hp
      show w_X1_indexOfAll_16_b K post postX (w_X1_indexOfAll_16 K post postX (k + 1)) (some o) (some o2) (nI i) G
      refine gfI_i c2 rfl (gfI_i d2 rfl ⟨fun c => ?_, fun _ => c_hasAllFrom c2 (h.2.2.2.1 r c3) (by decide) d2 (h.2.2.2.1 r2 d3) (by decide) (by omega) d4 ⟨fun c => ?_, fun c => ?_⟩⟩)
      · exfalso
        rw [i32_lt, nI_sub (by omega) (by omega), nI_toInt (by omega)] at c
        omega
      · have c : haF (fun j => S_v S r b (i + j)) (S_v S r2 b2) n2 0 = 0 := c
        simp only [iaF, if_pos c] at hp
        rw [nI_1]
        exact ih (i + 1) (by omega) hp
      · have c : ¬ haF (fun j => S_v S r b (i + j)) (S_v S r2 b2) n2 0 = 0 := c
        simp only [iaF, if_neg c] at hp
        exact hp
  exact ⟨n + 1 - n2 + 1, main _ 0 (by omega) hq⟩
theorem c_rowOf {v : Int32} (h : TwR G L S) (hp : tRes L G post postX (if inR v 0 6 then (0, (match S_at S v with | none => -1 | some (r, _, _) => nI r), S) else (2, 0, S))) : w_X1_rowOf K post postX (some L.1) v G := by
  refine c_checkNumber (fun q => ?_) (fun q => ?_)
  · rw [if_pos q] at hp
    have hp := (hp G (fr_rf _ _) h).1 rfl
    refine c_rcv h (c_listOrNull h (fun c => ?_) (fun o r b n c1 c2 c3 c4 => ?_))
    · rw [c] at hp; exact ⟨fun z => absurd rfl z, fun _ => hp⟩
    · rw [c1] at hp; exact ⟨fun _ => gfI_i c2 rfl hp, fun z => by cases z⟩
  · rw [if_neg q] at hp
    exact (hp G (fr_rf _ _) h).2.2 rfl
theorem c_begin {v : Int32} (h : TwR G L S) (hp : tRes L G post postX (if inR v 0 6 then (0, (match S_at S v with | none => -1 | some (_, b, _) => nI b), S) else (2, 0, S))) : w_X1_begin K post postX (some L.1) v G := by
  refine c_checkNumber (fun q => ?_) (fun q => ?_)
  · rw [if_pos q] at hp
    have hp := (hp G (fr_rf _ _) h).1 rfl
    refine c_rcv h (c_listOrNull h (fun c => ?_) (fun o r b n c1 c2 c3 c4 => ?_))
    · rw [c] at hp; exact ⟨fun z => absurd rfl z, fun _ => hp⟩
    · rw [c1] at hp; exact ⟨fun _ => gfI_i c2 rfl hp, fun z => by cases z⟩
  · rw [if_neg q] at hp
    exact (hp G (fr_rf _ _) h).2.2 rfl
theorem c_partsThere {pk : Int32 → tG → Prop} (h : TwR G L S) (hp : pk (paF S 4) G) : w_X1_partsThere K pk (some L.1) G := by
  have main : ∀ k i, i + k = 4 → w_X1_partsThere_4 K pk (k + 1) (some L.1) (paF S i) (nI (3 + i)) G := by
    intro k
    induction k with
    | zero =>
      intro i hi
      show w_X1_partsThere_4_b K pk (w_X1_partsThere_4 K pk 0) (some L.1) (paF S i) (nI (3 + i)) G
      have e : i = 4 := by omega
      subst e
      exact ⟨fun _ => hp, fun c => absurd (by decide) c⟩
    | succ k ih =>
      intro i hi
      show w_X1_partsThere_4_b K pk (w_X1_partsThere_4 K pk (k + 1)) (some L.1) (paF S i) (nI (3 + i)) G
      have hi2 := ih (i + 1) (by omega)
      refine ⟨fun c => ?_, fun _ => c_rcv h (c_listOrNull h (fun c => ?_) (fun o r b n c1 c2 c3 c4 => ?_))⟩
      · exact absurd (show nI 7 ≤ nI (3 + i) from c) (nI_ge (by omega) (by omega))
      · rw [S_at_nI S (by omega)] at c
        refine ⟨fun z => absurd rfl z, fun _ => ?_⟩
        show w_X1_partsThere_4 K pk (k + 1) (some L.1) (paF S i + 0) (nI (3 + i) + 1) G
        rw [nI_1]
        have e : paF S (i + 1) = paF S i + 0 := by show _ + (if _ then _ else _) = _; rw [if_pos c]
        rw [e] at hi2; exact hi2
      · rw [S_at_nI S (by omega)] at c1
        refine ⟨fun _ => ?_, fun z => by cases z⟩
        show w_X1_partsThere_4 K pk (k + 1) (some L.1) (paF S i + 1) (nI (3 + i) + 1) G
        rw [nI_1]
        have e : paF S (i + 1) = paF S i + 1 := by show _ + (if _ then _ else _) = _; rw [if_neg (by rw [c1]; exact fun z => by cases z)]
        rw [e] at hi2; exact hi2
  exact ⟨5, main 4 0 (by omega)⟩
theorem c_placesOfRows {pk : Int32 → tG → Prop} (h : TwR G L S) (hp : pk (prF S 3) G) : w_X1_placesOfRows K pk postX (some L.1) G := by
  have main : ∀ k i, i + k = 3 → w_X1_placesOfRows_4 K pk postX (k + 1) i (6 * i) (some L.1) (prF S i) (nI i) G := by
    intro k
    induction k with
    | zero =>
      intro i hi
      show w_X1_placesOfRows_4_b K pk postX (w_X1_placesOfRows_4 K pk postX 0) i (6 * i) (some L.1) (prF S i) (nI i) G
      have e : i = 3 := by omega
      subst e
      exact ⟨fun _ => hp, fun c => absurd (by decide) c⟩
    | succ k ih =>
      intro i hi
      show w_X1_placesOfRows_4_b K pk postX (w_X1_placesOfRows_4 K pk postX (k + 1)) i (6 * i) (some L.1) (prF S i) (nI i) G
      refine ⟨fun c => ?_, fun _ => ⟨⟨by omega, by omega⟩, c_rcv h (c_twinAt h (fun c => ?_) (fun o r n e1 c1 c2 c3 c4 => ?_))⟩⟩
      · exact absurd (show nI 3 ≤ nI i from c) (nI_ge (by omega) (by omega))
      · exfalso
        unfold S_tw at c
        rw [nI_toInt (by omega), if_pos (by omega)] at c
        obtain ⟨n, e, -⟩ := h.1.1 i (by omega)
        have c : S.1 i = none := c
        rw [c] at e; cases e
      · have e : i = r := (nI_eq (by omega) (by omega)).mp e1
        subst e
        refine gfI_i c2 rfl ?_
        show w_X1_placesOfRows_4 K pk postX (k + 1) (i + 1) (6 * i + 6) (some L.1) (prF S i + nI n) (nI i + 1) G
        rw [nI_1]
        have hi2 := ih (i + 1) (by omega)
        have e2 : prF S (i + 1) = prF S i + nI n := by show _ + nI (lnF _) = _; rw [c1]; rfl
        rw [e2] at hi2; exact hi2
  exact ⟨4, main 3 0 (by omega)⟩
def hoF (S : tS) (v : Int32) : Int32 := if v = 0 then S.2.2.1 else if v = 1 then S.2.2.2 else if v = 2 then paF S 4 else prF S 3
theorem c_house {v : Int32} (h : TwR G L S) (hp : tRes L G post postX (if inR v 0 3 then (0, hoF S v, S) else (2, 0, S))) : w_X1_house K post postX (some L.1) v G := by
  refine c_checkNumber (fun q => ?_) (fun q => ?_)
  · rw [if_pos q] at hp
    have hp := (hp G (fr_rf _ _) h).1 rfl
    obtain ⟨lf, k2, k3, k4⟩ := h.2.1
    unfold hoF at hp
    refine ⟨fun c => ?_, fun c => ?_, fun c => ?_, fun c => ?_⟩
    · simp only [if_pos c] at hp; exact gfI_i k2 rfl hp
    · have c0 : ¬ v = 0 := by rw [c]; decide
      simp only [if_neg c0, if_pos c] at hp; exact gfI_i k2 rfl hp
    · have c0 : ¬ v = 0 := by rw [c]; decide
      have c1 : ¬ v = 1 := by rw [c]; decide
      simp only [if_neg c0, if_neg c1, if_pos c] at hp; exact c_rcv h (c_partsThere h hp)
    · have c0 : ¬ v = 0 := fun e => by rw [e] at c; revert c; decide
      have c1 : ¬ v = 1 := fun e => by rw [e] at c; revert c; decide
      have c2 : ¬ v = 2 := fun e => by rw [e] at c; revert c; decide
      simp only [if_neg c0, if_neg c1, if_neg c2] at hp; exact c_rcv h (c_placesOfRows h hp)
  · rw [if_neg q] at hp
    exact (hp G (fr_rf _ _) h).2.2 rfl
end CLH
end GRP20x7
section GRP20x8
/-! new lists: part, lay -/
def TwC (G : tG) (L : tL) (S : tS) : Prop := (∃ lf, G L.1 = some (oTw L.2.1 L.2.2.1 S.2.2.1 S.2.2.2) ∧ G L.2.1 = some (eL lf) ∧ lfR G L.2.2.2 lf S) ∧ (∃ g, G L.2.2.1 = some (eI 12 g)) ∧ (∀ r, r < 3 → G (L.2.2.2 r) = some (eI 12 (S.2.1 r))) ∧ (∀ r, r < 3 → L.2.2.2 r ≠ L.2.2.1) ∧ (∀ r r', r < 3 → r' < 3 → L.2.2.2 r = L.2.2.2 r' → r = r')
theorem TwR_C {G : tG} {L : tL} {S : tS} (h : TwR G L S) : TwC G L S := h.2
theorem TwC_R {G : tG} {L : tL} {S : tS} (h : TwC G L S) (hs : S_ok S) : TwR G L S := ⟨hs, h⟩
def S_lst (S : tS) (j : Nat) (q : Option (Nat × Nat × Nat)) : tS := ((fun j' => if j' = j then q else S.1 j'), S.2)
theorem va_up_s (f : Nat → Option Nat) (j : Nat) (v : Option Nat) : va_up f j v j = v := by simp [va_up]
theorem va_up_n (f : Nat → Option Nat) {j k : Nat} (v : Option Nat) (h : k ≠ j) : va_up f j v k = f k := by simp [va_up, h]
theorem TwC_lst {G : tG} {L : tL} {S : tS} {lf : Nat → Option Nat} {j : Nat} {v : Option Nat} {q : Option (Nat × Nat × Nat)} (h : TwC G L S) (hk : G L.2.1 = some (eL lf)) (hv : (v = none ∧ q = none) ∨ ∃ o r b n, v = some o ∧ q = some (r, b, n) ∧ G o = some (oRL (nI r) (L.2.2.2 r) b n)) : TwC (tg_up G L.2.1 (eL (va_up lf j v))) L (S_lst S j q) := by
  obtain ⟨⟨lf', h2, h3, h4⟩, ⟨g, h5⟩, h6, h7, h8⟩ := h
  rw [h3] at hk
  cases hk
  refine ⟨⟨_, tg_keep h2 (ne_OI h2 h3), tg_s _ _ _, fun j' hj' => ?_⟩, ⟨g, tg_keep h5 (ne_of_G h5 h3 (fun e => by cases e))⟩, fun r hr => tg_keep (h6 r hr) (ne_of_G (h6 r hr) h3 (fun e => by cases e)), h7, h8⟩
  by_cases c : j' = j
  · subst c
    rw [va_up_s]
    show (v = none ∧ (if j' = j' then q else S.1 j') = none) ∨ ∃ o r b n, v = some o ∧ (if j' = j' then q else S.1 j') = some (r, b, n) ∧ _
    rw [if_pos rfl]
    rcases hv with e | ⟨o, r, b, n, e1, e2, e3⟩
    · exact Or.inl e
    · exact Or.inr ⟨o, r, b, n, e1, e2, tg_keep e3 (ne_OI e3 h3)⟩
  · rw [va_up_n _ _ c]
    show (lf j' = none ∧ (if j' = j then q else S.1 j') = none) ∨ ∃ o r b n, lf j' = some o ∧ (if j' = j then q else S.1 j') = some (r, b, n) ∧ _
    rw [if_neg c]
    rcases h4 j' hj' with e | ⟨o, r, b, n, e1, e2, e3⟩
    · exact Or.inl e
    · exact Or.inr ⟨o, r, b, n, e1, e2, tg_keep e3 (ne_OI e3 h3)⟩
/-- what is the same but for a cell that wasn't there -/
theorem fr_fresh {G G' : tG} {q : Nat} (hq : G q = none) (h : ∀ a, a ≠ q → G' a = G a) (P : Nat → Prop) : fr P G G' := fun a e ha _ => by
  rw [h a (fun c => by rw [c, hq] at ha; cases ha)]; exact ha
theorem TwR_fresh {G G' : tG} {L : tL} {S : tS} {q : Nat} (h : TwR G L S) (hq : G q = none) (h' : ∀ a, a ≠ q → G' a = G a) : TwR G' L S :=
  TwR_fr (P := fun _ => False) h (fr_fresh hq h' _) (fun _ _ z => z) (fun _ _ z => z.elim)
theorem asR_i {G : tG} {a n j : Nat} {f : Nat → Option Nat} {ty : FieldType} {i : Int32} {v : Option Nat} {ok : tE → Prop} {P : tG → Prop} (hG : G a = some (.inl (ty, n, .inr (.inr (.inr (.inr f)))))) (hi : i = nI j) (hj : j < n) (hn : n < 2 ^ 31) (hv : v = none ∨ ∃ (b : Nat) (e : tE), v = some b ∧ G b = some e ∧ ok e) (h : P (tg_up G a (.inl (ty, n, .inr (.inr (.inr (.inr (va_up f j v)))))))) : asR G (some a) i ty v ok P := ⟨a, n, f, j, rfl, hG, by rw [hi]; exact nI_toInt (by omega), hj, hv, h⟩
section CLI
variable {K : tK} {G : tG} {L : tL} {S : tS} {post : Int32 → tG → Prop} {postX : String → tG → Prop}
/-- a list's object is filled -/
theorem c_initRL {pv : tG → Prop} {q v : Nat} {r b n : Int32} (hq : G q = some (.inr (2, [.int 0, .null, .int 0, .int 0]))) (hp : ∀ G', G' q = some (.inr (2, [.int r, .ref v, .int b, .int n])) → (∀ a, a ≠ q → G' a = G a) → pv G') : w_X0_init K pv (some q) r (some v) b n G := by
  refine ⟨⟨q, rfl⟩, pfV_i hq (Nat.le_of_ble_eq_true rfl) (pfV_i (tg_s _ _ _) (Nat.le_of_ble_eq_true rfl) (pfV_i (tg_s _ _ _) (Nat.le_of_ble_eq_true rfl) (pfV_i (tg_s _ _ _) (Nat.le_of_ble_eq_true rfl) ?_)))⟩
  refine hp _ (tg_s _ _ _) (fun a ha => ?_)
  rw [tg_n _ _ ha, tg_n _ _ ha, tg_n _ _ ha, tg_n _ _ ha]
/-- a list of the places from a on, up to e -/
theorem c_pieceOf {pq : Option Nat → tG → Prop} {o r b n a e : Nat} (ho : G o = some (oRL (nI r) (L.2.2.2 r) b n)) (hae : a ≤ e) (hp : ∀ q G', G q = none → G' q = some (oRL (nI r) (L.2.2.2 r) (b + a) (e - a)) → (∀ x, x ≠ q → G' x = G x) → pq (some q) G') : w_X0_pieceOf K pq (some o) (nI a) (nI e) G := by
  intro q hq
  have ho2 : tg_up G q (.inr (2, [.int 0, .null, .int 0, .int 0])) o = some (oRL (nI r) (L.2.2.2 r) b n) := tg_keep ho (fun c => by rw [c, hq] at ho; cases ho)
  refine gfI_i ho2 rfl (gfR_i _ ho2 rfl (gfI_i ho2 rfl ⟨⟨q, rfl⟩, c_initRL (tg_s _ _ _) (fun G' q1 q2 => hp q G' hq ?_ (fun x hx => ?_))⟩))
  · rw [q1, nI_add]
    have e1 : nI e - nI a = nI (e - a) := by
      have e2 : nI e = nI (e - a) + nI a := by rw [nI_add]; congr 1; omega
      rw [e2, Int32.add_sub_cancel]
    rw [e1]
  · rw [q2 x hx, tg_n _ _ hx]
theorem S_part_ok (h : S_ok S) {p j r b n a e : Nat} (hp3 : 3 ≤ p) (hj : j < 7) (hs : S.1 j = some (r, b, n)) (hae : a ≤ e) (he : e ≤ n) : S_ok (S_lst S p (some (r, b + a, e - a))) := by
  refine ⟨fun r' hr' => ?_, fun j' r' b' n' hj' hs' => ?_, h.2.2⟩
  · show ∃ n, (if r' = p then _ else S.1 r') = _ ∧ _
    rw [if_neg (by omega)]; exact h.1 r' hr'
  · have hr0 : ∀ r'', r'' < 3 → (S_lst S p (some (r, b + a, e - a))).1 r'' = S.1 r'' := fun r'' hr'' => by
      show (if r'' = p then _ else S.1 r'') = _
      rw [if_neg (by omega)]
    have hs' : (if j' = p then some (r, b + a, e - a) else S.1 j') = some (r', b', n') := hs'
    by_cases c : j' = p
    · rw [if_pos c] at hs'
      cases hs'
      obtain ⟨h1, n0, h2, h3⟩ := h.2.1 j r b n hj hs
      exact ⟨h1, n0, by rw [hr0 r h1]; exact h2, by omega⟩
    · rw [if_neg c] at hs'
      obtain ⟨h1, n0, h2, h3⟩ := h.2.1 j' r' b' n' hj' hs'
      exact ⟨h1, n0, by rw [hr0 r' h1]; exact h2, h3⟩
def sp_part (S : tS) (p v x y : Int32) : tA := if 3 ≤ p.toInt ∧ p.toInt < 7 then sp_li S (S_at S v) (fun r b n => if inR y 0 (nI n) ∧ inR x 0 y then (0, nI (y.toInt.toNat - x.toInt.toNat), S_lst S p.toInt.toNat (some (r, b + x.toInt.toNat, y.toInt.toNat - x.toInt.toNat))) else (2, 0, S)) else (1, 0, S)
theorem c_part {p v x y : Int32} (h : TwR G L S) (hp : tRes L G post postX (sp_part S p v x y)) : w_X1_part K post postX (some L.1) p v x y G := by
  unfold sp_part at hp
  refine c_checkPart (fun j hj3 hj7 ej => ?_) (fun c => ?_)
  · subst ej
    rw [nI_toInt (by omega), if_pos (by omega)] at hp
    refine c_rcv h (c_listAt h (fun c => ?_) (fun o r b n c1 c2 c3 c4 => ?_))
    · rw [c] at hp; exact (hp G (fr_rf _ _) h).2.1 rfl
    · rw [c1] at hp
      refine gfI_i c2 rfl (c_checkNumber (fun hy => c_checkNumber (fun hx => ?_) (fun hx => ?_)) (fun hy => ?_))
      · simp only [sp_li, if_pos (And.intro hy hx)] at hp
        obtain ⟨e, he, rfl⟩ := nI_of2 (nI_toInt (n := n) (by omega)) hy.1 hy.2
        obtain ⟨a, ha, rfl⟩ := nI_of2 (nI_toInt (n := e) (by omega)) hx.1 hx.2
        rw [nI_nat (by omega), nI_nat (by omega)] at hp
        refine rcv_i c2 (c_pieceOf c2 ha (fun q G1 q0 q1 q2 => ?_))
        have h1 := TwR_fresh h q0 q2
        obtain ⟨⟨lf, k2, k3, k4⟩, -⟩ := TwR_C h1
        have hne : q ≠ L.2.1 := ne_OI q1 k3
        refine gfR_i _ k2 rfl (asR_i k3 rfl hj7 (by omega) (Or.inr ⟨q, _, rfl, q1, ⟨_, rfl⟩⟩) (gfI_i (tg_keep q1 hne) rfl ?_))
        have hj : ∃ j0, j0 < 7 ∧ S.1 j0 = some (r, b, n) := by
          unfold S_at at c1
          by_cases z : 0 ≤ v.toInt ∧ v.toInt < 7
          · rw [if_pos z] at c1; exact ⟨_, by omega, c1⟩
          · rw [if_neg z] at c1; cases c1
        obtain ⟨j0, hj0, hs0⟩ := hj
        refine (hp _ (fr_tr (fr_fresh q0 q2 _) (fr_up _ (Or.inr (Or.inl rfl)))) (TwC_R (TwC_lst (TwR_C h1) k3 (Or.inr ⟨q, r, b + a, e - a, rfl, rfl, q1⟩)) (S_part_ok h.1 hj3 hj0 hs0 ha he))).1 rfl
      · simp only [sp_li, if_neg (fun z : inR y 0 (nI n) ∧ inR x 0 y => hx z.2)] at hp
        exact (hp G (fr_rf _ _) h).2.2 rfl
      · simp only [sp_li, if_neg (fun z : inR y 0 (nI n) ∧ inR x 0 y => hy z.1)] at hp
        exact (hp G (fr_rf _ _) h).2.2 rfl
  · rw [if_neg c] at hp
    exact (hp G (fr_rf _ _) h).2.1 rfl
end CLI
end GRP20x8
section GRP20x9
/-! lay: a new twin; the row's parts go -/
def dpF (S : tS) (row : Nat) : Nat → tS × Int32
  | 0 => (S, 0)
  | k + 1 => match (dpF S row k).1.1 (3 + k) with
    | some (r, _, _) => if r = row then (S_lst (dpF S row k).1 (3 + k) none, (dpF S row k).2 + 1) else dpF S row k
    | none => dpF S row k
theorem dp_none {S : tS} {row k : Nat} (h : (dpF S row k).1.1 (3 + k) = none) : dpF S row (k + 1) = dpF S row k := by
  show (match (dpF S row k).1.1 (3 + k) with | some (r, _, _) => _ | none => _) = _
  rw [h]
theorem dp_no {S : tS} {row k r b n : Nat} (h : (dpF S row k).1.1 (3 + k) = some (r, b, n)) (hr : ¬ r = row) : dpF S row (k + 1) = dpF S row k := by
  show (match (dpF S row k).1.1 (3 + k) with | some (r, _, _) => _ | none => _) = _
  rw [h]; exact if_neg hr
theorem dp_yes {S : tS} {row k r b n : Nat} (h : (dpF S row k).1.1 (3 + k) = some (r, b, n)) (hr : r = row) : dpF S row (k + 1) = (S_lst (dpF S row k).1 (3 + k) none, (dpF S row k).2 + 1) := by
  show (match (dpF S row k).1.1 (3 + k) with | some (r, _, _) => _ | none => _) = _
  rw [h]; exact if_pos hr
/-- what stands behind k steps: what stood, but the row's parts among the first k -/
theorem dp_sub (S : tS) (row : Nat) : ∀ k, (dpF S row k).1.2 = S.2 ∧ ∀ j, ((dpF S row k).1.1 j = S.1 j ∨ ((dpF S row k).1.1 j = none ∧ 3 ≤ j)) ∧ (3 ≤ j → j < 3 + k → ∀ r b n, (dpF S row k).1.1 j = some (r, b, n) → ¬ r = row)
  | 0 => ⟨rfl, fun j => ⟨Or.inl rfl, fun h1 h2 => absurd h2 (by omega)⟩⟩
  | k + 1 => by
    have ih := dp_sub S row k
    cases hc : (dpF S row k).1.1 (3 + k) with
    | none =>
      rw [dp_none hc]
      refine ⟨ih.1, fun j => ⟨(ih.2 j).1, fun h1 h2 r b n e => ?_⟩⟩
      by_cases c : j = 3 + k
      · rw [c, hc] at e; cases e
      · exact (ih.2 j).2 h1 (by omega) r b n e
    | some q =>
      obtain ⟨r, b, n⟩ := q
      by_cases hr : r = row
      · rw [dp_yes hc hr]
        refine ⟨ih.1, fun j => ?_⟩
        show ((if j = 3 + k then none else (dpF S row k).1.1 j) = S.1 j ∨ ((if j = 3 + k then none else (dpF S row k).1.1 j) = none ∧ 3 ≤ j)) ∧ (3 ≤ j → j < 3 + (k + 1) → ∀ r b n, (if j = 3 + k then none else (dpF S row k).1.1 j) = some (r, b, n) → ¬ r = row)
        by_cases c : j = 3 + k
        · simp only [if_pos c]
          exact ⟨Or.inr ⟨trivial, by omega⟩, fun _ _ _ _ _ e => by cases e⟩
        · simp only [if_neg c]
          exact ⟨(ih.2 j).1, fun h1 h2 r b n e => (ih.2 j).2 h1 (by omega) r b n e⟩
      · rw [dp_no hc hr]
        refine ⟨ih.1, fun j => ⟨(ih.2 j).1, fun h1 h2 r' b' n' e => ?_⟩⟩
        by_cases c : j = 3 + k
        · rw [c, hc] at e; cases e; exact hr
        · exact (ih.2 j).2 h1 (by omega) r' b' n' e
section CLJ
variable {K : tK} {G : tG} {L : tL} {S : tS} {post : Int32 → tG → Prop} {postX : String → tG → Prop}
theorem c_dropPartsOf {pk : Int32 → tG → Prop} {row : Nat} (hrow : row < 3) (hb : ∀ j r b n, j < 7 → S.1 j = some (r, b, n) → r < 3) (h : TwC G L S) (hp : ∀ G', fr (clsW L) G G' → TwC G' L (dpF S row 4).1 → pk (dpF S row 4).2 G') : w_X1_dropPartsOf K pk (some L.1) (nI row) G := by
  have main : ∀ k i G1, i + k = 4 → fr (clsW L) G G1 → TwC G1 L (dpF S row i).1 → w_X1_dropPartsOf_4 K pk (k + 1) (some L.1) (nI row) (dpF S row i).2 (nI (3 + i)) G1 := by
    intro k
    induction k with
    | zero =>
      intro i G1 hi hf h1
      show w_X1_dropPartsOf_4_b K pk (w_X1_dropPartsOf_4 K pk 0) (some L.1) (nI row) (dpF S row i).2 (nI (3 + i)) G1
      have e : i = 4 := by omega
      subst e
      obtain ⟨⟨lf, k2, k3, k4⟩, -⟩ := id h1
      exact gfR_i _ k2 rfl (lenA_i k3 ⟨fun _ => hp G1 hf h1, fun c => absurd (show nI 7 ≤ nI 7 from by decide) c⟩)
    | succ k ih =>
      intro i G1 hi hf h1
      show w_X1_dropPartsOf_4_b K pk (w_X1_dropPartsOf_4 K pk (k + 1)) (some L.1) (nI row) (dpF S row i).2 (nI (3 + i)) G1
      obtain ⟨⟨lf, k2, k3, k4⟩, -⟩ := id h1
      refine gfR_i _ k2 rfl (lenA_i k3 ⟨fun c => ?_, fun _ => gfR_i _ k2 rfl (alR_i k3 rfl (j := 3 + i) (by omega) (by omega) ?_)⟩)
      · exact absurd (show nI 7 ≤ nI (3 + i) from c) (nI_ge (by omega) (by omega))
      · rcases k4 (3 + i) (by omega) with ⟨e1, e2⟩ | ⟨o, r, b, n, e1, e2, e3⟩
        · rw [e1]
          refine ⟨fun _ => ?_, fun z => absurd rfl z⟩
          show w_X1_dropPartsOf_4 K pk (k + 1) (some L.1) (nI row) (dpF S row i).2 (nI (3 + i) + 1) G1
          rw [nI_1]
          have := ih (i + 1) G1 (by omega) hf (by rw [dp_none e2]; exact h1)
          rw [dp_none e2] at this
          exact this
        · rw [e1]
          have hr3 : r < 3 := by
            rcases ((dp_sub S row i).2 (3 + i)).1 with q | q
            · rw [q] at e2; exact hb (3 + i) r b n (by omega) e2
            · rw [q.1] at e2; cases e2
          refine ⟨fun z => (by cases z), fun _ => gfI_i e3 rfl ⟨fun c => ?_, fun c => ?_⟩⟩
          · have hne : ¬ r = row := fun q => c (by rw [q])
            show w_X1_dropPartsOf_4 K pk (k + 1) (some L.1) (nI row) (dpF S row i).2 (nI (3 + i) + 1) G1
            rw [nI_1]
            have := ih (i + 1) G1 (by omega) hf (by rw [dp_no e2 hne]; exact h1)
            rw [dp_no e2 hne] at this
            exact this
          · have heq : r = row := (nI_eq (by omega) (by omega)).mp c
            refine gfR_i _ k2 rfl (asR_i k3 rfl (j := 3 + i) (by omega) (by omega) (Or.inl rfl) ?_)
            show w_X1_dropPartsOf_4 K pk (k + 1) (some L.1) (nI row) ((dpF S row i).2 + 1) (nI (3 + i) + 1) _
            rw [nI_1]
            have := ih (i + 1) _ (by omega) (fr_tr hf (fr_up _ (Or.inr (Or.inl rfl)))) (by rw [dp_yes e2 heq]; exact TwC_lst h1 k3 (Or.inl ⟨rfl, rfl⟩))
            rw [dp_yes e2 heq] at this
            exact this
  exact ⟨5, main 4 0 G (by omega) (fr_rf _ _) h⟩
end CLJ
end GRP20x9
section GRP20x10
section CLK
variable {K : tK} {G : tG} {L : tL} {S : tS} {post : Int32 → tG → Prop} {postX : String → tG → Prop}
theorem S_map_1 (S : tS) (r b : Nat) (f : Nat → Int32 → Int32) : ∀ k, (S_map S r b f k).1 = S.1 ∧ (S_map S r b f k).2.2 = S.2.2
  | 0 => ⟨rfl, rfl⟩
  | k + 1 => S_map_1 S r b f k
def S_lay (S : tS) (r m : Nat) : tS := S_lst (S_map S r 0 (fun _ _ => 0) m) r (some (r, 0, m))
def sp_lay (S : tS) (v w : Int32) : tA := match S_tw S v with
  | none => (1, 0, S)
  | some (r, _, _) => if inR w 0 12 then (0, (dpF (S_lay S r w.toInt.toNat) r 4).2, (dpF (S_lay S r w.toInt.toNat) r 4).1) else (2, 0, S)
theorem S_lay_ok {r m : Nat} (h : S_ok S) (h2 : S_ok (S_map S r 0 (fun _ _ => 0) m)) (hr : r < 3) (hm : m ≤ 12) : S_ok (dpF (S_lay S r m) r 4).1 := by
  have hl : ∀ j, (S_lay S r m).1 j = if j = r then some (r, 0, m) else S.1 j := fun j => by
    show (if j = r then _ else (S_map S r 0 (fun _ _ => 0) m).1 j) = _
    rw [(S_map_1 S r 0 (fun _ _ => 0) m).1]
  have hd := dp_sub (S_lay S r m) r 4
  have hrow : ∀ r', r' < 3 → (dpF (S_lay S r m) r 4).1.1 r' = if r' = r then some (r, 0, m) else S.1 r' := fun r' hr' => by
    rcases (hd.2 r').1 with q | q
    · rw [q, hl]
    · exact absurd q.2 (by omega)
  refine ⟨fun r' hr' => ?_, fun j r' b n hj e => ?_, fun r' i hr' hi => ?_⟩
  · rw [hrow r' hr']
    by_cases c : r' = r
    · rw [if_pos c, c]; exact ⟨m, rfl, hm⟩
    · rw [if_neg c]; exact h.1 r' hr'
  · by_cases c3 : j < 3
    · rw [hrow j c3] at e
      by_cases c : j = r
      · rw [if_pos c] at e; cases e
        exact ⟨hr, m, by rw [hrow r hr, if_pos rfl], by omega⟩
      · rw [if_neg c] at e
        obtain ⟨n0, f1, f2⟩ := h.1 j c3
        rw [f1] at e; cases e
        exact ⟨c3, n, by rw [hrow j c3, if_neg c]; exact f1, by omega⟩
    · have hne := (hd.2 j).2 (by omega) (by omega) r' b n e
      rcases (hd.2 j).1 with q | q
      · rw [q, hl, if_neg (by omega)] at e
        obtain ⟨g1, n0, g2, g3⟩ := h.2.1 j r' b n hj e
        exact ⟨g1, n0, by rw [hrow r' g1, if_neg hne]; exact g2, g3⟩
      · rw [q.1] at e; cases e
  · have e : (dpF (S_lay S r m) r 4).1.2 = (S_map S r 0 (fun _ _ => 0) m).2 := hd.1
    rw [show (dpF (S_lay S r m) r 4).1.2.1 = (S_map S r 0 (fun _ _ => 0) m).2.1 from by rw [e]]
    exact h2.2.2 r' i hr' hi
theorem c_lay {v w : Int32} (h : TwR G L S) (hp : tRes L G post postX (sp_lay S v w)) : w_X1_lay K post postX (some L.1) v w G := by
  unfold sp_lay at hp
  refine c_rcv h (c_twinAt h (fun c => ?_) (fun o r n e1 c1 c2 c3 c4 => ?_))
  · rw [c] at hp; exact (hp G (fr_rf _ _) h).2.1 rfl
  · subst e1
    have e2 : S_tw S (nI r) = some (r, 0, n) := by
      unfold S_tw
      rw [nI_toInt (by omega), if_pos (by omega)]; exact c1
    rw [e2] at hp
    refine c_checkNumber (fun hw => ?_) (fun hw => ?_)
    · simp only [if_pos hw] at hp
      obtain ⟨m, hm, rfl⟩ := nI_of2 (M := 12) (n := 12) rfl hw.1 hw.2
      rw [nI_nat (by omega)] at hp
      intro q hq
      have ho2 : tg_up G q (.inr (2, [.int 0, .null, .int 0, .int 0])) o = some (oRL (nI r) (L.2.2.2 r) 0 n) := tg_keep c2 (fun c => by rw [c, hq] at c2; cases c2)
      refine gfR_i _ ho2 rfl ⟨⟨q, rfl⟩, c_initRL (tg_s _ _ _) (fun G1 q1 q2 => ?_)⟩
      have q3 : ∀ a, a ≠ q → G1 a = G a := fun a ha => by rw [q2 a ha, tg_n _ _ ha]
      have h1 := TwR_fresh h hq q3
      have q1 : G1 q = some (oRL (nI r) (L.2.2.2 r) 0 m) := q1
      refine c_writeAll h1 q1 c3 (by omega) (Or.inr ⟨by decide, by decide⟩) (fun G2 f1 h2 o2 => ?_)
      obtain ⟨⟨lf, k2, k3, k4⟩, -⟩ := TwR_C h2
      refine gfR_i _ k2 rfl (asR_i k3 rfl (j := r) (by omega) (by omega) (Or.inr ⟨q, _, rfl, o2, ⟨_, rfl⟩⟩) ?_)
      have h3 := TwC_lst (j := r) (q := some (r, 0, m)) (v := some q) (TwR_C h2) k3 (Or.inr ⟨q, r, 0, m, rfl, rfl, o2⟩)
      obtain ⟨⟨lf3, k23, k33, k43⟩, -⟩ := id h3
      refine rcv_i k23 (c_dropPartsOf (S := S_lay S r m) c3 (fun j r' b' n' hj e => ?_) h3 (fun G4 f4 h4 => ?_))
      · have e : (if j = r then some (r, 0, m) else (S_map S r 0 (fun _ _ => 0) m).1 j) = some (r', b', n') := e
        by_cases c : j = r
        · rw [if_pos c] at e; cases e; exact c3
        · rw [if_neg c, (S_map_1 S r 0 (fun _ _ => 0) m).1] at e
          exact (h.1.2.1 j r' b' n' hj e).1
      · refine (hp G4 (fr_tr (fr_tr (fr_fresh hq q3 _) f1) (fr_tr (fr_up _ (Or.inr (Or.inl rfl))) f4)) (TwC_R h4 (S_lay_ok h.1 h2.1 c3 hm))).1 rfl
    · simp only [if_neg hw] at hp
      exact (hp G (fr_rf _ _) h).2.2 rfl
end CLK
end GRP20x10
section GRP20x11
/-! rotate -/
def fmF (x y : Int32) : Int32 := if 0 ≤ (x ^^^ y) then x - x / y * y else if x - x / y * y = 0 then x - x / y * y else x - x / y * y + y
set_option maxRecDepth 100000 in
theorem fm_tab : ((List.range 199).all fun i => (List.range 12).all fun n => decide (¬ fmF (nI i - nI 99) (nI (n + 1)) < 0) && decide (fmF (nI i - nI 99) (nI (n + 1)) < nI (n + 1))) = true := by decide +kernel
theorem fm_in {x : Int32} {n : Nat} (hx : inR x (-99) 99) (h0 : 0 < n) (hn : n ≤ 12) : ∃ s, s < n ∧ fmF x (nI n) = nI s := by
  have e1 : (99 : Int32).toInt = 99 := rfl
  have e2 : (-99 : Int32).toInt = -99 := rfl
  have h1 := hx.1
  have h2 := hx.2
  rw [i32_lt] at h1
  rw [i32_le] at h2
  have ex : x = nI (x.toInt + 99).toNat - nI 99 := by
    apply Int32.toInt_inj.mp
    rw [nI_sub (by omega) (by omega)]
    omega
  have t := List.all_eq_true.mp (List.all_eq_true.mp fm_tab (x.toInt + 99).toNat (List.mem_range.mpr (by omega))) (n - 1) (List.mem_range.mpr (by omega))
  rw [← ex, show n - 1 + 1 = n by omega, Bool.and_eq_true] at t
  have t1 := of_decide_eq_true t.1
  have t2 := of_decide_eq_true t.2
  obtain ⟨s, hs, e⟩ := nI_of t1
  rw [e, nI_ltI hs (by omega)] at t2
  exact ⟨s, t2, e⟩
section CLL
variable {K : tK} {G : tG} {L : tL} {S : tS} {post : Int32 → tG → Prop} {postX : String → tG → Prop}
theorem c_floorMod {pk : Int32 → tG → Prop} {x y : Int32} (hy : ¬ y = 0) (h : pk (fmF x y) G) : w_J9_floorMod_7cf53 K pk x y G := by
  unfold fmF at h
  refine ⟨hy, fun c => ?_, fun c => ⟨fun d => ?_, fun d => ?_⟩⟩
  · rw [if_pos c] at h; exact h
  · rw [if_neg c, if_pos d] at h; exact h
  · rw [if_neg c, if_neg d] at h; exact h
def roS (S : tS) (r b n s : Nat) : tS := tuF r b n s n (tuF r b s 0 s (tuF r b n 0 n S))
theorem c_rotate {v x : Int32} (h : TwR G L S) (hp : tRes L G post postX (sp_li S (S_at S v) fun r b n => if inR x (-99) 99 then (0, nI n, if n = 0 then S else roS S r b n (fmF x (nI n)).toInt.toNat) else (2, 0, S))) : w_X1_rotate K post postX (some L.1) v x G := by
  refine c_rcv h (c_listAt h (fun c => ?_) (fun o r b n c1 c2 c3 c4 => ?_))
  · rw [c] at hp; exact (hp G (fr_rf _ _) h).2.1 rfl
  · rw [c1] at hp
    refine c_checkNumber (fun hx => ?_) (fun hx => ?_)
    · simp only [sp_li, if_pos hx] at hp
      refine gfI_i c2 rfl ⟨fun c => ?_, fun c => ?_⟩
      · have hn : n = 0 := Decidable.byContradiction fun e => nI_nle (by omega) (by omega) c
        simp only [if_pos hn] at hp
        exact gfI_i c2 rfl ((hp G (fr_rf _ _) h).1 rfl)
      · have hn : ¬ n = 0 := fun e => c (by rw [e]; decide)
        simp only [if_neg hn] at hp
        obtain ⟨s, hs, es⟩ := fm_in hx (by omega) (show n ≤ 12 by omega)
        rw [es, nI_nat (by omega)] at hp
        refine gfI_i c2 rfl (c_floorMod (nI_ne0 (by omega) (by omega)) ?_)
        rw [es]
        refine gfI_i c2 rfl ⟨n + 1, c_turn c3 c4 n 0 n S G (by omega) (by omega) (by omega) h c2 (fun G1 q1 h1 o1 => ?_)⟩
        refine ⟨s + 1, c_turn c3 c4 s 0 s _ G1 (by omega) (by omega) (by omega) h1 o1 (fun G2 q2 h2 o2 => ?_)⟩
        refine gfI_i o2 rfl ⟨n + 1, c_turn c3 c4 n s n _ G2 (by omega) (by omega) (by omega) h2 o2 (fun G3 q3 h3 o3 => ?_)⟩
        exact gfI_i o3 rfl ((hp G3 (fr_tr q1 (fr_tr q2 q3)) h3).1 rfl)
    · simp only [sp_li, if_neg hx] at hp
      exact (hp G (fr_rf _ _) h).2.2 rfl
end CLL
end GRP20x11
section GRP20x12
/-! the constructor -/
def S_0 : tS := ((fun j => if j < 3 then some (j, 0, 4) else none), (fun _ _ => 0), 0, 0)
theorem S_0_ok : S_ok S_0 := by
  refine ⟨fun r hr => ⟨4, if_pos hr, by omega⟩, fun j r b n hj e => ?_, fun r i _ _ => (show okV 0 from Or.inr ⟨by decide, by decide⟩)⟩
  have e : (if j < 3 then some (j, 0, 4) else none) = some (r, b, n) := e
  by_cases c : j < 3
  · rw [if_pos c] at e; cases e
    exact ⟨c, 4, if_pos c, by omega⟩
  · rw [if_neg c] at e; cases e
def iniI (G0 G : tG) (x la sp i : Nat) (va : Nat → Nat) (lf : Nat → Option Nat) : Prop := fr (fun q => q = x) G0 G ∧ (G0 la = none ∧ G0 sp = none) ∧ G x = some (oTw la sp 0 0) ∧ G la = some (eL lf) ∧ G sp = some (eI 12 fun _ => 0) ∧ (∀ r, r < i → G0 (va r) = none ∧ G (va r) = some (eI 12 fun _ => 0) ∧ va r ≠ sp ∧ ∃ o, lf r = some o ∧ G o = some (oRL (nI r) (va r) 0 4)) ∧ (∀ r r', r < i → r' < i → va r = va r' → r = r') ∧ ∀ j, i ≤ j → lf j = none
theorem fr_none {P : Nat → Prop} {G G1 : tG} (h : fr P G G1) {q : Nat} (hq : G1 q = none) (hp : ¬ P q) : G q = none := by
  cases e : G q with
  | none => rfl
  | some v => rw [h q v e hp] at hq; cases hq
theorem iniI_R {G0 G : tG} {x la sp : Nat} {va : Nat → Nat} {lf : Nat → Option Nat} (h : iniI G0 G x la sp 3 va lf) : TwR G (x, la, sp, va) S_0 := by
  obtain ⟨-, -, h1, h2, h3, h4, h5, h6⟩ := h
  refine ⟨S_0_ok, ⟨lf, h1, h2, fun j hj => ?_⟩, ⟨_, h3⟩, fun r hr => (h4 r hr).2.1, fun r hr => (h4 r hr).2.2.1, h5⟩
  by_cases c : j < 3
  · obtain ⟨o, e1, e2⟩ := (h4 j c).2.2.2
    exact Or.inr ⟨o, j, 0, 4, e1, if_pos c, e2⟩
  · exact Or.inl ⟨h6 j (by omega), if_neg c⟩
theorem c_init1 {K : tK} {G : tG} {x : Nat} {pv : tG → Prop} (hx : G x = some (.inr (3, [.null, .null, .int 0, .int 0]))) (hp : ∀ G' L, L.1 = x → TwR G' L S_0 → fr (fun q => q = x) G G' → (∀ q, clsW L q → q = x ∨ G q = none) → pv G') : w_X1_init K pv (some x) G := by
  have main : ∀ k i G1 la sp va lf, i + k = 3 → iniI G G1 x la sp i va lf → w_X1_init_33 K pv (k + 1) (2 + 2 * i) (19 + 16 * i) (some x) (nI i) G1 := by
    intro k
    induction k with
    | zero =>
      intro i G1 la sp va lf hi h
      show w_X1_init_33_b K pv (w_X1_init_33 K pv 0) (2 + 2 * i) (19 + 16 * i) (some x) (nI i) G1
      have e : i = 3 := by omega
      subst e
      refine ⟨fun _ => hp G1 (x, la, sp, va) rfl (iniI_R h) h.1 ?_, fun c => absurd (by decide) c⟩
      rintro q (c | c | c | c | c | c)
      · exact Or.inl c
      · exact Or.inr (c ▸ h.2.1.1)
      · exact Or.inr (c ▸ h.2.1.2)
      · exact Or.inr (c ▸ (h.2.2.2.2.2.1 0 (by omega)).1)
      · exact Or.inr (c ▸ (h.2.2.2.2.2.1 1 (by omega)).1)
      · exact Or.inr (c ▸ (h.2.2.2.2.2.1 2 (by omega)).1)
    | succ k ih =>
      intro i G1 la sp va lf hi h
      show w_X1_init_33_b K pv (w_X1_init_33 K pv (k + 1)) (2 + 2 * i) (19 + 16 * i) (some x) (nI i) G1
      obtain ⟨f0, ⟨n1, n2⟩, h1, h2, h3, h4, h5, h6⟩ := h
      refine ⟨fun c => absurd (show nI 3 ≤ nI i from c) (nI_ge (by omega) (by omega)), fun _ => gfR_i _ h1 rfl (lenA_i h2 ⟨fun c => absurd (show nI 7 ≤ nI i from c) (nI_ge (by omega) (by omega)), fun _ => gfR_i _ h1 rfl ⟨⟨by omega, by omega⟩, fun q hq => ⟨⟨by omega, by omega⟩, 12, rfl, by omega, fun a ha => ⟨⟨q, rfl⟩, ?_⟩⟩⟩⟩)⟩
      have hqa : a ≠ q := fun c => by rw [c, tg_s] at ha; cases ha
      have ha1 : G1 a = none := by rw [tg_n _ _ hqa] at ha; exact ha
      have hqx : q ≠ x := fun c => by rw [c, h1] at hq; cases hq
      have hax : a ≠ x := fun c => by rw [c, h1] at ha1; cases ha1
      refine c_initRL (tg_keep (tg_s _ _ _) (fun c => hqa c.symm)) (fun G2 q1 q2 => ?_)
      have k2 : ∀ y e, G1 y = some e → G2 y = some e := fun y e hy => by
        have y1 : y ≠ q := fun c => by rw [c, hq] at hy; cases hy
        have y2 : y ≠ a := fun c => by rw [c, ha1] at hy; cases hy
        rw [q2 y y1, tg_n _ _ y2, tg_n _ _ y1]; exact hy
      have ka : G2 a = some (eI 12 fun _ => 0) := by rw [q2 a hqa, tg_s]
      have q1 : G2 q = some (oRL (nI i) a 0 4) := q1
      have h22 := k2 _ _ h2
      refine asR_i h22 rfl (j := i) (by omega) (by omega) (Or.inr ⟨q, _, rfl, q1, ⟨_, rfl⟩⟩) ?_
      have kk : ∀ y e, G2 y = some e → y ≠ la → tg_up G2 la (eL (va_up lf i (some q))) y = some e := fun y e hy hn => tg_keep hy hn
      have goal := ih (i + 1) (tg_up G2 la (eL (va_up lf i (some q)))) la sp (fun r => if r = i then a else va r) (va_up lf i (some q)) (by omega) ?_
      · rw [show 2 + 2 * i + 1 + 1 = 2 + 2 * (i + 1) by omega, show 19 + 16 * i + 4 + 12 = 19 + 16 * (i + 1) by omega, nI_1]
        exact goal
      · have hasp : a ≠ sp := fun c => by rw [c, h3] at ha1; cases ha1
        refine ⟨?_, ⟨n1, n2⟩, kk _ _ (k2 _ _ h1) (ne_OI h1 h2), tg_s _ _ _, kk _ _ (k2 _ _ h3) (ne_of_G h3 h2 (fun e => by cases e)), fun r hr => ?_, fun r r' hr hr' e => ?_, fun j hj => ?_⟩
        · intro y e hy hn
          have hy1 := f0 y e hy hn
          exact kk _ _ (k2 _ _ hy1) (fun c => by rw [c, n1] at hy; cases hy)
        · show G (if r = i then a else va r) = none ∧ tg_up G2 la _ (if r = i then a else va r) = _ ∧ (if r = i then a else va r) ≠ sp ∧ ∃ o, va_up lf i (some q) r = some o ∧ tg_up G2 la _ o = some (oRL (nI r) (if r = i then a else va r) 0 4)
          by_cases c : r = i
          · subst c
            simp only [if_true]
            refine ⟨fr_none f0 ha1 hax, kk _ _ ka (ne_of_G ka h22 (fun e => by cases e)), hasp, q, va_up_s _ _ _, kk _ _ q1 (ne_OI q1 h22)⟩
          · simp only [if_neg c]
            obtain ⟨g1, g2, g3, o, g4, g5⟩ := h4 r (by omega)
            exact ⟨g1, kk _ _ (k2 _ _ g2) (ne_of_G g2 h2 (fun e => by cases e)), g3, o, by rw [va_up_n _ _ c]; exact g4, kk _ _ (k2 _ _ g5) (ne_OI g5 h2)⟩
        · have e : (if r = i then a else va r) = (if r' = i then a else va r') := e
          have hva : ∀ s, s < i → va s ≠ a := fun s hs c => by
            have g2 := (h4 s hs).2.1
            rw [c, ha1] at g2; cases g2
          by_cases c : r = i
          · by_cases c' : r' = i
            · rw [c, c']
            · rw [if_pos c, if_neg c'] at e
              exact absurd e.symm (hva r' (by omega))
          · by_cases c' : r' = i
            · rw [if_neg c, if_pos c'] at e
              exact absurd e (hva r (by omega))
            · rw [if_neg c, if_neg c'] at e
              exact h5 r r' (by omega) (by omega) e
        · rw [va_up_n _ _ (by omega)]; exact h6 j (by omega)
  refine ⟨⟨x, rfl⟩, ⟨by omega, by omega⟩, 7, rfl, by omega, fun la hla => ?_⟩
  have x1 : x ≠ la := fun c => by rw [← c, hx] at hla; cases hla
  refine pfV_i (tg_keep hx x1) (Nat.le_of_ble_eq_true rfl) ⟨⟨by omega, by omega⟩, 12, rfl, by omega, fun sp hsp => ?_⟩
  have x2 : x ≠ sp := fun c => by rw [← c, tg_s] at hsp; cases hsp
  have s1 : sp ≠ la := fun c => by rw [c, tg_n _ _ (fun z => x1 z.symm), tg_s] at hsp; cases hsp
  have sp0 : G sp = none := by rw [tg_n _ _ (fun z => x2 z.symm), tg_n _ _ s1] at hsp; exact hsp
  refine pfV_i (tg_keep (tg_s _ _ _) x2) (Nat.le_of_ble_eq_true rfl) (pfV_i (tg_s _ _ _) (Nat.le_of_ble_eq_true rfl) (pfV_i (tg_s _ _ _) (Nat.le_of_ble_eq_true rfl) ⟨4, ?_⟩))
  refine main 3 0 _ la sp (fun _ => 0) (fun _ => none) (by omega) ⟨?_, ⟨hla, sp0⟩, tg_s _ _ _, ?_, ?_, fun r hr => absurd hr (by omega), fun r r' hr => absurd hr (by omega), fun _ _ => rfl⟩
  · intro y e hy hn
    have hn : y ≠ x := hn
    have y1 : y ≠ la := fun c => by rw [c, hla] at hy; cases hy
    have y2 : y ≠ sp := fun c => by rw [c, sp0] at hy; cases hy
    rw [tg_n _ _ hn, tg_n _ _ hn, tg_n _ _ hn, tg_n _ _ y2, tg_n _ _ hn, tg_n _ _ y1]; exact hy
  · have l1 : la ≠ x := fun c => x1 c.symm
    have l2 : la ≠ sp := fun c => s1 c.symm
    rw [tg_n _ _ l1, tg_n _ _ l1, tg_n _ _ l1, tg_n _ _ l2, tg_n _ _ l1, tg_s]
  · have l1 : sp ≠ x := fun c => x2 c.symm
    rw [tg_n _ _ l1, tg_n _ _ l1, tg_n _ _ l1, tg_s]
end GRP20x12
section GRP20x13
/-! isSound: pieces -/
theorem nI_subN {a b : Nat} (h : b ≤ a) : nI a - nI b = nI (a - b) := by
  have e : nI a = nI (a - b) + nI b := by rw [nI_add]; congr 1; omega
  rw [e, Int32.add_sub_cancel]
section SND
variable {K : tK} {G : tG} {o v b n N : Nat} {r : Int32} {f : Nat → Int32}
theorem c_sameBoth {pk : Int32 → tG → Prop} (ho : G o = some (oRL r v b n)) (hv : G v = some (eI N f)) (hN : N < 2 ^ 31) (hb : b + n ≤ N) (h : pk 1 G) : w_X1_isSameBothWays K pk (some o) G := by
  have main : ∀ k i, i + k = n → w_X1_isSameBothWays_2 K pk (k + 1) (some o) (nI i) G := by
    intro k
    induction k with
    | zero =>
      intro i hi
      show w_X1_isSameBothWays_2_b K pk (w_X1_isSameBothWays_2 K pk 0) (some o) (nI i) G
      exact gfI_i ho rfl ⟨fun _ => ⟨by decide, h⟩, fun c => absurd (nI_le (by omega) (by omega)) c⟩
    | succ k ih =>
      intro i hi
      show w_X1_isSameBothWays_2_b K pk (w_X1_isSameBothWays_2 K pk (k + 1)) (some o) (nI i) G
      have e1 : (0 : Int32) + nI i = nI i := Int32.zero_add _
      have e2 : nI n - 1 - (nI n - 1 - nI i) = nI i := by
        have q : nI n - 1 = nI (n - 1) := by
          have q2 : n = n - 1 + 1 := by omega
          rw [q2, nI_pred]; congr 1
        rw [q, nI_subN (by omega), nI_subN (by omega)]
        congr 1; omega
      refine gfI_i ho rfl ⟨fun c => absurd c (nI_ge (by omega) (by omega)), fun _ => ⟨fun _ => gfI_i ho rfl (gfI_i ho rfl ⟨fun z => absurd z (by decide), fun _ => ?_⟩), fun z => absurd rfl z⟩⟩
      refine rcv_i ho (l_read ho hv e1 (by omega) hN (rcv_i ho (l_read ho hv e2 (by omega) hN ⟨fun _ => ?_, fun c => absurd rfl c⟩)))
      rw [nI_1]
      exact ih (i + 1) (by omega)
  exact ⟨n + 1, main n 0 (by omega)⟩
/-- codeOf between any two places -/
theorem c_codeFrom {pk : Int32 → tG → Prop} {a m : Nat} (ho : G o = some (oRL r v b n)) (hv : G v = some (eI N f)) (hN : N < 2 ^ 31) (hb : b + (a + m) ≤ N) (h : pk (coF (fun i => f (b + (a + i))) m) G) : w_X1_codeOf K pk (some o) (nI a) (nI (a + m)) G := by
  have main : ∀ k i, i + k = m → w_X1_codeOf_5 K pk (k + 1) (some o) (nI (a + m)) (coF (fun i => f (b + (a + i))) i) (nI (a + i)) G := by
    intro k
    induction k with
    | zero =>
      intro i hi
      show w_X1_codeOf_5_b K pk (w_X1_codeOf_5 K pk 0) (some o) (nI (a + m)) (coF (fun i => f (b + (a + i))) i) (nI (a + i)) G
      have e : i = m := by omega
      subst e
      exact ⟨fun _ => h, fun c => absurd (nI_le (by omega) (by omega)) c⟩
    | succ k ih =>
      intro i hi
      show w_X1_codeOf_5_b K pk (w_X1_codeOf_5 K pk (k + 1)) (some o) (nI (a + m)) (coF (fun i => f (b + (a + i))) i) (nI (a + i)) G
      refine ⟨fun c => absurd c (nI_ge (by omega) (by omega)), fun _ => rcv_i ho (l_read ho hv rfl (by omega) hN (c_numberOf ?_))⟩
      rw [nI_1]
      exact ih (i + 1) (by omega)
  exact ⟨m + 1, main m 0 (by omega)⟩
end SND
end GRP20x13
section GRP20x14
section SNO
variable {K : tK} {G : tG} {o o2 v b n n0 N : Nat} {r : Int32} {f : Nat → Int32}
/-- a list lies in its row -/
theorem c_isInRow {pk : Int32 → tG → Prop} (ho : G o = some (oRL r v b n)) (ho2 : G o2 = some (oRL r v 0 n0)) (hv : G v = some (eI N f)) (hN : N < 2 ^ 31) (hb : b + n ≤ n0) (hn0 : n0 ≤ N) (h : pk 1 G) : w_X1_isInRow K pk (some o) (some o2) G := by
  have main : ∀ k i, i + k = n → w_X1_isInRow_20 K pk (k + 1) (some o) (some o2) (nI i) G := by
    intro k
    induction k with
    | zero =>
      intro i hi
      show w_X1_isInRow_20_b K pk (w_X1_isInRow_20 K pk 0) (some o) (some o2) (nI i) G
      refine gfI_i ho rfl ⟨fun _ => gfI_i ho rfl ?_, fun c => absurd (nI_le (by omega) (by omega)) c⟩
      refine c_codeOf ho hv hN (by omega) (gfI_i ho rfl (gfI_i ho rfl (gfI_i ho rfl ?_)))
      rw [nI_add]
      refine c_codeFrom ho2 hv hN (by omega) ⟨fun c => absurd ?_ c, fun _ => ⟨by decide, h⟩⟩
      simp only [Nat.zero_add]
    | succ k ih =>
      intro i hi
      show w_X1_isInRow_20_b K pk (w_X1_isInRow_20 K pk (k + 1)) (some o) (some o2) (nI i) G
      refine gfI_i ho rfl ⟨fun c => absurd c (nI_ge (by omega) (by omega)), fun _ => ?_⟩
      refine rcv_i ho (l_read ho hv rfl (by omega) hN (gfI_i ho rfl (rcv_i ho2 (l_read ho2 hv (nI_add b i) (by omega) hN ⟨fun _ => ?_, fun c => absurd ?_ c⟩))))
      · rw [nI_1]
        exact ih (i + 1) (by omega)
      · simp only [Nat.zero_add]
  refine gfI_i ho rfl (gfI_i ho rfl (gfI_i ho2 rfl ⟨fun _ => ⟨n + 1, main n 0 (by omega)⟩, fun c => absurd ?_ c⟩))
  rw [nI_add]
  exact nI_le hb (by omega)
end SNO
end GRP20x14
section GRP20x15
theorem haF_eq (f g : Nat → Int32) : ∀ k i, (∀ j, i ≤ j → j < i + k → f j = g j) → haF f g k i = 1
  | 0, _, _ => rfl
  | k + 1, i, h => by
    show (if f i = g i then haF f g k (i + 1) else 0) = 1
    rw [if_pos (h i (by omega) (by omega))]
    exact haF_eq f g k (i + 1) (fun j h1 h2 => h j (by omega) (by omega))
theorem TwR_spare {G : tG} {L : tL} {S : tS} (h : TwR G L S) (g' : Nat → Int32) : TwR (tg_up G L.2.2.1 (eI 12 g')) L S := by
  obtain ⟨h1, ⟨lf, h2, h3, h4⟩, ⟨g, h5⟩, h6, h7, h8⟩ := h
  refine ⟨h1, ⟨lf, tg_keep h2 (ne_OI h2 h5), tg_keep h3 (ne_of_G h3 h5 (fun e => by cases e)), fun j hj => ?_⟩, ⟨g', tg_s _ _ _⟩, fun r hr => tg_keep (h6 r hr) (h7 r hr), h7, h8⟩
  rcases h4 j hj with c | ⟨o, r', b, n, c1, c2, c3⟩
  · exact Or.inl c
  · exact Or.inr ⟨o, r', b, n, c1, c2, tg_keep c3 (ne_OI c3 h5)⟩
section SNP
variable {K : tK} {G : tG} {L : tL} {S : tS}
theorem c_isEqualToOwn {pk : Int32 → tG → Prop} {o r b n : Nat} (h : TwR G L S) (ho : G o = some (oRL (nI r) (L.2.2.2 r) b n)) (hr : r < 3) (hn : b + n ≤ 12) (hp : ∀ G', fr (clsW L) G G' → TwR G' L S → G' o = some (oRL (nI r) (L.2.2.2 r) b n) → pk 1 G') : w_X1_isEqualToOwn K pk (some L.1) (some o) G := by
  intro q hq
  have ho2 : tg_up G q (.inr (2, [.int 0, .null, .int 0, .int 0])) o = some (oRL (nI r) (L.2.2.2 r) b n) := tg_keep ho (fun c => by rw [c, hq] at ho; cases ho)
  have h0 : TwR (tg_up G q (.inr (2, [.int 0, .null, .int 0, .int 0]))) L S := TwR_fresh h hq (fun a ha => tg_n _ _ ha)
  obtain ⟨⟨lf, k2, k3, k4⟩, -⟩ := TwR_C h0
  refine gfR_i _ k2 rfl (gfI_i ho2 rfl ⟨⟨q, rfl⟩, c_initRL (tg_s _ _ _) (fun G1 q1 q2 => ?_)⟩)
  have q3 : ∀ a, a ≠ q → G1 a = G a := fun a ha => by rw [q2 a ha, tg_n _ _ ha]
  have h1 := TwR_fresh h hq q3
  have q1 : G1 q = some (oRL (-1) L.2.2.1 0 n) := q1
  have hoq : o ≠ q := fun c => by rw [c, hq] at ho; cases ho
  have o1 : G1 o = some (oRL (nI r) (L.2.2.2 r) b n) := by rw [q3 o hoq]; exact ho
  have main : ∀ k i G2 g, i + k = n → fr (clsW L) G G2 → TwR G2 L S → G2 o = some (oRL (nI r) (L.2.2.2 r) b n) → G2 q = some (oRL (-1) L.2.2.1 0 n) → G2 L.2.2.1 = some (eI 12 g) → (∀ j, j < i → g j = S.2.1 r (b + j)) → w_X1_isEqualToOwn_20 K pk (k + 1) (some o) (some q) (nI i) G2 := by
    intro k
    induction k with
    | zero =>
      intro i G2 g hi hf h2 o2 p2 s2 hg
      show w_X1_isEqualToOwn_20_b K pk (w_X1_isEqualToOwn_20 K pk 0) (some o) (some q) (nI i) G2
      have e : i = n := by omega
      subst e
      refine gfI_i o2 rfl ⟨fun _ => ?_, fun c => absurd (nI_le (by omega) (by omega)) c⟩
      have hv := h2.2.2.2.1 r hr
      refine c_areSame o2 hv (by decide) p2 s2 (by decide) (by omega) (by omega) ?_
      rw [if_pos rfl, haF_eq _ _ _ _ (fun j _ hj => by simp only [Nat.zero_add]; exact (hg j (by omega)).symm)]
      refine ⟨fun c => absurd c (by decide), fun _ => ?_⟩
      refine c_areSame p2 s2 (by decide) o2 hv (by decide) (by omega) (by omega) ?_
      rw [if_pos rfl, haF_eq _ _ _ _ (fun j _ hj => by simp only [Nat.zero_add]; exact hg j (by omega))]
      exact ⟨fun c => absurd c (by decide), fun _ => ⟨by decide, hp G2 hf h2 o2⟩⟩
    | succ k ih =>
      intro i G2 g hi hf h2 o2 p2 s2 hg
      show w_X1_isEqualToOwn_20_b K pk (w_X1_isEqualToOwn_20 K pk (k + 1)) (some o) (some q) (nI i) G2
      refine gfI_i o2 rfl ⟨fun c => absurd c (nI_ge (by omega) (by omega)), fun _ => rcv_i o2 (l_read o2 (h2.2.2.2.1 r hr) rfl (by omega) (by omega) (rcv_i p2 (l_write p2 s2 rfl (by omega) (by omega) ?_)))⟩
      rw [nI_1]
      refine ih (i + 1) _ _ (by omega) (fr_tr hf (fr_up _ (Or.inr (Or.inr (Or.inl rfl))))) (TwR_spare h2 _) (tg_keep o2 (ne_OI o2 s2)) (tg_keep p2 (ne_OI p2 s2)) (tg_s _ _ _) (fun j hj => ?_)
      simp only [upd, Nat.zero_add]
      by_cases c : j = i
      · rw [if_pos c, c]
      · rw [if_neg c]; exact hg j (by omega)
  obtain ⟨g, hg⟩ := h1.2.2.1
  exact ⟨n + 1, main n 0 G1 g (by omega) (fr_fresh hq q3 _) h1 o1 q1 hg (fun j hj => absurd hj (by omega))⟩
end SNP
end GRP20x15
section GRP20x16
theorem fpF_at (f : Nat → Int32) (x : Int32) : ∀ k i j, i ≤ j → j < i + k → f j = x → ∃ p, i ≤ p ∧ p ≤ j ∧ fpF f x k i = nI p ∧ f p = x
  | 0, i, j, h1, h2, _ => absurd h2 (by omega)
  | k + 1, i, j, h1, h2, h => by
    by_cases c : f i = x
    · exact ⟨i, by omega, h1, by show (if f i = x then nI i else _) = _; rw [if_pos c], c⟩
    · have hne : j ≠ i := fun e => c (e ▸ h)
      obtain ⟨p, g1, g2, g3, g4⟩ := fpF_at f x k (i + 1) j (by omega) (by omega) h
      exact ⟨p, by omega, g2, by show (if f i = x then nI i else _) = _; rw [if_neg c]; exact g3, g4⟩
theorem lpF_at (f : Nat → Int32) (x : Int32) : ∀ k j, j < k → f j = x → ∃ p, j ≤ p ∧ p < k ∧ lpF f x k = nI p ∧ f p = x
  | 0, j, h2, _ => absurd h2 (by omega)
  | k + 1, j, h2, h => by
    by_cases c : f k = x
    · exact ⟨k, by omega, by omega, by show (if f k = x then nI k else _) = _; rw [if_pos c], c⟩
    · have hne : j ≠ k := fun e => c (e ▸ h)
      obtain ⟨p, g1, g2, g3, g4⟩ := lpF_at f x k j (by omega) h
      exact ⟨p, g1, by omega, by show (if f k = x then nI k else _) = _; rw [if_neg c]; exact g3, g4⟩
section SNQ
variable {K : tK} {G : tG} {o v b n N : Nat} {r : Int32} {f : Nat → Int32}
theorem c_firstsLasts {pk : Int32 → tG → Prop} (ho : G o = some (oRL r v b n)) (hv : G v = some (eI N f)) (hN : N < 2 ^ 31) (hb : b + n ≤ N) (h : pk 1 G) : w_X1_areFirstsAndLasts K pk (some o) G := by
  have main : ∀ k i, i + k = n → w_X1_areFirstsAndLasts_2 K pk (k + 1) (some o) (nI i) G := by
    intro k
    induction k with
    | zero =>
      intro i hi
      show w_X1_areFirstsAndLasts_2_b K pk (w_X1_areFirstsAndLasts_2 K pk 0) (some o) (nI i) G
      exact gfI_i ho rfl ⟨fun _ => ⟨by decide, h⟩, fun c => absurd (nI_le (by omega) (by omega)) c⟩
    | succ k ih =>
      intro i hi
      show w_X1_areFirstsAndLasts_2_b K pk (w_X1_areFirstsAndLasts_2 K pk (k + 1)) (some o) (nI i) G
      refine gfI_i ho rfl ⟨fun c => absurd c (nI_ge (by omega) (by omega)), fun _ => rcv_i ho (l_read ho hv rfl (by omega) hN (c_firstPlace ho hv hN hb (c_lastPlace ho hv hN hb ?_)))⟩
      obtain ⟨p, p1, p2, p3, p4⟩ := fpF_at (fun i => f (b + i)) (f (b + i)) n 0 i (by omega) (by omega) rfl
      obtain ⟨q, q1, q2, q3, q4⟩ := lpF_at (fun i => f (b + i)) (f (b + i)) n i (by omega) rfl
      rw [p3, q3]
      refine rcv_i ho (l_isPlace ho (by omega) (by omega) ?_)
      rw [if_pos (by omega)]
      refine ⟨fun c => absurd c (by decide), fun _ => ⟨fun c => absurd c (nI_nlt (by omega) (by omega)), fun _ => rcv_i ho (l_read ho hv rfl (by omega) hN ⟨fun c => absurd p4 c, fun _ => ?_⟩)⟩⟩
      refine rcv_i ho (l_isPlace ho (by omega) (by omega) ?_)
      rw [if_pos (by omega)]
      refine ⟨fun c => absurd c (by decide), fun _ => ⟨fun c => absurd c (nI_nlt (by omega) (by omega)), fun _ => rcv_i ho (l_read ho hv rfl (by omega) hN ⟨fun _ => ?_, fun c => absurd q4 c⟩)⟩⟩
      rw [nI_1]
      exact ih (i + 1) (by omega)
  exact ⟨n + 1, main n 0 (by omega)⟩
end SNQ
section CLQ
variable {K : tK} {G : tG} {L : tL} {S : tS}
theorem c_isSoundList {pk : Int32 → tG → Prop} {o r b n j : Nat} (h : TwR G L S) (hj : j < 7) (hs : S.1 j = some (r, b, n)) (ho : G o = some (oRL (nI r) (L.2.2.2 r) b n)) (hr : r < 3) (hn : b + n ≤ 12) (hp : ∀ G', fr (clsW L) G G' → TwR G' L S → pk 1 G') : w_X1_isSoundList K pk (some L.1) (some o) G := by
  obtain ⟨-, n0, e0, le0⟩ := h.1.2.1 j r b n hj hs
  refine gfI_i ho rfl (c_rcv h (c_listOrNull h (fun c => ?_) (fun o2 r2 b2 n2 d1 d2 d3 d4 => ?_)))
  · rw [S_at_nI S (by omega), e0] at c; cases c
  · rw [S_at_nI S (by omega), e0] at d1
    cases d1
    refine ⟨fun c => (by cases c), fun _ => c_isInRow ho d2 (h.2.2.2.1 r hr) (by decide) le0 (by omega) ⟨fun c => absurd c (by decide), fun _ => ?_⟩⟩
    refine c_rcv h (c_isEqualToOwn h ho hr hn (fun G1 f1 h1 o1 => ⟨fun c => absurd c (by decide), fun _ => ?_⟩))
    have hv := h1.2.2.2.1 r hr
    refine c_sameBoth o1 hv (by decide) hn ⟨fun c => absurd c (by decide), fun _ => ?_⟩
    exact c_firstsLasts o1 hv (by decide) hn ⟨fun c => absurd c (by decide), fun _ => ⟨by decide, hp G1 f1 h1⟩⟩
theorem c_isSound {pk : Int32 → tG → Prop} (h : TwR G L S) (hp : ∀ G', fr (clsW L) G G' → TwR G' L S → pk 1 G') : w_X1_isSound K pk (some L.1) G := by
  have main : ∀ k i nc ns G1, i + k = 7 → nc ≤ i → ns ≤ 4 * i → fr (clsW L) G G1 → TwR G1 L S → w_X1_isSound_2 K pk (k + 1) nc ns (some L.1) (nI i) G1 := by
    intro k
    induction k with
    | zero =>
      intro i nc ns G1 hi hc hs hf h1
      show w_X1_isSound_2_b K pk (w_X1_isSound_2 K pk 0) nc ns (some L.1) (nI i) G1
      have e : i = 7 := by omega
      subst e
      exact ⟨fun _ => ⟨by decide, hp G1 hf h1⟩, fun c => absurd (by decide) c⟩
    | succ k ih =>
      intro i nc ns G1 hi hc hs hf h1
      show w_X1_isSound_2_b K pk (w_X1_isSound_2 K pk (k + 1)) nc ns (some L.1) (nI i) G1
      refine ⟨fun c => absurd (show nI 7 ≤ nI i from c) (nI_ge (by omega) (by omega)), fun _ => c_rcv h1 (c_listOrNull h1 (fun c => ⟨fun _ => ?_, fun z => absurd rfl z⟩) (fun o r b n d1 d2 d3 d4 => ⟨fun z => (by cases z), fun _ => ⟨⟨by omega, by omega⟩, c_rcv h1 (c_isSoundList h1 (j := i) (by omega) (by rw [S_at_nI S (by omega)] at d1; exact d1) d2 d3 d4 (fun G2 f2 h2 => ⟨fun _ => ?_, fun z => absurd z (by decide)⟩))⟩⟩))⟩
      · show w_X1_isSound_2 K pk (k + 1) nc ns (some L.1) (nI i + 1) G1
        rw [nI_1]
        exact ih (i + 1) nc ns G1 (by omega) (by omega) (by omega) hf h1
      · show w_X1_isSound_2 K pk (k + 1) (nc + 1) (ns + 4) (some L.1) (nI i + 1) G2
        rw [nI_1]
        exact ih (i + 1) (nc + 1) (ns + 4) G2 (by omega) (by omega) (by omega) (fr_tr hf f2) h2
  exact ⟨8, main 7 0 0 0 G (by omega) (by omega) (by omega) (fr_rf _ _) h⟩
end CLQ
end GRP20x16
section GRP20x17
/-! digest: pieces -/
def mxF (c v : Int64) : Int64 := c * 31 + v
def mrF (f : Nat → Int32) (c : Int64) : Nat → Int64
  | 0 => c
  | k + 1 => mxF (mrF f c k) (f k).toInt64
section CLR
variable {K : tK} {G : tG} {L : tL} {S : tS} {postX : String → tG → Prop}
theorem c_mixedWithRow {pk : Int64 → tG → Prop} {i : Nat} {c : Int64} (h : TwR G L S) (hi : i < 3) (hp : ∀ n, S.1 i = some (i, 0, n) → pk (mrF (S.2.1 i) (mxF c (nI n).toInt64) n) G) : w_X1_mixedWithRow K pk postX (some L.1) c (nI i) G := by
  refine c_rcv h (c_twinAt h (fun z => ?_) (fun o r n e1 c1 c2 c3 c4 => ?_))
  · exfalso
    unfold S_tw at z
    rw [nI_toInt (by omega), if_pos (by omega)] at z
    obtain ⟨n, e, -⟩ := h.1.1 i hi
    have z : S.1 i = none := z
    rw [z] at e; cases e
  · have e : i = r := (nI_eq (by omega) (by omega)).mp e1
    subst e
    have hp := hp n c1
    have main : ∀ k j, j + k = n → w_X1_mixedWithRow_22 K pk postX (k + 1) (some o) (mrF (S.2.1 i) (mxF c (nI n).toInt64) j) (nI j) G := by
      intro k
      induction k with
      | zero =>
        intro j hj
        show w_X1_mixedWithRow_22_b K pk postX (w_X1_mixedWithRow_22 K pk postX 0) (some o) (mrF (S.2.1 i) (mxF c (nI n).toInt64) j) (nI j) G
        have e : j = n := by omega
        subst e
        exact gfI_i c2 rfl ⟨fun _ => hp, fun z => absurd (nI_le (by omega) (by omega)) z⟩
      | succ k ih =>
        intro j hj
        show w_X1_mixedWithRow_22_b K pk postX (w_X1_mixedWithRow_22 K pk postX (k + 1)) (some o) (mrF (S.2.1 i) (mxF c (nI n).toInt64) j) (nI j) G
        refine gfI_i c2 rfl ⟨fun z => absurd z (nI_ge (by omega) (by omega)), fun _ => rcv_i c2 (l_read c2 (h.2.2.2.1 i hi) rfl (by omega) (by omega) ?_)⟩
        show w_X1_mixedWithRow_22 K pk postX (k + 1) (some o) (mxF (mrF (S.2.1 i) (mxF c (nI n).toInt64) j) (S.2.1 i (0 + j)).toInt64) (nI j + 1) G
        rw [nI_1, Nat.zero_add]
        exact ih (j + 1) (by omega)
    exact gfI_i c2 rfl ⟨n + 1, main n 0 (by omega)⟩
end CLR
end GRP20x17
section GRP20x18
def ro1 (q : Option (Nat × Nat × Nat)) : Int32 := match q with | none => -1 | some (r, _, _) => nI r
def be1 (q : Option (Nat × Nat × Nat)) : Int32 := match q with | none => -1 | some (_, b, _) => nI b
def mlF (S : tS) (c : Int64) (j : Nat) : Int64 := match S.1 j with
  | none => mxF (mxF c (-1 : Int32).toInt64) (-1 : Int32).toInt64
  | some (r, b, n) => mxF (mxF (mxF (mxF (mxF c (nI r).toInt64) (nI b).toInt64) (nI n).toInt64) (coF (S_v S r b) n).toInt64) (suF (S_v S r b) n).toInt64
section CLS
variable {K : tK} {G : tG} {L : tL} {S : tS} {postX : String → tG → Prop}
theorem tRes_0 {post : Int32 → tG → Prop} {x : Int32} (h : ∀ G', fr (clsW L) G G' → TwR G' L S → post x G') : tRes L G post postX (0, x, S) := fun G' f h' => ⟨fun _ => h G' f h', fun z => absurd z (by decide : ¬ (0 : Nat) = 1), fun z => absurd z (by decide : ¬ (0 : Nat) = 2)⟩
theorem c_mixedWithList {pk : Int64 → tG → Prop} {j : Nat} {c : Int64} (h : TwR G L S) (hj : j < 7) (hp : ∀ G', fr (clsW L) G G' → TwR G' L S → pk (mlF S c j) G') : w_X1_mixedWithList K pk postX (some L.1) c (nI j) G := by
  have hin : inR (nI j) 0 6 := ⟨nI_pos (by omega), show nI j ≤ nI 6 from nI_le (by omega) (by omega)⟩
  unfold mlF at hp
  cases hq : S.1 j with
  | none =>
    rw [hq] at hp
    have hat : S_at S (nI j) = none := by rw [S_at_nI S hj]; exact hq
    refine c_rcv h (c_rowOf h ?_)
    rw [if_pos hin, hat]
    refine tRes_0 (fun G1 f1 h1 => ?_)
    refine c_rcv h1 (c_begin h1 ?_)
    rw [if_pos hin, hat]
    refine tRes_0 (fun G2 f2 h2 => ?_)
    refine c_rcv h2 (c_listOrNull h2 (fun _ => ⟨fun _ => hp G2 (fr_tr f1 f2) h2, fun z => absurd rfl z⟩) (fun o r b n d1 _ _ _ => ?_))
    rw [hat] at d1; cases d1
  | some q =>
    obtain ⟨r, b, n⟩ := q
    rw [hq] at hp
    have hat : S_at S (nI j) = some (r, b, n) := by rw [S_at_nI S hj]; exact hq
    refine c_rcv h (c_rowOf h ?_)
    rw [if_pos hin, hat]
    refine tRes_0 (fun G1 f1 h1 => ?_)
    refine c_rcv h1 (c_begin h1 ?_)
    rw [if_pos hin, hat]
    refine tRes_0 (fun G2 f2 h2 => ?_)
    refine c_rcv h2 (c_listOrNull h2 (fun z => ?_) (fun o r' b' n' d1 _ _ _ => ⟨fun z => (by cases z), fun _ => ?_⟩))
    · rw [hat] at z; cases z
    · refine c_rcv h2 (c_length h2 ?_)
      rw [hat]
      refine tRes_0 (fun G3 f3 h3 => ?_)
      refine c_rcv h3 (c_code h3 ?_)
      rw [hat]
      refine tRes_0 (fun G4 f4 h4 => ?_)
      refine c_rcv h4 (c_sum h4 ?_)
      rw [hat]
      exact tRes_0 (fun G5 f5 h5 => hp G5 (fr_tr f1 (fr_tr f2 (fr_tr f3 (fr_tr f4 f5)))) h5)
/-- the digest -/
def hd1 (S : tS) (c : Int64) : Nat → Int64
  | 0 => c
  | k + 1 => mxF (hd1 S c k) (hoF S (nI k)).toInt64
def hd2 (S : tS) (c : Int64) : Nat → Int64
  | 0 => c
  | k + 1 => mrF (S.2.1 k) (mxF (hd2 S c k) (nI (lnF (S.1 k))).toInt64) (lnF (S.1 k))
def hd3 (S : tS) (c : Int64) : Nat → Int64
  | 0 => c
  | k + 1 => mlF S (hd3 S c k) k
def diF (S : tS) : Int64 := mxF (hd3 S (hd2 S (hd1 S 7778 4) 3) 7) 1
theorem c_digest {pk : Int64 → tG → Prop} (h : TwR G L S) (hp : ∀ G', fr (clsW L) G G' → TwR G' L S → pk (diF S) G') : w_X1_digest K pk postX (some L.1) G := by
  have m3 : ∀ k i nc ns G1, i + k = 7 → nc ≤ 19 + 5 * i → ns ≤ 114 + 30 * i → fr (clsW L) G G1 → TwR G1 L S → w_X1_digest_50 K pk postX (k + 1) nc ns (some L.1) (hd3 S (hd2 S (hd1 S 7778 4) 3) i) (nI i) G1 := by
    intro k
    induction k with
    | zero =>
      intro i nc ns G1 hi h1 h2 hf h3
      show w_X1_digest_50_b K pk postX (w_X1_digest_50 K pk postX 0) nc ns (some L.1) (hd3 S (hd2 S (hd1 S 7778 4) 3) i) (nI i) G1
      have e : i = 7 := by omega
      subst e
      exact ⟨fun _ => ⟨⟨by omega, by omega⟩, c_rcv h3 (c_isSound h3 (fun G2 f2 h4 => ⟨fun z => absurd z (by decide), fun _ => hp G2 (fr_tr hf f2) h4⟩))⟩, fun c => absurd (by decide) c⟩
    | succ k ih =>
      intro i nc ns G1 hi h1 h2 hf h3
      show w_X1_digest_50_b K pk postX (w_X1_digest_50 K pk postX (k + 1)) nc ns (some L.1) (hd3 S (hd2 S (hd1 S 7778 4) 3) i) (nI i) G1
      refine ⟨fun c => absurd (show nI 7 ≤ nI i from c) (nI_ge (by omega) (by omega)), fun _ => ⟨⟨by omega, by omega⟩, c_rcv h3 (c_mixedWithList h3 (by omega) (fun G2 f2 h4 => ?_))⟩⟩
      rw [nI_1]
      exact ih (i + 1) (nc + 5) (ns + 30) G2 (by omega) (by omega) (by omega) (fr_tr hf f2) h4
  have m2 : ∀ k i nc ns G1, i + k = 3 → nc ≤ 16 + i → ns ≤ 96 + 6 * i → fr (clsW L) G G1 → TwR G1 L S → w_X1_digest_30 K pk postX (k + 1) nc ns (some L.1) (hd2 S (hd1 S 7778 4) i) (nI i) G1 := by
    intro k
    induction k with
    | zero =>
      intro i nc ns G1 hi h1 h2 hf h3
      show w_X1_digest_30_b K pk postX (w_X1_digest_30 K pk postX 0) nc ns (some L.1) (hd2 S (hd1 S 7778 4) i) (nI i) G1
      have e : i = 3 := by omega
      subst e
      exact ⟨fun _ => ⟨8, m3 7 0 nc ns G1 (by omega) (by omega) (by omega) hf h3⟩, fun c => absurd (by decide) c⟩
    | succ k ih =>
      intro i nc ns G1 hi h1 h2 hf h3
      show w_X1_digest_30_b K pk postX (w_X1_digest_30 K pk postX (k + 1)) nc ns (some L.1) (hd2 S (hd1 S 7778 4) i) (nI i) G1
      refine ⟨fun c => absurd (show nI 3 ≤ nI i from c) (nI_ge (by omega) (by omega)), fun _ => ⟨⟨by omega, by omega⟩, c_rcv h3 (c_mixedWithRow h3 (by omega) (fun n en => ?_))⟩⟩
      rw [nI_1]
      have := ih (i + 1) (nc + 1) (ns + 6) G1 (by omega) (by omega) (by omega) hf h3
      simp only [hd2, en, lnF] at this
      exact this
  have m1 : ∀ k i nc ns G1, i + k = 4 → nc ≤ 4 * i → ns ≤ 24 * i → fr (clsW L) G G1 → TwR G1 L S → w_X1_digest_6 K pk postX (k + 1) nc ns (some L.1) (hd1 S 7778 i) (nI i) G1 := by
    intro k
    induction k with
    | zero =>
      intro i nc ns G1 hi h1 h2 hf h3
      show w_X1_digest_6_b K pk postX (w_X1_digest_6 K pk postX 0) nc ns (some L.1) (hd1 S 7778 i) (nI i) G1
      have e : i = 4 := by omega
      subst e
      exact ⟨fun _ => ⟨4, m2 3 0 nc ns G1 (by omega) (by omega) (by omega) hf h3⟩, fun c => absurd (by decide) c⟩
    | succ k ih =>
      intro i nc ns G1 hi h1 h2 hf h3
      show w_X1_digest_6_b K pk postX (w_X1_digest_6 K pk postX (k + 1)) nc ns (some L.1) (hd1 S 7778 i) (nI i) G1
      refine ⟨fun c => absurd (show nI 3 < nI i from c) (nI_nlt (by omega) (by omega)), fun _ => ⟨⟨by omega, by omega⟩, c_rcv h3 (c_house h3 ?_)⟩⟩
      rw [if_pos (show inR (nI i) 0 3 from ⟨nI_pos (by omega), show nI i ≤ nI 3 from nI_le (by omega) (by omega)⟩)]
      refine tRes_0 (fun G2 f2 h4 => ?_)
      show w_X1_digest_6 K pk postX (k + 1) (nc + 4) (ns + 24) (some L.1) (mxF (hd1 S 7778 i) (hoF S (nI i)).toInt64) (nI i + 1) G2
      rw [nI_1]
      exact ih (i + 1) (nc + 4) (ns + 24) G2 (by omega) (by omega) (by omega) (fr_tr hf f2) h4
  exact ⟨5, m1 4 0 0 0 G (by omega) (by omega) (by omega) (fr_rf _ _) h⟩
end CLS
end GRP20x18
