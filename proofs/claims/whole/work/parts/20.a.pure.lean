/-! PURE ROWS: how the transformers' questions are answered -/
theorem gfI_i {G : tG} {a ci k : Nat} {fs : List Value} {x : Int32} {P : Int32 → Prop} (hG : G a = some (.inr (ci, fs))) (hx : fs[k]? = some (.int x)) (h : P x) : gfI G (some a) ci k P := ⟨a, fs, x, rfl, hG, hx, h⟩
theorem gfL_i {G : tG} {a ci k : Nat} {fs : List Value} {x : Int64} {P : Int64 → Prop} (hG : G a = some (.inr (ci, fs))) (hx : fs[k]? = some (.long x)) (h : P x) : gfL G (some a) ci k P := ⟨a, fs, x, rfl, hG, hx, h⟩
theorem gfR_i {G : tG} {a ci k : Nat} {fs : List Value} (v : Nat) {P : Option Nat → Prop} (hG : G a = some (.inr (ci, fs))) (hx : fs[k]? = some (.ref v)) (h : P (some v)) : gfR G (some a) ci k P := ⟨a, fs, some v, rfl, hG, hx, h⟩
theorem pfV_i {G : tG} {a ci k : Nat} {fs : List Value} {v : Value} {P : tG → Prop} (hG : G a = some (.inr (ci, fs))) (hk : k < fs.length) (h : P (tg_up G a (.inr (ci, fs.set k v)))) : pfV G (some a) ci k v P := ⟨a, fs, rfl, hG, hk, h⟩
theorem alI_i {G : tG} {a n j : Nat} {f : Nat → Int32} {ty : FieldType} {i : Int32} {P : Int32 → Prop} (hG : G a = some (.inl (ty, n, .inl f))) (hi : i = nI j) (hj : j < n) (hn : n < 2 ^ 31) (h : P (f j)) : alI G (some a) i ty P := ⟨a, n, f, j, rfl, hG, by rw [hi]; exact nI_toInt (by omega), hj, h⟩
theorem alR_i {G : tG} {a n j : Nat} {f : Nat → Option Nat} {ty : FieldType} {i : Int32} {P : Option Nat → Prop} (hG : G a = some (.inl (ty, n, .inr (.inr (.inr (.inr f)))))) (hi : i = nI j) (hj : j < n) (hn : n < 2 ^ 31) (h : P (f j)) : alR G (some a) i ty P := ⟨a, n, f, j, rfl, hG, by rw [hi]; exact nI_toInt (by omega), hj, h⟩
theorem asI_i {G : tG} {a n j : Nat} {f : Nat → Int32} {ty : FieldType} {i x : Int32} {P : tG → Prop} (hG : G a = some (.inl (ty, n, .inl f))) (hi : i = nI j) (hj : j < n) (hn : n < 2 ^ 31) (h : P (tg_up G a (.inl (ty, n, .inl (upd f j x))))) : asI G (some a) i ty x P := ⟨a, n, f, j, rfl, hG, by rw [hi]; exact nI_toInt (by omega), hj, h⟩
theorem lenA_i {G : tG} {a : Nat} {ty : FieldType} {x : vp_A} {P : Int32 → Prop} (hG : G a = some (.inl (ty, x))) (h : P (nI x.1)) : lenA G (some a) P := ⟨a, ty, x, rfl, hG, h⟩
theorem rcv_i {G : tG} {a ci : Nat} {fs : List Value} {P : Prop} (hG : G a = some (.inr (ci, fs))) (h : P) : rcv G (some a) ci P := ⟨a, fs, rfl, hG, h⟩
theorem ifT {c : Prop} {A B : Prop} (hc : c) (h : A) : (c → A) ∧ (¬ c → B) := ⟨fun _ => h, fun q => absurd hc q⟩
theorem ifF {c : Prop} {A B : Prop} (hc : ¬ c) (h : B) : (c → A) ∧ (¬ c → B) := ⟨fun q => absurd q hc, fun _ => h⟩
theorem ifT2 {c : Prop} {A B : Prop} (hc : c) (h : B) : (¬ c → A) ∧ (c → B) := ⟨fun q => absurd hc q, fun _ => h⟩
theorem ifF2 {c : Prop} {A B : Prop} (hc : ¬ c) (h : A) : (¬ c → A) ∧ (c → B) := ⟨fun _ => h, fun q => absurd q hc⟩
/-- a list of the class: an object, its row's places -/
abbrev oRL (r : Int32) (v : Nat) (b n : Nat) : tE := .inr (2, [.int r, .ref v, .int (nI b), .int (nI n)])
abbrev eI (n : Nat) (f : Nat → Int32) : tE := .inl (.int, n, .inl f)
theorem tg_keep {G : tG} {a b : Nat} {e e2 : tE} (h : G b = some e2) (hne : b ≠ a) : tg_up G a e b = some e2 := by rw [tg_n _ _ hne]; exact h
theorem ne_of_G {G : tG} {a b : Nat} {e1 e2 : tE} (h1 : G a = some e1) (h2 : G b = some e2) (h : e1 ≠ e2) : a ≠ b := fun q => h (Option.some.inj (h1.symm.trans (q ▸ h2)))
theorem ne_OI {G : tG} {a b : Nat} {o : Nat × List Value} {x : FieldType × vp_A} (h1 : G a = some (.inr o)) (h2 : G b = some (.inl x)) : a ≠ b := ne_of_G h1 h2 (fun h => by cases h)
/-! RowList -/
section RLL
variable {K : tK} {G : tG} {o v : Nat} {r : Int32} {b n N : Nat} {f : Nat → Int32}
theorem l_read {post : Int32 → tG → Prop} (ho : G o = some (oRL r v b n)) (hv : G v = some (eI N f)) {place : Int32} {j : Nat} (hp : place = nI j) (hj : b + j < N) (hN : N < 2 ^ 31) (h : post (f (b + j)) G) : w_X0_read K post (some o) place G := by
  subst hp
  refine gfI_i ho rfl ?_
  rw [nI_add]
  refine ifF (nI_pos (by omega)) ?_
  refine gfR_i v ho rfl (lenA_i hv ?_)
  refine ifF (nI_ge hj hN) ?_
  exact gfR_i v ho rfl (alI_i hv rfl hj hN h)
theorem l_write {post : Int32 → tG → Prop} (ho : G o = some (oRL r v b n)) (hv : G v = some (eI N f)) {place x : Int32} {j : Nat} (hp : place = nI j) (hj : b + j < N) (hN : N < 2 ^ 31) (h : post (f (b + j)) (tg_up G v (eI N (upd f (b + j) x)))) : w_X0_write K post (some o) place x G := by
  refine rcv_i ho (l_read ho hv hp hj hN ?_)
  subst hp
  refine gfI_i ho rfl ?_
  rw [nI_add]
  refine ifF (nI_pos (by omega)) ?_
  refine gfR_i v ho rfl (lenA_i hv ?_)
  refine ifF (nI_ge hj hN) ?_
  exact gfR_i v ho rfl (asI_i hv rfl hj hN h)
theorem l_isPlace {post : Int32 → tG → Prop} (ho : G o = some (oRL r v b n)) {j : Nat} (hj : j < 2 ^ 31) (hn : n < 2 ^ 31) (h : post (if j < n then 1 else 0) G) : w_X0_isPlace K post (some o) (nI j) G := by
  refine ifF (nI_pos hj) ?_
  refine gfI_i ho rfl ?_
  by_cases c : j < n
  · rw [if_pos c] at h
    refine ifF (nI_ge c hn) ⟨by decide, h⟩
  · rw [if_neg c] at h
    exact ifT ((nI_leI hn hj).mpr (by omega)) ⟨by decide, h⟩
theorem l_isPlaceN {post : Int32 → tG → Prop} {place : Int32} (hp : place < 0) (h : post 0 G) : w_X0_isPlace K post (some o) place G := by
  exact ifT hp ⟨by decide, h⟩
theorem l_exchange {post : tG → Prop} (ho : G o = some (oRL r v b n)) (hv : G v = some (eI N f)) {p q : Int32} {i j : Nat} (hp : p = nI i) (hq : q = nI j) (hi : b + i < N) (hj : b + j < N) (hN : N < 2 ^ 31) (h : post (tg_up (tg_up G v (eI N (upd f (b + i) (f (b + j))))) v (eI N (upd (upd f (b + i) (f (b + j))) (b + j) (f (b + i)))))) : w_X0_exchange K post (some o) p q G := by
  have hne : o ≠ v := ne_OI ho hv
  refine rcv_i ho (l_read ho hv hq hj hN ?_)
  refine rcv_i ho (l_write ho hv hp hi hN ?_)
  exact rcv_i (tg_keep ho hne) (l_write (tg_keep ho hne) (tg_s _ _ _) hq hj hN h)
end RLL
/-- what a step leaves alone: all that was there, but the cells of P -/
def fr (P : Nat → Prop) (G G' : tG) : Prop := ∀ (q : Nat) (e : tE), G q = some e → ¬ P q → G' q = some e
theorem fr_rf (P : Nat → Prop) (G : tG) : fr P G G := fun _ _ h _ => h
theorem fr_tr {P : Nat → Prop} {G1 G2 G3 : tG} (h : fr P G1 G2) (h2 : fr P G2 G3) : fr P G1 G3 := fun q e hq hp => h2 q e (h q e hq hp) hp
theorem fr_up {P : Nat → Prop} {G : tG} {a : Nat} (e : tE) (h : P a) : fr P G (tg_up G a e) := fun q e' hq hp => by
  rw [tg_n]
  · exact hq
  · intro he; exact hp (he ▸ h)
theorem fr_new {P : Nat → Prop} {G : tG} {a : Nat} (e : tE) (h : G a = none) : fr P G (tg_up G a e) := fun q e' hq _ => by
  rw [tg_n]
  · exact hq
  · intro he; rw [he, h] at hq; cases hq
/-! the rows as the document has them: the lists (row, begin, length), the values by row and place, knocks, refusals -/
abbrev tS : Type := (Nat → Option (Nat × Nat × Nat)) × (Nat → Nat → Int32) × Int32 × Int32
abbrev okV (x : Int32) : Prop := x = -1000 ∨ (¬ x < -99 ∧ x ≤ 99)
def S_ok (S : tS) : Prop := (∀ r, r < 3 → ∃ n, S.1 r = some (r, 0, n) ∧ n ≤ 12) ∧ (∀ j r b n, j < 7 → S.1 j = some (r, b, n) → r < 3 ∧ ∃ n0, S.1 r = some (r, 0, n0) ∧ b + n ≤ n0) ∧ (∀ r i, r < 3 → i < 12 → okV (S.2.1 r i))
theorem S_12 {S : tS} (h : S_ok S) {j r b n : Nat} (hj : j < 7) (hs : S.1 j = some (r, b, n)) : r < 3 ∧ b + n ≤ 12 := by
  obtain ⟨hr, n0, h1, h2⟩ := h.2.1 j r b n hj hs
  obtain ⟨n1, h3, h4⟩ := h.1 r hr
  rw [h1] at h3
  cases h3
  exact ⟨hr, by omega⟩
/-- one value written -/
def S_put (S : tS) (r k : Nat) (x : Int32) : tS := (S.1, (fun r' => if r' = r then upd (S.2.1 r) k x else S.2.1 r'), S.2.2)
theorem S_put_ok {S : tS} (h : S_ok S) (r k : Nat) {x : Int32} (hx : okV x) : S_ok (S_put S r k x) := by
  refine ⟨h.1, h.2.1, fun r' i hr hi => ?_⟩
  show okV ((if r' = r then upd (S.2.1 r) k x else S.2.1 r') i)
  by_cases c : r' = r
  · rw [if_pos c]
    unfold upd
    by_cases c2 : i = k
    · simp [c2, hx]
    · simp [c2]; exact h.2.2 r i (c ▸ hr) hi
  · rw [if_neg c]; exact h.2.2 r' i hr hi
/-! the class's cells: the object, its lists' array, its spare array, the rows' arrays -/
abbrev tL : Type := Nat × Nat × Nat × (Nat → Nat)
abbrev oTw (la sp : Nat) (k rf : Int32) : tE := .inr (3, [.ref la, .ref sp, .int k, .int rf])
abbrev eL (lf : Nat → Option Nat) : tE := .inl (.object "Twinrow$RowList", 7, .inr (.inr (.inr (.inr lf))))
def lfR (G : tG) (va : Nat → Nat) (lf : Nat → Option Nat) (S : tS) : Prop := ∀ j, j < 7 → (lf j = none ∧ S.1 j = none) ∨ ∃ o r b n, lf j = some o ∧ S.1 j = some (r, b, n) ∧ G o = some (oRL (nI r) (va r) b n)
def TwR (G : tG) (L : tL) (S : tS) : Prop := S_ok S ∧ (∃ lf, G L.1 = some (oTw L.2.1 L.2.2.1 S.2.2.1 S.2.2.2) ∧ G L.2.1 = some (eL lf) ∧ lfR G L.2.2.2 lf S) ∧ (∃ g, G L.2.2.1 = some (eI 12 g)) ∧ (∀ r, r < 3 → G (L.2.2.2 r) = some (eI 12 (S.2.1 r))) ∧ (∀ r, r < 3 → L.2.2.2 r ≠ L.2.2.1) ∧ (∀ r r', r < 3 → r' < 3 → L.2.2.2 r = L.2.2.2 r' → r = r')
def clsW (L : tL) (q : Nat) : Prop := q = L.1 ∨ q = L.2.1 ∨ q = L.2.2.1 ∨ q = L.2.2.2 0 ∨ q = L.2.2.2 1 ∨ q = L.2.2.2 2
theorem clsW_va {L : tL} {r : Nat} (h : r < 3) : clsW L (L.2.2.2 r) := by
  rcases (show r = 0 ∨ r = 1 ∨ r = 2 by omega) with rfl | rfl | rfl
  · exact Or.inr (Or.inr (Or.inr (Or.inl rfl)))
  · exact Or.inr (Or.inr (Or.inr (Or.inr (Or.inl rfl))))
  · exact Or.inr (Or.inr (Or.inr (Or.inr (Or.inr rfl))))
/-- a cell of another kind is no cell of the class that changes -/
theorem TwR_obj {G : tG} {L : tL} {S : tS} (h : TwR G L S) {q ci : Nat} {fs : List Value} (hq : G q = some (.inr (ci, fs))) (hci : ci ≠ 3) : ¬ clsW L q := by
  obtain ⟨h1, ⟨lf, h2, h3, h4⟩, ⟨g, h5⟩, h6, -, -⟩ := h
  rintro (e | e | e | e | e | e) <;> subst e
  · rw [h2] at hq; cases hq; exact hci rfl
  · rw [h3] at hq; cases hq
  · rw [h5] at hq; cases hq
  · rw [h6 0 (by omega)] at hq; cases hq
  · rw [h6 1 (by omega)] at hq; cases hq
  · rw [h6 2 (by omega)] at hq; cases hq
/-- a cell that isn't the class's is written or made -/
theorem TwR_fr {G G' : tG} {L : tL} {S : tS} {P : Nat → Prop} (h : TwR G L S) (hf : fr P G G') (hp : ∀ q, clsW L q → ¬ P q) (ho : ∀ q fs, P q → G q ≠ some (.inr (2, fs))) : TwR G' L S := by
  obtain ⟨h1, ⟨lf, h2, h3, h4⟩, ⟨g, h5⟩, h6, h7, h8⟩ := h
  refine ⟨h1, ⟨lf, hf _ _ h2 (hp _ (Or.inl rfl)), hf _ _ h3 (hp _ (Or.inr (Or.inl rfl))), fun j hj => ?_⟩, ⟨g, hf _ _ h5 (hp _ (Or.inr (Or.inr (Or.inl rfl))))⟩, fun r hr => hf _ _ (h6 r hr) (hp _ (clsW_va hr)), h7, h8⟩
  rcases h4 j hj with c | ⟨o, r, b, n, c1, c2, c3⟩
  · exact Or.inl c
  · exact Or.inr ⟨o, r, b, n, c1, c2, hf _ _ c3 (fun hP => ho o _ hP c3)⟩
/-- a row's value is written -/
theorem TwR_put {G : tG} {L : tL} {S : tS} (h : TwR G L S) {r : Nat} (hr : r < 3) (k : Nat) {x : Int32} (hx : okV x) : TwR (tg_up G (L.2.2.2 r) (eI 12 (upd (S.2.1 r) k x))) L (S_put S r k x) := by
  obtain ⟨h1, ⟨lf, h2, h3, h4⟩, ⟨g, h5⟩, h6, h7, h8⟩ := h
  have hv := h6 r hr
  refine ⟨S_put_ok h1 r k hx, ⟨lf, tg_keep h2 (ne_OI h2 hv), tg_keep h3 (ne_of_G h3 hv (fun e => by cases e)), fun j hj => ?_⟩, ⟨g, tg_keep h5 (fun e => h7 r hr e.symm)⟩, fun r' hr' => ?_, h7, h8⟩
  · rcases h4 j hj with c | ⟨o, r', b, n, c1, c2, c3⟩
    · exact Or.inl c
    · exact Or.inr ⟨o, r', b, n, c1, c2, tg_keep c3 (ne_OI c3 hv)⟩
  · by_cases c : r' = r
    · subst c
      rw [tg_s]
      show some _ = some (eI 12 (if r' = r' then upd (S.2.1 r') k x else S.2.1 r'))
      rw [if_pos rfl]
    · rw [tg_n _ _ (fun e => c (h8 r' r hr' hr e)), h6 r' hr']
      show some _ = some (eI 12 (if r' = r then upd (S.2.1 r) k x else S.2.1 r'))
      rw [if_neg c]
/-- the class's own fields: knocks, refusals -/
def S_kn (S : tS) (k : Int32) : tS := (S.1, S.2.1, k, S.2.2.2)
def S_rf (S : tS) (k : Int32) : tS := (S.1, S.2.1, S.2.2.1, k)
theorem TwR_own {G : tG} {L : tL} {S : tS} (h : TwR G L S) (k rf : Int32) : TwR (tg_up G L.1 (oTw L.2.1 L.2.2.1 k rf)) L (S.1, S.2.1, k, rf) := by
  obtain ⟨h1, ⟨lf, h2, h3, h4⟩, ⟨g, h5⟩, h6, h7, h8⟩ := h
  refine ⟨h1, ⟨lf, tg_s _ _ _, tg_keep h3 (fun e => ne_OI h2 h3 e.symm), fun j hj => ?_⟩, ⟨g, tg_keep h5 (fun e => ne_OI h2 h5 e.symm)⟩, fun r hr => tg_keep (h6 r hr) (fun e => ne_OI h2 (h6 r hr) e.symm), h7, h8⟩
  rcases h4 j hj with c | ⟨o, r, b, n, c1, c2, c3⟩
  · exact Or.inl c
  · exact Or.inr ⟨o, r, b, n, c1, c2, tg_keep c3 (ne_of_G c3 h2 (fun e => by cases e))⟩
/-! a list by its number -/
def S_at (S : tS) (v : Int32) : Option (Nat × Nat × Nat) := if 0 ≤ v.toInt ∧ v.toInt < 7 then S.1 v.toInt.toNat else none
theorem i32_lt {x y : Int32} : x < y ↔ x.toInt < y.toInt := Int32.lt_iff_toInt_lt
theorem i32_le {x y : Int32} : x ≤ y ↔ x.toInt ≤ y.toInt := Int32.le_iff_toInt_le
theorem S_at_nI (S : tS) {j : Nat} (h : j < 7) : S_at S (nI j) = S.1 j := by
  unfold S_at
  rw [nI_toInt (by omega), if_pos ⟨by omega, by omega⟩]
  rfl
section TWA
variable {K : tK} {G : tG} {L : tL} {S : tS} {v : Int32}
/-- what the number finds: nothing, or a list's object -/
theorem c_listOrNull {post : Option Nat → tG → Prop} (h : TwR G L S) (h0 : S_at S v = none → post none G) (h1 : ∀ o r b n, S_at S v = some (r, b, n) → G o = some (oRL (nI r) (L.2.2.2 r) b n) → r < 3 → b + n ≤ 12 → post (some o) G) : w_X1_listOrNull K post (some L.1) v G := by
  obtain ⟨k1, ⟨lf, k2, k3, k4⟩, -⟩ := h
  unfold w_X1_listOrNull
  refine ⟨fun c => h0 ?_, fun c => ?_⟩
  · unfold S_at
    rw [i32_lt] at c
    rw [if_neg]
    intro q
    have : (0 : Int32).toInt = 0 := rfl
    omega
  · obtain ⟨j, hj, rfl⟩ := nI_of c
    refine gfR_i _ k2 rfl (lenA_i k3 ?_)
    refine ⟨fun c2 => h0 ?_, fun c2 => ?_⟩
    · have c2 : nI 7 ≤ nI j := c2
      rw [nI_leI (by omega) hj] at c2
      unfold S_at
      rw [nI_toInt hj, if_neg (by omega)]
    · have c2 : ¬ nI 7 ≤ nI j := c2
      rw [nI_leI (by omega) hj] at c2
      have hj7 : j < 7 := by omega
      refine gfR_i _ k2 rfl (alR_i k3 rfl hj7 (by omega) ?_)
      rw [S_at_nI S hj7] at h0 h1
      rcases k4 j hj7 with ⟨c3, c4⟩ | ⟨o, r, b, n, c3, c4, c5⟩
      · rw [c3]; exact h0 c4
      · rw [c3]
        have := S_12 k1 hj7 c4
        exact h1 o r b n c4 c5 this.1 this.2
theorem c_rcv {P : Prop} (h : TwR G L S) (hp : P) : rcv G (some L.1) 3 P := by
  obtain ⟨k1, ⟨lf, k2, k3, k4⟩, -⟩ := h
  exact rcv_i k2 hp
theorem c_listAt {post : Option Nat → tG → Prop} {postX : String → tG → Prop} (h : TwR G L S) (h0 : S_at S v = none → postX "java/lang/IndexOutOfBoundsException" G) (h1 : ∀ o r b n, S_at S v = some (r, b, n) → G o = some (oRL (nI r) (L.2.2.2 r) b n) → r < 3 → b + n ≤ 12 → post (some o) G) : w_X1_listAt K post postX (some L.1) v G := by
  refine c_rcv h (c_listOrNull h (fun c => ?_) (fun o r b n c1 c2 c3 c4 => ?_))
  · exact ⟨fun q => absurd rfl q, fun _ => h0 c⟩
  · exact ⟨fun _ => h1 o r b n c1 c2 c3 c4, fun q => by cases q⟩
/-- a twin by its row's number -/
def S_tw (S : tS) (v : Int32) : Option (Nat × Nat × Nat) := if 0 ≤ v.toInt ∧ v.toInt < 3 then S.1 v.toInt.toNat else none
theorem c_twinAt {post : Option Nat → tG → Prop} {postX : String → tG → Prop} (h : TwR G L S) (h0 : S_tw S v = none → postX "java/lang/IndexOutOfBoundsException" G) (h1 : ∀ o r n, v = nI r → S.1 r = some (r, 0, n) → G o = some (oRL (nI r) (L.2.2.2 r) 0 n) → r < 3 → n ≤ 12 → post (some o) G) : w_X1_twinAt K post postX (some L.1) v G := by
  have k1 := h.1
  refine ⟨fun c => ?_, fun c => c_rcv h (c_listOrNull h (fun c2 => ?_) (fun o r b n c1 c2 c3 c4 => ?_))⟩
  · refine ⟨fun q => absurd rfl q, fun _ => h0 ?_⟩
    rw [i32_le] at c
    unfold S_tw
    rw [if_neg]
    intro q
    have : (3 : Int32).toInt = 3 := rfl
    omega
  · refine ⟨fun q => absurd rfl q, fun _ => h0 ?_⟩
    unfold S_tw
    unfold S_at at c2
    by_cases q : 0 ≤ v.toInt ∧ v.toInt < 3
    · rw [if_pos ⟨q.1, by omega⟩] at c2
      rw [if_pos q]; exact c2
    · rw [if_neg q]
  · refine ⟨fun _ => ?_, fun q => by cases q⟩
    unfold S_at at c1
    by_cases q : 0 ≤ v.toInt ∧ v.toInt < 7
    · rw [if_pos q] at c1
      rw [i32_le] at c
      have h3 : (3 : Int32).toInt = 3 := rfl
      have hr : v.toInt.toNat < 3 := by omega
      obtain ⟨n0, e1, e2⟩ := k1.1 _ hr
      rw [c1] at e1
      cases e1
      have hv : v = nI v.toInt.toNat := by
        obtain ⟨j, hj, e⟩ := nI_of (x := v) (by rw [i32_lt]; have : (0 : Int32).toInt = 0 := rfl; omega)
        rw [e, nI_toInt hj]; rfl
      exact h1 o _ n hv c1 c2 hr (by omega)
    · rw [if_neg q] at c1; cases c1
end TWA
/-! the checks -/
section CHK
variable {K : tK} {G : tG} {post : tG → Prop} {postX : String → tG → Prop}
abbrev inR (x a b : Int32) : Prop := ¬ x < a ∧ x ≤ b
theorem c_checkNumber {x a b : Int32} (h1 : inR x a b → post G) (h2 : ¬ inR x a b → postX "java/lang/IllegalArgumentException" G) : w_X1_checkNumber K post postX x a b G :=
  ⟨fun c => h2 (fun q => q.1 c), fun c => ⟨fun c2 => h1 ⟨c, c2⟩, fun c2 => h2 (fun q => c2 q.2)⟩⟩
theorem c_checkValue {x : Int32} (h1 : okV x → post G) (h2 : ¬ okV x → postX "java/lang/IllegalArgumentException" G) : w_X1_checkValue K post postX x G :=
  ⟨fun c => h1 (Or.inl c), fun c => c_checkNumber (fun q => h1 (Or.inr q)) (fun q => h2 (fun z => z.elim c q))⟩
theorem c_checkRule {x y : Int32} (h1 : inR x 0 3 → inR y (-99) 99 → post G) (h2 : ¬ (inR x 0 3 ∧ inR y (-99) 99) → postX "java/lang/IllegalArgumentException" G) : w_X1_checkRule K post postX x y G :=
  c_checkNumber (fun q => c_checkNumber (fun q2 => h1 q q2) (fun q2 => h2 (fun z => q2 z.2))) (fun q => h2 (fun z => q z.1))
theorem c_checkPart {x : Int32} (h1 : ∀ j, 3 ≤ j → j < 7 → x = nI j → post G) (h2 : ¬ (3 ≤ x.toInt ∧ x.toInt < 7) → postX "java/lang/IndexOutOfBoundsException" G) : w_X1_checkPart K post postX x G := by
  have e3 : (3 : Int32).toInt = 3 := rfl
  have e7 : (7 : Int32).toInt = 7 := rfl
  have e0 : (0 : Int32).toInt = 0 := rfl
  refine ⟨fun c => h2 ?_, fun c => ⟨fun c2 => ?_, fun c2 => h2 ?_⟩⟩
  · rw [i32_lt] at c; omega
  · rw [i32_lt] at c c2
    obtain ⟨j, hj, rfl⟩ := nI_of (x := x) (by rw [i32_lt]; omega)
    rw [nI_toInt hj] at c c2
    exact h1 j (by omega) (by omega) rfl
  · rw [i32_lt] at c2; omega
/-- a place of a list of n -/
theorem c_checkPlace {r v : Int32} {o a b n : Nat} (ho : G o = some (oRL r a b n)) (hn : n ≤ 12) (h1 : ∀ i, i < n → v = nI i → post G) (h2 : ¬ (0 ≤ v.toInt ∧ v.toInt < n) → postX "java/lang/IndexOutOfBoundsException" G) : w_X1_checkPlace K post postX (some o) v G := by
  have e0 : (0 : Int32).toInt = 0 := rfl
  refine rcv_i ho ?_
  by_cases c : v < 0
  · refine l_isPlaceN c ⟨fun q => absurd rfl q, fun _ => h2 ?_⟩
    rw [i32_lt] at c; omega
  · obtain ⟨i, hi, rfl⟩ := nI_of c
    refine l_isPlace ho hi (by omega) ?_
    by_cases c2 : i < n
    · rw [if_pos c2]
      exact ⟨fun _ => h1 i c2 rfl, fun q => absurd q (by decide)⟩
    · rw [if_neg c2]
      refine ⟨fun q => absurd rfl q, fun _ => h2 ?_⟩
      rw [nI_toInt hi]; omega
end CHK
