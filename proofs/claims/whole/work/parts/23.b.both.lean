/-! each method: one answer, the class's and the model's -/
theorem sp_at_lt {S : tS} {q : Option (Nat × Nat × Nat)} {w : Int32} {F : Nat → Nat → Nat → Nat → tA} {k : Nat} (hk : 1 < k) (hF : ∀ r b n i, (F r b n i).1 < k) : (sp_at S q w F).1 < k := by
  rcases q with _ | ⟨r, b, n⟩
  · exact hk
  · show (if 0 ≤ w.toInt ∧ w.toInt < n then F r b n w.toInt.toNat else (1, 0, S)).1 < k
    split
    · exact hF _ _ _ _
    · exact hk
theorem sp_li_lt {S : tS} {q : Option (Nat × Nat × Nat)} {F : Nat → Nat → Nat → tA} {k : Nat} (hk : 1 < k) (hF : ∀ r b n, (F r b n).1 < k) : (sp_li S q F).1 < k := by
  rcases q with _ | ⟨r, b, n⟩
  · exact hk
  · exact hF _ _ _
theorem sp_2_lt {S : tS} {p q : Option (Nat × Nat × Nat)} {F : Nat → Nat → Nat → Nat → Nat → Nat → tA} {k : Nat} (hk : 1 < k) (hF : ∀ r b n r2 b2 n2, (F r b n r2 b2 n2).1 < k) : (sp_2 S p q F).1 < k := by
  rcases p with _ | ⟨r, b, n⟩
  · exact hk
  · rcases q with _ | ⟨r2, b2, n2⟩
    · exact hk
    · exact hF _ _ _ _ _ _
theorem if_lt {c : Prop} {_ : Decidable c} {a b : tA} {k : Nat} (ha : a.1 < k) (hb : b.1 < k) : (if c then a else b).1 < k := by
  split
  · exact ha
  · exact hb
theorem sp_lay_lt (S : tS) (v w : Int32) : (sp_lay S v w).1 < 3 := by
  unfold sp_lay
  rcases S_tw S v with _ | ⟨r, b, n⟩
  · exact Nat.le_of_ble_eq_true rfl
  · exact if_lt (Nat.le_of_ble_eq_true rfl) (Nat.le_of_ble_eq_true rfl)
theorem sp_part_lt (S : tS) (p v x y : Int32) : (sp_part S p v x y).1 < 3 := by
  unfold sp_part
  exact if_lt (sp_li_lt (Nat.le_of_ble_eq_true rfl) (fun _ _ _ => if_lt (Nat.le_of_ble_eq_true rfl) (Nat.le_of_ble_eq_true rfl))) (Nat.le_of_ble_eq_true rfl)
def q_lay (S : tS) (v w : Int32) : tA := sp_lay S v w
def q_put (S : tS) (v w x : Int32) : tA := sp_at S (S_tw S v) w fun r b n i => if okV x then (0, S.2.1 r (b + i), S_put S r (b + i) x) else (2, 0, S)
def q_at (S : tS) (v w : Int32) : tA := sp_at S (S_tw S v) w fun r b n i => (0, S.2.1 r (b + i), S)
def q_part (S : tS) (p v x y : Int32) : tA := sp_part S p v x y
def q_set (S : tS) (v w x : Int32) : tA := sp_at S (S_at S v) w fun r b n i => if okV x then (0, S.2.1 r (b + i), S_put S r (b + i) x) else (2, 0, S)
def q_get (S : tS) (v w : Int32) : tA := sp_at S (S_at S v) w fun r b n i => (0, S.2.1 r (b + i), S)
def q_length (S : tS) (v : Int32) : tA := sp_li S (S_at S v) fun r b n => (0, nI n, S)
def q_isEmpty (S : tS) (v : Int32) : tA := sp_li S (S_at S v) fun r b n => (0, if n = 0 then 1 else 0, S)
def q_indexOf (S : tS) (v x : Int32) : tA := sp_li S (S_at S v) fun r b n => if okV x then (0, fpF (S_v S r b) x n 0, S) else (2, 0, S)
def q_lastIndexOf (S : tS) (v x : Int32) : tA := sp_li S (S_at S v) fun r b n => if okV x then (0, lpF (S_v S r b) x n, S) else (2, 0, S)
def q_has (S : tS) (v x : Int32) : tA := sp_li S (S_at S v) fun r b n => if okV x then (0, if fpF (S_v S r b) x n 0 = -1 then 0 else 1, S) else (2, 0, S)
def q_often (S : tS) (v x : Int32) : tA := sp_li S (S_at S v) fun r b n => if okV x then (0, ofF (S_v S r b) x n, S) else (2, 0, S)
def q_hasAll (S : tS) (v w : Int32) : tA := sp_2 S (S_at S v) (S_at S w) fun r b n r2 b2 n2 => (0, if onF (S_v S r2 b2) (S_v S r b) n 0 n2 0 = 0 then 1 else 0, S)
def q_areApart (S : tS) (v w : Int32) : tA := sp_2 S (S_at S v) (S_at S w) fun r b n r2 b2 n2 => (0, if onF (S_v S r b) (S_v S r2 b2) n2 1 n 0 = 0 then 1 else 0, S)
def q_indexOfAll (S : tS) (v w : Int32) : tA := sp_2 S (S_at S v) (S_at S w) fun r b n r2 b2 n2 => (0, iaF (S_v S r b) (S_v S r2 b2) n2 (n + 1 - n2) 0, S)
def q_areEqual (S : tS) (v w : Int32) : tA := sp_2 S (S_at S v) (S_at S w) fun r b n r2 b2 n2 => (0, if n = n2 then haF (S_v S r b) (S_v S r2 b2) n2 0 else 0, S)
def q_code (S : tS) (v : Int32) : tA := sp_li S (S_at S v) fun r b n => (0, coF (S_v S r b) n, S)
def q_sum (S : tS) (v : Int32) : tA := sp_li S (S_at S v) fun r b n => (0, suF (S_v S r b) n, S)
def q_walkSet (S : tS) (v p rule w back : Int32) : tA := sp_li S (S_at S v) fun r b n => if inR p 0 (nI n) ∧ (inR rule 0 3 ∧ inR w (-99) 99) then (0, nI (slF p.toInt.toNat n back), wrF S r b p.toInt.toNat back rule w (slF p.toInt.toNat n back)) else (2, 0, S)
def q_replaceAll (S : tS) (v rule w : Int32) : tA := sp_li S (S_at S v) fun r b n => if inR rule 0 3 ∧ inR w (-99) 99 then (0, nI (slF 0 n 0), wrF S r b 0 0 rule w (slF 0 n 0)) else (2, 0, S)
def q_replaceOld (S : tS) (v y x : Int32) : tA := sp_li S (S_at S v) fun r b n => if okV y ∧ okV x then (0, (roF S r b y x n).2, (roF S r b y x n).1) else (2, 0, S)
def q_fill (S : tS) (v x : Int32) : tA := sp_li S (S_at S v) fun r b n => if okV x then (0, nI n, S_map S r b (fun _ _ => x) n) else (2, 0, S)
def q_sort (S : tS) (v fall : Int32) : tA := sp_li S (S_tw S v) fun r b n => (0, nI n, soF r b fall S (n - 1))
def q_reverse (S : tS) (v : Int32) : tA := sp_li S (S_at S v) fun r b n => (0, nI n, tuF r b n 0 n S)
def q_rotate (S : tS) (v x : Int32) : tA := sp_li S (S_at S v) fun r b n => if inR x (-99) 99 then (0, nI n, if n = 0 then S else roS S r b n (fmF x (nI n)).toInt.toNat) else (2, 0, S)
def q_swap (S : tS) (v w x : Int32) : tA := sp_at S (S_at S v) w fun r b n i => if 0 ≤ x.toInt ∧ x.toInt < n then (0, if S.2.1 r (b + i) = S.2.1 r (b + x.toInt.toNat) then 0 else 1, S_exch S r (b + i) (b + x.toInt.toNat)) else (1, 0, S)
def q_add (S : tS) (v x : Int32) : tA := sp_li S (S_at S v) fun _ _ _ => if okV x then (0, -9, S_ref S) else (2, 0, S)
def q_addAt (S : tS) (v w x : Int32) : tA := sp_li S (S_at S v) fun _ _ n => if inR w 0 (nI n) ∧ okV x then (0, -9, S_ref S) else (2, 0, S)
def q_addAll (S : tS) (v w : Int32) : tA := sp_2 S (S_at S v) (S_at S w) fun _ _ _ _ _ n2 => if n2 = 0 then (0, 0, S) else (0, -9, S_ref S)
def q_remove (S : tS) (v w : Int32) : tA := sp_at S (S_at S v) w fun _ _ _ _ => (0, -9, S_ref S)
def q_removeValue (S : tS) (v x : Int32) : tA := sp_li S (S_at S v) fun r b n => if okV x then (if fpF (S_v S r b) x n 0 = -1 then (0, 0, S) else (0, -9, S_ref S)) else (2, 0, S)
def q_removeAll (S : tS) (v w : Int32) : tA := sp_2 S (S_at S v) (S_at S w) fun r b n r2 b2 n2 => if onF (S_v S r b) (S_v S r2 b2) n2 1 n 0 = 0 then (0, 0, S) else (0, -9, S_ref S)
def q_retainAll (S : tS) (v w : Int32) : tA := sp_2 S (S_at S v) (S_at S w) fun r b n r2 b2 n2 => if onF (S_v S r b) (S_v S r2 b2) n2 0 n 0 = 0 then (0, 0, S) else (0, -9, S_ref S)
def q_removeIf (S : tS) (v t w : Int32) : tA := sp_li S (S_at S v) fun r b n => if inR t 0 2 ∧ inR w (-99) 99 then (if otF (S_v S r b) t w n 0 = 0 then (0, 0, S) else (0, -9, S_ref S)) else (2, 0, S)
def q_clear (S : tS) (v : Int32) : tA := sp_li S (S_at S v) fun _ _ n => if n = 0 then (0, 0, S) else (0, -9, S_ref S)
def q_walkChange (S : tS) (v w x : Int32) : tA := sp_at S (S_at S v) w fun _ _ _ _ => if inR x 0 2 then (0, -9, S_ref S) else (2, 0, S)
section BOB
variable {K : tK} {G : tG} {L : tL} {M : tM} {S S' : tS} {th : Int32} {u : Nat} {n : Int64} {s : Value} {post : Int32 → tG → Prop}
theorem Lc_lay {v w : Int32} (h : Bo G L M S S' th u n s) (hp : ∀ G' n', Bo G' L M (q_lay S v w).2.2 S' th u n' s → ((q_lay S v w).1 = 0 → n' = (q_lay S v w).2.1.toInt64) → post (nI (q_lay S v w).1) G') : w_L_lay K post (some L.1) v w (some u) G :=
  c_rcv h.1 (c_lay h.1 (L_res (a := q_lay S v w) h (sp_lay_lt S v w) hp))
theorem Lm_lay {v w : Int32} (h : Bo G L M S S' th u n s) (hp : ∀ G' M', M'.1 = M.1 → Bo G' L M' S (q_lay S' v w).2.2 (nI (q_lay S' v w).1) u n s → post (q_lay S' v w).2.1 G') : rcv G (some M.1.1) 5 (w_X3_lay K post (some M.1.1) v w G) :=
  m_rcv h.2.1 (m_lay h.2.1 (L_mod (a := q_lay S' v w) h hp))
theorem Lc_put {v w x : Int32} (h : Bo G L M S S' th u n s) (hp : ∀ G' n', Bo G' L M (q_put S v w x).2.2 S' th u n' s → ((q_put S v w x).1 = 0 → n' = (q_put S v w x).2.1.toInt64) → post (nI (q_put S v w x).1) G') : w_L_put K post (some L.1) v w x (some u) G :=
  c_rcv h.1 (c_put h.1 (L_res (a := q_put S v w x) h (sp_at_lt (Nat.le_of_ble_eq_true rfl) (fun _ _ _ _ => if_lt (Nat.le_of_ble_eq_true rfl) (Nat.le_of_ble_eq_true rfl))) hp))
theorem Lm_put {v w x : Int32} (h : Bo G L M S S' th u n s) (hp : ∀ G' M', M'.1 = M.1 → Bo G' L M' S (q_put S' v w x).2.2 (nI (q_put S' v w x).1) u n s → post (q_put S' v w x).2.1 G') : rcv G (some M.1.1) 5 (w_X3_put K post (some M.1.1) v w x G) :=
  m_rcv h.2.1 (m_put h.2.1 (L_mod (a := q_put S' v w x) h hp))
theorem Lc_at {v w : Int32} (h : Bo G L M S S' th u n s) (hp : ∀ G' n', Bo G' L M (q_at S v w).2.2 S' th u n' s → ((q_at S v w).1 = 0 → n' = (q_at S v w).2.1.toInt64) → post (nI (q_at S v w).1) G') : w_L_at K post (some L.1) v w (some u) G :=
  c_rcv h.1 (c_at h.1 (L_res1 (a := q_at S v w) h (sp_at_lt (Nat.le_of_ble_eq_true rfl) (fun _ _ _ _ => (Nat.le_of_ble_eq_true rfl))) hp))
theorem Lm_at {v w : Int32} (h : Bo G L M S S' th u n s) (hp : ∀ G' M', M'.1 = M.1 → Bo G' L M' S (q_at S' v w).2.2 (nI (q_at S' v w).1) u n s → post (q_at S' v w).2.1 G') : rcv G (some M.1.1) 5 (w_X3_at K post (some M.1.1) v w G) :=
  m_rcv h.2.1 (m_at h.2.1 (L_mod (a := q_at S' v w) h hp))
theorem Lc_part {p v x y : Int32} (h : Bo G L M S S' th u n s) (hp : ∀ G' n', Bo G' L M (q_part S p v x y).2.2 S' th u n' s → ((q_part S p v x y).1 = 0 → n' = (q_part S p v x y).2.1.toInt64) → post (nI (q_part S p v x y).1) G') : w_L_part K post (some L.1) p v x y (some u) G :=
  c_rcv h.1 (c_part h.1 (L_res (a := q_part S p v x y) h (sp_part_lt S p v x y) hp))
theorem Lm_part {p v x y : Int32} (h : Bo G L M S S' th u n s) (hp : ∀ G' M', M'.1 = M.1 → Bo G' L M' S (q_part S' p v x y).2.2 (nI (q_part S' p v x y).1) u n s → post (q_part S' p v x y).2.1 G') : rcv G (some M.1.1) 5 (w_X3_part K post (some M.1.1) p v x y G) :=
  m_rcv h.2.1 (m_part h.2.1 (L_mod (a := q_part S' p v x y) h hp))
theorem Lc_set {v w x : Int32} (h : Bo G L M S S' th u n s) (hp : ∀ G' n', Bo G' L M (q_set S v w x).2.2 S' th u n' s → ((q_set S v w x).1 = 0 → n' = (q_set S v w x).2.1.toInt64) → post (nI (q_set S v w x).1) G') : w_L_set K post (some L.1) v w x (some u) G :=
  c_rcv h.1 (c_set h.1 (L_res (a := q_set S v w x) h (sp_at_lt (Nat.le_of_ble_eq_true rfl) (fun _ _ _ _ => if_lt (Nat.le_of_ble_eq_true rfl) (Nat.le_of_ble_eq_true rfl))) hp))
theorem Lm_set {v w x : Int32} (h : Bo G L M S S' th u n s) (hp : ∀ G' M', M'.1 = M.1 → Bo G' L M' S (q_set S' v w x).2.2 (nI (q_set S' v w x).1) u n s → post (q_set S' v w x).2.1 G') : rcv G (some M.1.1) 5 (w_X3_set K post (some M.1.1) v w x G) :=
  m_rcv h.2.1 (m_set h.2.1 (L_mod (a := q_set S' v w x) h hp))
theorem Lc_get {v w : Int32} (h : Bo G L M S S' th u n s) (hp : ∀ G' n', Bo G' L M (q_get S v w).2.2 S' th u n' s → ((q_get S v w).1 = 0 → n' = (q_get S v w).2.1.toInt64) → post (nI (q_get S v w).1) G') : w_L_get K post (some L.1) v w (some u) G :=
  c_rcv h.1 (c_get h.1 (L_res1 (a := q_get S v w) h (sp_at_lt (Nat.le_of_ble_eq_true rfl) (fun _ _ _ _ => (Nat.le_of_ble_eq_true rfl))) hp))
theorem Lm_get {v w : Int32} (h : Bo G L M S S' th u n s) (hp : ∀ G' M', M'.1 = M.1 → Bo G' L M' S (q_get S' v w).2.2 (nI (q_get S' v w).1) u n s → post (q_get S' v w).2.1 G') : rcv G (some M.1.1) 5 (w_X3_get K post (some M.1.1) v w G) :=
  m_rcv h.2.1 (m_get h.2.1 (L_mod (a := q_get S' v w) h hp))
theorem Lc_length {v : Int32} (h : Bo G L M S S' th u n s) (hp : ∀ G' n', Bo G' L M (q_length S v).2.2 S' th u n' s → ((q_length S v).1 = 0 → n' = (q_length S v).2.1.toInt64) → post (nI (q_length S v).1) G') : w_L_length K post (some L.1) v (some u) G :=
  c_rcv h.1 (c_length h.1 (L_res1 (a := q_length S v) h (sp_li_lt (Nat.le_of_ble_eq_true rfl) (fun _ _ _ => (Nat.le_of_ble_eq_true rfl))) hp))
theorem Lm_length {v : Int32} (h : Bo G L M S S' th u n s) (hp : ∀ G' M', M'.1 = M.1 → Bo G' L M' S (q_length S' v).2.2 (nI (q_length S' v).1) u n s → post (q_length S' v).2.1 G') : rcv G (some M.1.1) 5 (w_X3_length K post (some M.1.1) v G) :=
  m_rcv h.2.1 (m_length h.2.1 (L_mod (a := q_length S' v) h hp))
theorem Lc_isEmpty {v : Int32} (h : Bo G L M S S' th u n s) (hp : ∀ G' n', Bo G' L M (q_isEmpty S v).2.2 S' th u n' s → ((q_isEmpty S v).1 = 0 → n' = if (q_isEmpty S v).2.1 = 0 then 0 else 1) → post (nI (q_isEmpty S v).1) G') : w_L_isEmpty K post (some L.1) v (some u) G :=
  c_rcv h.1 (c_isEmpty h.1 (L_resB1 (a := q_isEmpty S v) h (sp_li_lt (Nat.le_of_ble_eq_true rfl) (fun _ _ _ => (Nat.le_of_ble_eq_true rfl))) hp))
theorem Lm_isEmpty {v : Int32} (h : Bo G L M S S' th u n s) (hp : ∀ G' M', M'.1 = M.1 → Bo G' L M' S (q_isEmpty S' v).2.2 (nI (q_isEmpty S' v).1) u n s → post (q_isEmpty S' v).2.1 G') : rcv G (some M.1.1) 5 (w_X3_isEmpty K post (some M.1.1) v G) :=
  m_rcv h.2.1 (m_isEmpty h.2.1 (L_mod (a := q_isEmpty S' v) h hp))
theorem Lc_indexOf {v x : Int32} (h : Bo G L M S S' th u n s) (hp : ∀ G' n', Bo G' L M (q_indexOf S v x).2.2 S' th u n' s → ((q_indexOf S v x).1 = 0 → n' = (q_indexOf S v x).2.1.toInt64) → post (nI (q_indexOf S v x).1) G') : w_L_indexOf K post (some L.1) v x (some u) G :=
  c_rcv h.1 (c_indexOf h.1 (L_res (a := q_indexOf S v x) h (sp_li_lt (Nat.le_of_ble_eq_true rfl) (fun _ _ _ => if_lt (Nat.le_of_ble_eq_true rfl) (Nat.le_of_ble_eq_true rfl))) hp))
theorem Lm_indexOf {v x : Int32} (h : Bo G L M S S' th u n s) (hp : ∀ G' M', M'.1 = M.1 → Bo G' L M' S (q_indexOf S' v x).2.2 (nI (q_indexOf S' v x).1) u n s → post (q_indexOf S' v x).2.1 G') : rcv G (some M.1.1) 5 (w_X3_indexOf K post (some M.1.1) v x G) :=
  m_rcv h.2.1 (m_indexOf h.2.1 (L_mod (a := q_indexOf S' v x) h hp))
theorem Lc_lastIndexOf {v x : Int32} (h : Bo G L M S S' th u n s) (hp : ∀ G' n', Bo G' L M (q_lastIndexOf S v x).2.2 S' th u n' s → ((q_lastIndexOf S v x).1 = 0 → n' = (q_lastIndexOf S v x).2.1.toInt64) → post (nI (q_lastIndexOf S v x).1) G') : w_L_lastIndexOf K post (some L.1) v x (some u) G :=
  c_rcv h.1 (c_lastIndexOf h.1 (L_res (a := q_lastIndexOf S v x) h (sp_li_lt (Nat.le_of_ble_eq_true rfl) (fun _ _ _ => if_lt (Nat.le_of_ble_eq_true rfl) (Nat.le_of_ble_eq_true rfl))) hp))
theorem Lm_lastIndexOf {v x : Int32} (h : Bo G L M S S' th u n s) (hp : ∀ G' M', M'.1 = M.1 → Bo G' L M' S (q_lastIndexOf S' v x).2.2 (nI (q_lastIndexOf S' v x).1) u n s → post (q_lastIndexOf S' v x).2.1 G') : rcv G (some M.1.1) 5 (w_X3_lastIndexOf K post (some M.1.1) v x G) :=
  m_rcv h.2.1 (m_lastIndexOf h.2.1 (L_mod (a := q_lastIndexOf S' v x) h hp))
theorem Lc_has {v x : Int32} (h : Bo G L M S S' th u n s) (hp : ∀ G' n', Bo G' L M (q_has S v x).2.2 S' th u n' s → ((q_has S v x).1 = 0 → n' = if (q_has S v x).2.1 = 0 then 0 else 1) → post (nI (q_has S v x).1) G') : w_L_has K post (some L.1) v x (some u) G :=
  c_rcv h.1 (c_has h.1 (L_resB (a := q_has S v x) h (sp_li_lt (Nat.le_of_ble_eq_true rfl) (fun _ _ _ => if_lt (Nat.le_of_ble_eq_true rfl) (Nat.le_of_ble_eq_true rfl))) hp))
theorem Lm_has {v x : Int32} (h : Bo G L M S S' th u n s) (hp : ∀ G' M', M'.1 = M.1 → Bo G' L M' S (q_has S' v x).2.2 (nI (q_has S' v x).1) u n s → post (q_has S' v x).2.1 G') : rcv G (some M.1.1) 5 (w_X3_has K post (some M.1.1) v x G) :=
  m_rcv h.2.1 (m_has h.2.1 (L_mod (a := q_has S' v x) h hp))
theorem Lc_often {v x : Int32} (h : Bo G L M S S' th u n s) (hp : ∀ G' n', Bo G' L M (q_often S v x).2.2 S' th u n' s → ((q_often S v x).1 = 0 → n' = (q_often S v x).2.1.toInt64) → post (nI (q_often S v x).1) G') : w_L_often K post (some L.1) v x (some u) G :=
  c_rcv h.1 (c_often h.1 (L_res (a := q_often S v x) h (sp_li_lt (Nat.le_of_ble_eq_true rfl) (fun _ _ _ => if_lt (Nat.le_of_ble_eq_true rfl) (Nat.le_of_ble_eq_true rfl))) hp))
theorem Lm_often {v x : Int32} (h : Bo G L M S S' th u n s) (hp : ∀ G' M', M'.1 = M.1 → Bo G' L M' S (q_often S' v x).2.2 (nI (q_often S' v x).1) u n s → post (q_often S' v x).2.1 G') : rcv G (some M.1.1) 5 (w_X3_often K post (some M.1.1) v x G) :=
  m_rcv h.2.1 (m_often h.2.1 (L_mod (a := q_often S' v x) h hp))
theorem Lc_hasAll {v w : Int32} (h : Bo G L M S S' th u n s) (hp : ∀ G' n', Bo G' L M (q_hasAll S v w).2.2 S' th u n' s → ((q_hasAll S v w).1 = 0 → n' = if (q_hasAll S v w).2.1 = 0 then 0 else 1) → post (nI (q_hasAll S v w).1) G') : w_L_hasAll K post (some L.1) v w (some u) G :=
  c_rcv h.1 (c_hasAll h.1 (L_resB1 (a := q_hasAll S v w) h (sp_2_lt (Nat.le_of_ble_eq_true rfl) (fun _ _ _ _ _ _ => (Nat.le_of_ble_eq_true rfl))) hp))
theorem Lm_hasAll {v w : Int32} (h : Bo G L M S S' th u n s) (hp : ∀ G' M', M'.1 = M.1 → Bo G' L M' S (q_hasAll S' v w).2.2 (nI (q_hasAll S' v w).1) u n s → post (q_hasAll S' v w).2.1 G') : rcv G (some M.1.1) 5 (w_X3_hasAll K post (some M.1.1) v w G) :=
  m_rcv h.2.1 (m_hasAll h.2.1 (L_mod (a := q_hasAll S' v w) h hp))
theorem Lc_areApart {v w : Int32} (h : Bo G L M S S' th u n s) (hp : ∀ G' n', Bo G' L M (q_areApart S v w).2.2 S' th u n' s → ((q_areApart S v w).1 = 0 → n' = if (q_areApart S v w).2.1 = 0 then 0 else 1) → post (nI (q_areApart S v w).1) G') : w_L_areApart K post (some L.1) v w (some u) G :=
  c_rcv h.1 (c_areApart h.1 (L_resB1 (a := q_areApart S v w) h (sp_2_lt (Nat.le_of_ble_eq_true rfl) (fun _ _ _ _ _ _ => (Nat.le_of_ble_eq_true rfl))) hp))
theorem Lm_areApart {v w : Int32} (h : Bo G L M S S' th u n s) (hp : ∀ G' M', M'.1 = M.1 → Bo G' L M' S (q_areApart S' v w).2.2 (nI (q_areApart S' v w).1) u n s → post (q_areApart S' v w).2.1 G') : rcv G (some M.1.1) 5 (w_X3_areApart K post (some M.1.1) v w G) :=
  m_rcv h.2.1 (m_areApart h.2.1 (L_mod (a := q_areApart S' v w) h hp))
theorem Lc_indexOfAll {v w : Int32} (h : Bo G L M S S' th u n s) (hp : ∀ G' n', Bo G' L M (q_indexOfAll S v w).2.2 S' th u n' s → ((q_indexOfAll S v w).1 = 0 → n' = (q_indexOfAll S v w).2.1.toInt64) → post (nI (q_indexOfAll S v w).1) G') : w_L_indexOfAll K post (some L.1) v w (some u) G :=
  c_rcv h.1 (c_indexOfAll h.1 (L_res1 (a := q_indexOfAll S v w) h (sp_2_lt (Nat.le_of_ble_eq_true rfl) (fun _ _ _ _ _ _ => (Nat.le_of_ble_eq_true rfl))) hp))
theorem Lm_indexOfAll {v w : Int32} (h : Bo G L M S S' th u n s) (hp : ∀ G' M', M'.1 = M.1 → Bo G' L M' S (q_indexOfAll S' v w).2.2 (nI (q_indexOfAll S' v w).1) u n s → post (q_indexOfAll S' v w).2.1 G') : rcv G (some M.1.1) 5 (w_X3_indexOfAll K post (some M.1.1) v w G) :=
  m_rcv h.2.1 (m_indexOfAll h.2.1 (L_mod (a := q_indexOfAll S' v w) h hp))
theorem Lc_areEqual {v w : Int32} (h : Bo G L M S S' th u n s) (hp : ∀ G' n', Bo G' L M (q_areEqual S v w).2.2 S' th u n' s → ((q_areEqual S v w).1 = 0 → n' = if (q_areEqual S v w).2.1 = 0 then 0 else 1) → post (nI (q_areEqual S v w).1) G') : w_L_areEqual K post (some L.1) v w (some u) G :=
  c_rcv h.1 (c_areEqual h.1 (L_resB1 (a := q_areEqual S v w) h (sp_2_lt (Nat.le_of_ble_eq_true rfl) (fun _ _ _ _ _ _ => (Nat.le_of_ble_eq_true rfl))) hp))
theorem Lm_areEqual {v w : Int32} (h : Bo G L M S S' th u n s) (hp : ∀ G' M', M'.1 = M.1 → Bo G' L M' S (q_areEqual S' v w).2.2 (nI (q_areEqual S' v w).1) u n s → post (q_areEqual S' v w).2.1 G') : rcv G (some M.1.1) 5 (w_X3_areEqual K post (some M.1.1) v w G) :=
  m_rcv h.2.1 (m_areEqual h.2.1 (L_mod (a := q_areEqual S' v w) h hp))
theorem Lc_code {v : Int32} (h : Bo G L M S S' th u n s) (hp : ∀ G' n', Bo G' L M (q_code S v).2.2 S' th u n' s → ((q_code S v).1 = 0 → n' = (q_code S v).2.1.toInt64) → post (nI (q_code S v).1) G') : w_L_code K post (some L.1) v (some u) G :=
  c_rcv h.1 (c_code h.1 (L_res1 (a := q_code S v) h (sp_li_lt (Nat.le_of_ble_eq_true rfl) (fun _ _ _ => (Nat.le_of_ble_eq_true rfl))) hp))
theorem Lm_code {v : Int32} (h : Bo G L M S S' th u n s) (hp : ∀ G' M', M'.1 = M.1 → Bo G' L M' S (q_code S' v).2.2 (nI (q_code S' v).1) u n s → post (q_code S' v).2.1 G') : rcv G (some M.1.1) 5 (w_X3_code K post (some M.1.1) v G) :=
  m_rcv h.2.1 (m_code h.2.1 (L_mod (a := q_code S' v) h hp))
theorem Lc_sum {v : Int32} (h : Bo G L M S S' th u n s) (hp : ∀ G' n', Bo G' L M (q_sum S v).2.2 S' th u n' s → ((q_sum S v).1 = 0 → n' = (q_sum S v).2.1.toInt64) → post (nI (q_sum S v).1) G') : w_L_sum K post (some L.1) v (some u) G :=
  c_rcv h.1 (c_sum h.1 (L_res1 (a := q_sum S v) h (sp_li_lt (Nat.le_of_ble_eq_true rfl) (fun _ _ _ => (Nat.le_of_ble_eq_true rfl))) hp))
theorem Lm_sum {v : Int32} (h : Bo G L M S S' th u n s) (hp : ∀ G' M', M'.1 = M.1 → Bo G' L M' S (q_sum S' v).2.2 (nI (q_sum S' v).1) u n s → post (q_sum S' v).2.1 G') : rcv G (some M.1.1) 5 (w_X3_sum K post (some M.1.1) v G) :=
  m_rcv h.2.1 (m_sum h.2.1 (L_mod (a := q_sum S' v) h hp))
theorem Lc_walkSet {v p rule w back : Int32} (h : Bo G L M S S' th u n s) (hp : ∀ G' n', Bo G' L M (q_walkSet S v p rule w back).2.2 S' th u n' s → ((q_walkSet S v p rule w back).1 = 0 → n' = (q_walkSet S v p rule w back).2.1.toInt64) → post (nI (q_walkSet S v p rule w back).1) G') : w_L_walkSet K post (some L.1) v p rule w back (some u) G :=
  c_rcv h.1 (c_walkSet h.1 (L_res (a := q_walkSet S v p rule w back) h (sp_li_lt (Nat.le_of_ble_eq_true rfl) (fun _ _ _ => if_lt (Nat.le_of_ble_eq_true rfl) (Nat.le_of_ble_eq_true rfl))) hp))
theorem Lm_walkSet {v p rule w back : Int32} (h : Bo G L M S S' th u n s) (hp : ∀ G' M', M'.1 = M.1 → Bo G' L M' S (q_walkSet S' v p rule w back).2.2 (nI (q_walkSet S' v p rule w back).1) u n s → post (q_walkSet S' v p rule w back).2.1 G') : rcv G (some M.1.1) 5 (w_X3_walkSet K post (some M.1.1) v p rule w back G) :=
  m_rcv h.2.1 (m_walkSet h.2.1 (L_mod (a := q_walkSet S' v p rule w back) h hp))
theorem Lc_replaceAll {v rule w : Int32} (h : Bo G L M S S' th u n s) (hp : ∀ G' n', Bo G' L M (q_replaceAll S v rule w).2.2 S' th u n' s → ((q_replaceAll S v rule w).1 = 0 → n' = (q_replaceAll S v rule w).2.1.toInt64) → post (nI (q_replaceAll S v rule w).1) G') : w_L_replaceAll K post (some L.1) v rule w (some u) G :=
  c_rcv h.1 (c_replaceAll h.1 (L_res (a := q_replaceAll S v rule w) h (sp_li_lt (Nat.le_of_ble_eq_true rfl) (fun _ _ _ => if_lt (Nat.le_of_ble_eq_true rfl) (Nat.le_of_ble_eq_true rfl))) hp))
theorem Lm_replaceAll {v rule w : Int32} (h : Bo G L M S S' th u n s) (hp : ∀ G' M', M'.1 = M.1 → Bo G' L M' S (q_replaceAll S' v rule w).2.2 (nI (q_replaceAll S' v rule w).1) u n s → post (q_replaceAll S' v rule w).2.1 G') : rcv G (some M.1.1) 5 (w_X3_replaceAll K post (some M.1.1) v rule w G) :=
  m_rcv h.2.1 (m_replaceAll h.2.1 (L_mod (a := q_replaceAll S' v rule w) h hp))
theorem Lc_replaceOld {v y x : Int32} (h : Bo G L M S S' th u n s) (hp : ∀ G' n', Bo G' L M (q_replaceOld S v y x).2.2 S' th u n' s → ((q_replaceOld S v y x).1 = 0 → n' = (q_replaceOld S v y x).2.1.toInt64) → post (nI (q_replaceOld S v y x).1) G') : w_L_replaceOld K post (some L.1) v y x (some u) G :=
  c_rcv h.1 (c_replaceOld h.1 (L_res (a := q_replaceOld S v y x) h (sp_li_lt (Nat.le_of_ble_eq_true rfl) (fun _ _ _ => if_lt (Nat.le_of_ble_eq_true rfl) (Nat.le_of_ble_eq_true rfl))) hp))
theorem Lm_replaceOld {v y x : Int32} (h : Bo G L M S S' th u n s) (hp : ∀ G' M', M'.1 = M.1 → Bo G' L M' S (q_replaceOld S' v y x).2.2 (nI (q_replaceOld S' v y x).1) u n s → post (q_replaceOld S' v y x).2.1 G') : rcv G (some M.1.1) 5 (w_X3_replaceOld K post (some M.1.1) v y x G) :=
  m_rcv h.2.1 (m_replaceOld h.2.1 (L_mod (a := q_replaceOld S' v y x) h hp))
theorem Lc_fill {v x : Int32} (h : Bo G L M S S' th u n s) (hp : ∀ G' n', Bo G' L M (q_fill S v x).2.2 S' th u n' s → ((q_fill S v x).1 = 0 → n' = (q_fill S v x).2.1.toInt64) → post (nI (q_fill S v x).1) G') : w_L_fill K post (some L.1) v x (some u) G :=
  c_rcv h.1 (c_fill h.1 (L_res (a := q_fill S v x) h (sp_li_lt (Nat.le_of_ble_eq_true rfl) (fun _ _ _ => if_lt (Nat.le_of_ble_eq_true rfl) (Nat.le_of_ble_eq_true rfl))) hp))
theorem Lm_fill {v x : Int32} (h : Bo G L M S S' th u n s) (hp : ∀ G' M', M'.1 = M.1 → Bo G' L M' S (q_fill S' v x).2.2 (nI (q_fill S' v x).1) u n s → post (q_fill S' v x).2.1 G') : rcv G (some M.1.1) 5 (w_X3_fill K post (some M.1.1) v x G) :=
  m_rcv h.2.1 (m_fill h.2.1 (L_mod (a := q_fill S' v x) h hp))
theorem Lc_sort {v fall : Int32} (h : Bo G L M S S' th u n s) (hp : ∀ G' n', Bo G' L M (q_sort S v fall).2.2 S' th u n' s → ((q_sort S v fall).1 = 0 → n' = (q_sort S v fall).2.1.toInt64) → post (nI (q_sort S v fall).1) G') : w_L_sort K post (some L.1) v fall (some u) G :=
  c_rcv h.1 (c_sort h.1 (L_res1 (a := q_sort S v fall) h (sp_li_lt (Nat.le_of_ble_eq_true rfl) (fun _ _ _ => (Nat.le_of_ble_eq_true rfl))) hp))
theorem Lm_sort {v fall : Int32} (h : Bo G L M S S' th u n s) (hp : ∀ G' M', M'.1 = M.1 → Bo G' L M' S (q_sort S' v fall).2.2 (nI (q_sort S' v fall).1) u n s → post (q_sort S' v fall).2.1 G') : rcv G (some M.1.1) 5 (w_X3_sort K post (some M.1.1) v fall G) :=
  m_rcv h.2.1 (m_sort h.2.1 (L_mod (a := q_sort S' v fall) h hp))
theorem Lc_reverse {v : Int32} (h : Bo G L M S S' th u n s) (hp : ∀ G' n', Bo G' L M (q_reverse S v).2.2 S' th u n' s → ((q_reverse S v).1 = 0 → n' = (q_reverse S v).2.1.toInt64) → post (nI (q_reverse S v).1) G') : w_L_reverse K post (some L.1) v (some u) G :=
  c_rcv h.1 (c_reverse h.1 (L_res1 (a := q_reverse S v) h (sp_li_lt (Nat.le_of_ble_eq_true rfl) (fun _ _ _ => (Nat.le_of_ble_eq_true rfl))) hp))
theorem Lm_reverse {v : Int32} (h : Bo G L M S S' th u n s) (hp : ∀ G' M', M'.1 = M.1 → Bo G' L M' S (q_reverse S' v).2.2 (nI (q_reverse S' v).1) u n s → post (q_reverse S' v).2.1 G') : rcv G (some M.1.1) 5 (w_X3_reverse K post (some M.1.1) v G) :=
  m_rcv h.2.1 (m_reverse h.2.1 (L_mod (a := q_reverse S' v) h hp))
theorem Lc_rotate {v x : Int32} (h : Bo G L M S S' th u n s) (hp : ∀ G' n', Bo G' L M (q_rotate S v x).2.2 S' th u n' s → ((q_rotate S v x).1 = 0 → n' = (q_rotate S v x).2.1.toInt64) → post (nI (q_rotate S v x).1) G') : w_L_rotate K post (some L.1) v x (some u) G :=
  c_rcv h.1 (c_rotate h.1 (L_res (a := q_rotate S v x) h (sp_li_lt (Nat.le_of_ble_eq_true rfl) (fun _ _ _ => if_lt (Nat.le_of_ble_eq_true rfl) (Nat.le_of_ble_eq_true rfl))) hp))
theorem Lm_rotate {v x : Int32} (h : Bo G L M S S' th u n s) (hp : ∀ G' M', M'.1 = M.1 → Bo G' L M' S (q_rotate S' v x).2.2 (nI (q_rotate S' v x).1) u n s → post (q_rotate S' v x).2.1 G') : rcv G (some M.1.1) 5 (w_X3_rotate K post (some M.1.1) v x G) :=
  m_rcv h.2.1 (m_rotate h.2.1 (L_mod (a := q_rotate S' v x) h hp))
theorem Lc_swap {v w x : Int32} (h : Bo G L M S S' th u n s) (hp : ∀ G' n', Bo G' L M (q_swap S v w x).2.2 S' th u n' s → ((q_swap S v w x).1 = 0 → n' = (q_swap S v w x).2.1.toInt64) → post (nI (q_swap S v w x).1) G') : w_L_swap K post (some L.1) v w x (some u) G :=
  c_rcv h.1 (c_swap h.1 (L_res1 (a := q_swap S v w x) h (sp_at_lt (Nat.le_of_ble_eq_true rfl) (fun _ _ _ _ => if_lt (Nat.le_of_ble_eq_true rfl) (Nat.le_of_ble_eq_true rfl))) hp))
theorem Lm_swap {v w x : Int32} (h : Bo G L M S S' th u n s) (hp : ∀ G' M', M'.1 = M.1 → Bo G' L M' S (q_swap S' v w x).2.2 (nI (q_swap S' v w x).1) u n s → post (q_swap S' v w x).2.1 G') : rcv G (some M.1.1) 5 (w_X3_swap K post (some M.1.1) v w x G) :=
  m_rcv h.2.1 (m_swap h.2.1 (L_mod (a := q_swap S' v w x) h hp))
theorem Lc_add {v x : Int32} (h : Bo G L M S S' th u n s) (hp : ∀ G' n', Bo G' L M (q_add S v x).2.2 S' th u n' s → ((q_add S v x).1 = 0 → n' = (q_add S v x).2.1.toInt64) → post (nI (q_add S v x).1) G') : w_L_add K post (some L.1) v x (some u) G :=
  c_rcv h.1 (c_add h.1 (L_res (a := q_add S v x) h (sp_li_lt (Nat.le_of_ble_eq_true rfl) (fun _ _ _ => if_lt (Nat.le_of_ble_eq_true rfl) (Nat.le_of_ble_eq_true rfl))) hp))
theorem Lm_add {v x : Int32} (h : Bo G L M S S' th u n s) (hp : ∀ G' M', M'.1 = M.1 → Bo G' L M' S (q_add S' v x).2.2 (nI (q_add S' v x).1) u n s → post (q_add S' v x).2.1 G') : rcv G (some M.1.1) 5 (w_X3_add K post (some M.1.1) v x G) :=
  m_rcv h.2.1 (m_add h.2.1 (L_mod (a := q_add S' v x) h hp))
theorem Lc_addAt {v w x : Int32} (h : Bo G L M S S' th u n s) (hp : ∀ G' n', Bo G' L M (q_addAt S v w x).2.2 S' th u n' s → ((q_addAt S v w x).1 = 0 → n' = (q_addAt S v w x).2.1.toInt64) → post (nI (q_addAt S v w x).1) G') : w_L_addAt K post (some L.1) v w x (some u) G :=
  c_rcv h.1 (c_addAt h.1 (L_res (a := q_addAt S v w x) h (sp_li_lt (Nat.le_of_ble_eq_true rfl) (fun _ _ _ => if_lt (Nat.le_of_ble_eq_true rfl) (Nat.le_of_ble_eq_true rfl))) hp))
theorem Lm_addAt {v w x : Int32} (h : Bo G L M S S' th u n s) (hp : ∀ G' M', M'.1 = M.1 → Bo G' L M' S (q_addAt S' v w x).2.2 (nI (q_addAt S' v w x).1) u n s → post (q_addAt S' v w x).2.1 G') : rcv G (some M.1.1) 5 (w_X3_addAt K post (some M.1.1) v w x G) :=
  m_rcv h.2.1 (m_addAt h.2.1 (L_mod (a := q_addAt S' v w x) h hp))
theorem Lc_addAll {v w : Int32} (h : Bo G L M S S' th u n s) (hp : ∀ G' n', Bo G' L M (q_addAll S v w).2.2 S' th u n' s → ((q_addAll S v w).1 = 0 → n' = (q_addAll S v w).2.1.toInt64) → post (nI (q_addAll S v w).1) G') : w_L_addAll K post (some L.1) v w (some u) G :=
  c_rcv h.1 (c_addAll h.1 (L_res1 (a := q_addAll S v w) h (sp_2_lt (Nat.le_of_ble_eq_true rfl) (fun _ _ _ _ _ _ => if_lt (Nat.le_of_ble_eq_true rfl) (Nat.le_of_ble_eq_true rfl))) hp))
theorem Lm_addAll {v w : Int32} (h : Bo G L M S S' th u n s) (hp : ∀ G' M', M'.1 = M.1 → Bo G' L M' S (q_addAll S' v w).2.2 (nI (q_addAll S' v w).1) u n s → post (q_addAll S' v w).2.1 G') : rcv G (some M.1.1) 5 (w_X3_addAll K post (some M.1.1) v w G) :=
  m_rcv h.2.1 (m_addAll h.2.1 (L_mod (a := q_addAll S' v w) h hp))
theorem Lc_remove {v w : Int32} (h : Bo G L M S S' th u n s) (hp : ∀ G' n', Bo G' L M (q_remove S v w).2.2 S' th u n' s → ((q_remove S v w).1 = 0 → n' = (q_remove S v w).2.1.toInt64) → post (nI (q_remove S v w).1) G') : w_L_remove K post (some L.1) v w (some u) G :=
  c_rcv h.1 (c_remove h.1 (L_res1 (a := q_remove S v w) h (sp_at_lt (Nat.le_of_ble_eq_true rfl) (fun _ _ _ _ => (Nat.le_of_ble_eq_true rfl))) hp))
theorem Lm_remove {v w : Int32} (h : Bo G L M S S' th u n s) (hp : ∀ G' M', M'.1 = M.1 → Bo G' L M' S (q_remove S' v w).2.2 (nI (q_remove S' v w).1) u n s → post (q_remove S' v w).2.1 G') : rcv G (some M.1.1) 5 (w_X3_remove K post (some M.1.1) v w G) :=
  m_rcv h.2.1 (m_remove h.2.1 (L_mod (a := q_remove S' v w) h hp))
theorem Lc_removeValue {v x : Int32} (h : Bo G L M S S' th u n s) (hp : ∀ G' n', Bo G' L M (q_removeValue S v x).2.2 S' th u n' s → ((q_removeValue S v x).1 = 0 → n' = (q_removeValue S v x).2.1.toInt64) → post (nI (q_removeValue S v x).1) G') : w_L_removeValue K post (some L.1) v x (some u) G :=
  c_rcv h.1 (c_removeValue h.1 (L_res (a := q_removeValue S v x) h (sp_li_lt (Nat.le_of_ble_eq_true rfl) (fun _ _ _ => if_lt (if_lt (Nat.le_of_ble_eq_true rfl) (Nat.le_of_ble_eq_true rfl)) (Nat.le_of_ble_eq_true rfl))) hp))
theorem Lm_removeValue {v x : Int32} (h : Bo G L M S S' th u n s) (hp : ∀ G' M', M'.1 = M.1 → Bo G' L M' S (q_removeValue S' v x).2.2 (nI (q_removeValue S' v x).1) u n s → post (q_removeValue S' v x).2.1 G') : rcv G (some M.1.1) 5 (w_X3_removeValue K post (some M.1.1) v x G) :=
  m_rcv h.2.1 (m_removeValue h.2.1 (L_mod (a := q_removeValue S' v x) h hp))
theorem Lc_removeAll {v w : Int32} (h : Bo G L M S S' th u n s) (hp : ∀ G' n', Bo G' L M (q_removeAll S v w).2.2 S' th u n' s → ((q_removeAll S v w).1 = 0 → n' = (q_removeAll S v w).2.1.toInt64) → post (nI (q_removeAll S v w).1) G') : w_L_removeAll K post (some L.1) v w (some u) G :=
  c_rcv h.1 (c_removeAll h.1 (L_res1 (a := q_removeAll S v w) h (sp_2_lt (Nat.le_of_ble_eq_true rfl) (fun _ _ _ _ _ _ => if_lt (Nat.le_of_ble_eq_true rfl) (Nat.le_of_ble_eq_true rfl))) hp))
theorem Lm_removeAll {v w : Int32} (h : Bo G L M S S' th u n s) (hp : ∀ G' M', M'.1 = M.1 → Bo G' L M' S (q_removeAll S' v w).2.2 (nI (q_removeAll S' v w).1) u n s → post (q_removeAll S' v w).2.1 G') : rcv G (some M.1.1) 5 (w_X3_removeAll K post (some M.1.1) v w G) :=
  m_rcv h.2.1 (m_removeAll h.2.1 (L_mod (a := q_removeAll S' v w) h hp))
theorem Lc_retainAll {v w : Int32} (h : Bo G L M S S' th u n s) (hp : ∀ G' n', Bo G' L M (q_retainAll S v w).2.2 S' th u n' s → ((q_retainAll S v w).1 = 0 → n' = (q_retainAll S v w).2.1.toInt64) → post (nI (q_retainAll S v w).1) G') : w_L_retainAll K post (some L.1) v w (some u) G :=
  c_rcv h.1 (c_retainAll h.1 (L_res1 (a := q_retainAll S v w) h (sp_2_lt (Nat.le_of_ble_eq_true rfl) (fun _ _ _ _ _ _ => if_lt (Nat.le_of_ble_eq_true rfl) (Nat.le_of_ble_eq_true rfl))) hp))
theorem Lm_retainAll {v w : Int32} (h : Bo G L M S S' th u n s) (hp : ∀ G' M', M'.1 = M.1 → Bo G' L M' S (q_retainAll S' v w).2.2 (nI (q_retainAll S' v w).1) u n s → post (q_retainAll S' v w).2.1 G') : rcv G (some M.1.1) 5 (w_X3_retainAll K post (some M.1.1) v w G) :=
  m_rcv h.2.1 (m_retainAll h.2.1 (L_mod (a := q_retainAll S' v w) h hp))
theorem Lc_removeIf {v t w : Int32} (h : Bo G L M S S' th u n s) (hp : ∀ G' n', Bo G' L M (q_removeIf S v t w).2.2 S' th u n' s → ((q_removeIf S v t w).1 = 0 → n' = (q_removeIf S v t w).2.1.toInt64) → post (nI (q_removeIf S v t w).1) G') : w_L_removeIf K post (some L.1) v t w (some u) G :=
  c_rcv h.1 (c_removeIf h.1 (L_res (a := q_removeIf S v t w) h (sp_li_lt (Nat.le_of_ble_eq_true rfl) (fun _ _ _ => if_lt (if_lt (Nat.le_of_ble_eq_true rfl) (Nat.le_of_ble_eq_true rfl)) (Nat.le_of_ble_eq_true rfl))) hp))
theorem Lm_removeIf {v t w : Int32} (h : Bo G L M S S' th u n s) (hp : ∀ G' M', M'.1 = M.1 → Bo G' L M' S (q_removeIf S' v t w).2.2 (nI (q_removeIf S' v t w).1) u n s → post (q_removeIf S' v t w).2.1 G') : rcv G (some M.1.1) 5 (w_X3_removeIf K post (some M.1.1) v t w G) :=
  m_rcv h.2.1 (m_removeIf h.2.1 (L_mod (a := q_removeIf S' v t w) h hp))
theorem Lc_clear {v : Int32} (h : Bo G L M S S' th u n s) (hp : ∀ G' n', Bo G' L M (q_clear S v).2.2 S' th u n' s → ((q_clear S v).1 = 0 → n' = (q_clear S v).2.1.toInt64) → post (nI (q_clear S v).1) G') : w_L_clear K post (some L.1) v (some u) G :=
  c_rcv h.1 (c_clear h.1 (L_res1 (a := q_clear S v) h (sp_li_lt (Nat.le_of_ble_eq_true rfl) (fun _ _ _ => if_lt (Nat.le_of_ble_eq_true rfl) (Nat.le_of_ble_eq_true rfl))) hp))
theorem Lm_clear {v : Int32} (h : Bo G L M S S' th u n s) (hp : ∀ G' M', M'.1 = M.1 → Bo G' L M' S (q_clear S' v).2.2 (nI (q_clear S' v).1) u n s → post (q_clear S' v).2.1 G') : rcv G (some M.1.1) 5 (w_X3_clear K post (some M.1.1) v G) :=
  m_rcv h.2.1 (m_clear h.2.1 (L_mod (a := q_clear S' v) h hp))
theorem Lc_walkChange {v w x : Int32} (h : Bo G L M S S' th u n s) (hp : ∀ G' n', Bo G' L M (q_walkChange S v w x).2.2 S' th u n' s → ((q_walkChange S v w x).1 = 0 → n' = (q_walkChange S v w x).2.1.toInt64) → post (nI (q_walkChange S v w x).1) G') : w_L_walkChange K post (some L.1) v w x (some u) G :=
  c_rcv h.1 (c_walkChange h.1 (L_res (a := q_walkChange S v w x) h (sp_at_lt (Nat.le_of_ble_eq_true rfl) (fun _ _ _ _ => if_lt (Nat.le_of_ble_eq_true rfl) (Nat.le_of_ble_eq_true rfl))) hp))
theorem Lm_walkChange {v w x : Int32} (h : Bo G L M S S' th u n s) (hp : ∀ G' M', M'.1 = M.1 → Bo G' L M' S (q_walkChange S' v w x).2.2 (nI (q_walkChange S' v w x).1) u n s → post (q_walkChange S' v w x).2.1 G') : rcv G (some M.1.1) 5 (w_X3_walkChange K post (some M.1.1) v w x G) :=
  m_rcv h.2.1 (m_walkChange h.2.1 (L_mod (a := q_walkChange S' v w x) h hp))
def q_house (S : tS) (v : Int32) : tA := if inR v 0 3 then (0, hoF S v, S) else (1, 0, S)
def q_rowOf (S : tS) (v : Int32) : tA := if inR v 0 6 then (0, ro1 (S_at S v), S) else (1, 0, S)
def q_begin (S : tS) (v : Int32) : tA := if inR v 0 6 then (0, be1 (S_at S v), S) else (1, 0, S)
theorem Lc_house {v : Int32} (h : Bo G L M S S' th u n s) (hp : ∀ G' n', Bo G' L M (q_house S v).2.2 S' th u n' s → ((q_house S v).1 = 0 → n' = (q_house S v).2.1.toInt64) → post (nI (q_house S v).1) G') : w_L_house K post (some L.1) v (some u) G := by
  refine c_rcv h.1 (c_house h.1 ?_)
  unfold q_house at hp
  by_cases c : inR v 0 3
  · rw [if_pos c]
    simp only [if_pos c] at hp
    exact L_res2 (a := (0, hoF S v, S)) h (Or.inl rfl) (fun G' n' h1 h2 => hp G' n' h1 (fun _ => h2 rfl))
  · rw [if_neg c]
    simp only [if_neg c] at hp
    exact L_res2 (a := (2, 0, S)) h (Or.inr rfl) (fun G' n' h1 h2 => hp G' n' h1 (fun z => absurd z (by decide)))
theorem Lm_house {v : Int32} (h : Bo G L M S S' th u n s) (hp : ∀ G' M', M'.1 = M.1 → Bo G' L M' S (q_house S' v).2.2 (nI (q_house S' v).1) u n s → post (q_house S' v).2.1 G') : rcv G (some M.1.1) 5 (w_X3_house K post (some M.1.1) v G) :=
  m_rcv h.2.1 (m_house h.2.1 (L_mod (a := q_house S' v) h hp))
theorem Lc_rowOf {v : Int32} (h : Bo G L M S S' th u n s) (hp : ∀ G' n', Bo G' L M (q_rowOf S v).2.2 S' th u n' s → ((q_rowOf S v).1 = 0 → n' = (q_rowOf S v).2.1.toInt64) → post (nI (q_rowOf S v).1) G') : w_L_rowOf K post (some L.1) v (some u) G := by
  refine c_rcv h.1 (c_rowOf h.1 ?_)
  unfold q_rowOf at hp
  by_cases c : inR v 0 6
  · rw [if_pos c]
    simp only [if_pos c] at hp
    exact L_res2 (a := (0, ro1 (S_at S v), S)) h (Or.inl rfl) (fun G' n' h1 h2 => hp G' n' h1 (fun _ => h2 rfl))
  · rw [if_neg c]
    simp only [if_neg c] at hp
    exact L_res2 (a := (2, 0, S)) h (Or.inr rfl) (fun G' n' h1 h2 => hp G' n' h1 (fun z => absurd z (by decide)))
theorem Lm_rowOf {v : Int32} (h : Bo G L M S S' th u n s) (hp : ∀ G' M', M'.1 = M.1 → Bo G' L M' S (q_rowOf S' v).2.2 (nI (q_rowOf S' v).1) u n s → post (q_rowOf S' v).2.1 G') : rcv G (some M.1.1) 5 (w_X3_rowOf K post (some M.1.1) v G) :=
  m_rcv h.2.1 (m_rowOf h.2.1 (L_mod (a := q_rowOf S' v) h hp))
theorem Lc_begin {v : Int32} (h : Bo G L M S S' th u n s) (hp : ∀ G' n', Bo G' L M (q_begin S v).2.2 S' th u n' s → ((q_begin S v).1 = 0 → n' = (q_begin S v).2.1.toInt64) → post (nI (q_begin S v).1) G') : w_L_begin K post (some L.1) v (some u) G := by
  refine c_rcv h.1 (c_begin h.1 ?_)
  unfold q_begin at hp
  by_cases c : inR v 0 6
  · rw [if_pos c]
    simp only [if_pos c] at hp
    exact L_res2 (a := (0, be1 (S_at S v), S)) h (Or.inl rfl) (fun G' n' h1 h2 => hp G' n' h1 (fun _ => h2 rfl))
  · rw [if_neg c]
    simp only [if_neg c] at hp
    exact L_res2 (a := (2, 0, S)) h (Or.inr rfl) (fun G' n' h1 h2 => hp G' n' h1 (fun z => absurd z (by decide)))
theorem Lm_begin {v : Int32} (h : Bo G L M S S' th u n s) (hp : ∀ G' M', M'.1 = M.1 → Bo G' L M' S (q_begin S' v).2.2 (nI (q_begin S' v).1) u n s → post (q_begin S' v).2.1 G') : rcv G (some M.1.1) 5 (w_X3_begin K post (some M.1.1) v G) :=
  m_rcv h.2.1 (m_begin h.2.1 (L_mod (a := q_begin S' v) h hp))
def S_kn1 (S : tS) : tS := (S.1, S.2.1, S.2.2.1 + 1, S.2.2.2)
theorem Lc_knock (h : Bo G L M S S' th u n s) (hp : ∀ G', Bo G' L M (S_kn1 S) S' th u n s → post (S.2.2.1 + 1) G') : rcv G (some L.1) 3 (w_X1_knock K post (some L.1) G) :=
  c_rcv h.1 (c_knock h.1 (fun G' f h' => hp G' (Bo_cls h f h')))
theorem Lm_knock (h : Bo G L M S S' th u n s) (hp : ∀ G', Bo G' L M S (S_kn1 S') 0 u n s → post (S'.2.2.1 + 1) G') : rcv G (some M.1.1) 5 (w_X3_knock K post (some M.1.1) G) :=
  m_rcv h.2.1 (m_knock h.2.1 (fun G' f h' => hp G' (Bo_mod h f (fun _ z => Or.inl z) h')))
theorem Lc_isSound (h : Bo G L M S S' th u n s) (hp : ∀ G', Bo G' L M S S' th u n s → post 1 G') : rcv G (some L.1) 3 (w_X1_isSound K post (some L.1) G) :=
  c_rcv h.1 (c_isSound h.1 (fun G' f h' => hp G' (Bo_cls h f h')))
theorem Lm_isSound (h : Bo G L M S S' th u n s) (hp : ∀ G', Bo G' L M S S' 0 u n s → post 1 G') : rcv G (some M.1.1) 5 (w_X3_isSound K post (some M.1.1) G) :=
  m_rcv h.2.1 (m_isSound h.2.1 (fun G' f h' => hp G' (Bo_mod h f (fun _ z => Or.inl z) h')))
theorem Lc_digest {pl : Int64 → tG → Prop} {px : String → tG → Prop} (h : Bo G L M S S' th u n s) (hp : ∀ G', Bo G' L M S S' th u n s → pl (diF S) G') : rcv G (some L.1) 3 (w_X1_digest K pl px (some L.1) G) :=
  c_rcv h.1 (c_digest h.1 (fun G' f h' => hp G' (Bo_cls h f h')))
theorem Lm_digest {pl : Int64 → tG → Prop} (h : Bo G L M S S' th u n s) (hp : ∀ G', Bo G' L M S S' 0 u n s → pl (diF S') G') : rcv G (some M.1.1) 5 (w_X3_digest K pl (some M.1.1) G) :=
  m_rcv h.2.1 (m_digest h.2.1 (fun G' f h' => hp G' (Bo_mod h f (fun _ z => Or.inl z) h')))
end BOB
