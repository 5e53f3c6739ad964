/-! the law: its loop, its start -/
theorem sl {xL : Nat} {xs : Nat → Int32} {i0 : Nat} {P : Int32 → Prop} (hi : i0 + 6 ≤ xL) (hx : xL ≤ 3072) (k : Nat) (hk : k < 6) (hp : P (xs (i0 + k))) : sld xL xs (nI i0 + nI k) P :=
  ⟨i0 + k, by rw [nI_add]; exact nI_toInt (by omega), by omega, hp⟩
theorem lg_self (x : Int64) : lg_cmp x x = 0 := by unfold lg_cmp; simp
theorem nI_z0 {a : Nat} (h : a < 3) (hz : nI a = 0) : a = 0 := (nI_eq (b := 0) (by omega) (by omega)).mp hz
theorem m_thr {K : tK} {G : tG} {M M2 : tM} {S : tS} {th : Int32} {post : Int32 → tG → Prop} (h : MoR G M2 S th) (e : M2.1 = M.1) (hp : post th G) : rcv G (some M.1.1) 5 (w_X3_thrown K post (some M.1.1) G) := by
  obtain ⟨-, ⟨sm, h2⟩, -⟩ := h
  rw [e] at h2
  exact rcv_i h2 (gfI_i h2 rfl hp)
def LK (k27 : Nat → Nat → Option Nat → Option Nat → Option Nat → Int32 → tG → Prop) (L : tL) (m0 u i0 nc ns : Nat) : Prop := ∀ (nc' ns' : Nat) (G' : tG) (M' : tM) (S' : tS) (th' : Int32) (n' : Int64) (s' : Value), Bo G' L M' S' S' th' u n' s' → M'.1.1 = m0 → nc' ≤ nc + 300 → ns' ≤ ns + 7000 → k27 nc' ns' (some L.1) (some m0) (some u) (nI (i0 + 6)) G' 
theorem law_end {K : tK} {xL : Nat} {xs : Nat → Int32} {k27 : Nat → Nat → Option Nat → Option Nat → Option Nat → Int32 → tG → Prop} {L : tL} {M M' : tM} {u i0 nc ns nc' ns' : Nat} {G' : tG} {S' : tS} {th' : Int32} {n' : Int64} {s' : Value} (hk : LK k27 L M.1.1 u i0 nc ns) (hB : Bo G' L M' S' S' th' u n' s') (e : M'.1 = M.1) (h1 : nc' ≤ nc + 300) (h2 : ns' ≤ ns + 7000) : w_L_law_3312 K xL xs k27 nc' ns' (some L.1) (some M.1.1) (some u) (nI i0) G' := by
  show k27 nc' ns' (some L.1) (some M.1.1) (some u) (nI i0 + 6) G'
  rw [show nI i0 + (6 : Int32) = nI (i0 + 6) from nI_add i0 6]
  exact hk nc' ns' G' M' S' th' n' s' hB (by rw [e]) h1 h2
theorem q3_add (S : tS) (v x : Int32) : (q_add S v x).1 < 3 := sp_li_lt (Nat.le_of_ble_eq_true rfl) (fun _ _ _ => if_lt (Nat.le_of_ble_eq_true rfl) (Nat.le_of_ble_eq_true rfl))
theorem q3_addAll (S : tS) (v w : Int32) : (q_addAll S v w).1 < 3 := sp_2_lt (Nat.le_of_ble_eq_true rfl) (fun _ _ _ _ _ _ => if_lt (Nat.le_of_ble_eq_true rfl) (Nat.le_of_ble_eq_true rfl))
theorem q3_addAt (S : tS) (v w x : Int32) : (q_addAt S v w x).1 < 3 := sp_li_lt (Nat.le_of_ble_eq_true rfl) (fun _ _ _ => if_lt (Nat.le_of_ble_eq_true rfl) (Nat.le_of_ble_eq_true rfl))
theorem q3_areApart (S : tS) (v w : Int32) : (q_areApart S v w).1 < 3 := sp_2_lt (Nat.le_of_ble_eq_true rfl) (fun _ _ _ _ _ _ => (Nat.le_of_ble_eq_true rfl))
theorem q3_areEqual (S : tS) (v w : Int32) : (q_areEqual S v w).1 < 3 := sp_2_lt (Nat.le_of_ble_eq_true rfl) (fun _ _ _ _ _ _ => (Nat.le_of_ble_eq_true rfl))
theorem q3_at (S : tS) (v w : Int32) : (q_at S v w).1 < 3 := sp_at_lt (Nat.le_of_ble_eq_true rfl) (fun _ _ _ _ => (Nat.le_of_ble_eq_true rfl))
theorem q3_begin (S : tS) (v : Int32) : (q_begin S v).1 < 3 := if_lt (Nat.le_of_ble_eq_true rfl) (Nat.le_of_ble_eq_true rfl)
theorem q3_clear (S : tS) (v : Int32) : (q_clear S v).1 < 3 := sp_li_lt (Nat.le_of_ble_eq_true rfl) (fun _ _ _ => if_lt (Nat.le_of_ble_eq_true rfl) (Nat.le_of_ble_eq_true rfl))
theorem q3_code (S : tS) (v : Int32) : (q_code S v).1 < 3 := sp_li_lt (Nat.le_of_ble_eq_true rfl) (fun _ _ _ => (Nat.le_of_ble_eq_true rfl))
theorem q3_fill (S : tS) (v x : Int32) : (q_fill S v x).1 < 3 := sp_li_lt (Nat.le_of_ble_eq_true rfl) (fun _ _ _ => if_lt (Nat.le_of_ble_eq_true rfl) (Nat.le_of_ble_eq_true rfl))
theorem q3_get (S : tS) (v w : Int32) : (q_get S v w).1 < 3 := sp_at_lt (Nat.le_of_ble_eq_true rfl) (fun _ _ _ _ => (Nat.le_of_ble_eq_true rfl))
theorem q3_has (S : tS) (v x : Int32) : (q_has S v x).1 < 3 := sp_li_lt (Nat.le_of_ble_eq_true rfl) (fun _ _ _ => if_lt (Nat.le_of_ble_eq_true rfl) (Nat.le_of_ble_eq_true rfl))
theorem q3_hasAll (S : tS) (v w : Int32) : (q_hasAll S v w).1 < 3 := sp_2_lt (Nat.le_of_ble_eq_true rfl) (fun _ _ _ _ _ _ => (Nat.le_of_ble_eq_true rfl))
theorem q3_house (S : tS) (v : Int32) : (q_house S v).1 < 3 := if_lt (Nat.le_of_ble_eq_true rfl) (Nat.le_of_ble_eq_true rfl)
theorem q3_indexOf (S : tS) (v x : Int32) : (q_indexOf S v x).1 < 3 := sp_li_lt (Nat.le_of_ble_eq_true rfl) (fun _ _ _ => if_lt (Nat.le_of_ble_eq_true rfl) (Nat.le_of_ble_eq_true rfl))
theorem q3_indexOfAll (S : tS) (v w : Int32) : (q_indexOfAll S v w).1 < 3 := sp_2_lt (Nat.le_of_ble_eq_true rfl) (fun _ _ _ _ _ _ => (Nat.le_of_ble_eq_true rfl))
theorem q3_isEmpty (S : tS) (v : Int32) : (q_isEmpty S v).1 < 3 := sp_li_lt (Nat.le_of_ble_eq_true rfl) (fun _ _ _ => (Nat.le_of_ble_eq_true rfl))
theorem q3_lastIndexOf (S : tS) (v x : Int32) : (q_lastIndexOf S v x).1 < 3 := sp_li_lt (Nat.le_of_ble_eq_true rfl) (fun _ _ _ => if_lt (Nat.le_of_ble_eq_true rfl) (Nat.le_of_ble_eq_true rfl))
theorem q3_lay (S : tS) (v w : Int32) : (q_lay S v w).1 < 3 := sp_lay_lt S v w
theorem q3_length (S : tS) (v : Int32) : (q_length S v).1 < 3 := sp_li_lt (Nat.le_of_ble_eq_true rfl) (fun _ _ _ => (Nat.le_of_ble_eq_true rfl))
theorem q3_often (S : tS) (v x : Int32) : (q_often S v x).1 < 3 := sp_li_lt (Nat.le_of_ble_eq_true rfl) (fun _ _ _ => if_lt (Nat.le_of_ble_eq_true rfl) (Nat.le_of_ble_eq_true rfl))
theorem q3_part (S : tS) (p v x y : Int32) : (q_part S p v x y).1 < 3 := sp_part_lt S p v x y
theorem q3_put (S : tS) (v w x : Int32) : (q_put S v w x).1 < 3 := sp_at_lt (Nat.le_of_ble_eq_true rfl) (fun _ _ _ _ => if_lt (Nat.le_of_ble_eq_true rfl) (Nat.le_of_ble_eq_true rfl))
theorem q3_remove (S : tS) (v w : Int32) : (q_remove S v w).1 < 3 := sp_at_lt (Nat.le_of_ble_eq_true rfl) (fun _ _ _ _ => (Nat.le_of_ble_eq_true rfl))
theorem q3_removeAll (S : tS) (v w : Int32) : (q_removeAll S v w).1 < 3 := sp_2_lt (Nat.le_of_ble_eq_true rfl) (fun _ _ _ _ _ _ => if_lt (Nat.le_of_ble_eq_true rfl) (Nat.le_of_ble_eq_true rfl))
theorem q3_removeIf (S : tS) (v t w : Int32) : (q_removeIf S v t w).1 < 3 := sp_li_lt (Nat.le_of_ble_eq_true rfl) (fun _ _ _ => if_lt (if_lt (Nat.le_of_ble_eq_true rfl) (Nat.le_of_ble_eq_true rfl)) (Nat.le_of_ble_eq_true rfl))
theorem q3_removeValue (S : tS) (v x : Int32) : (q_removeValue S v x).1 < 3 := sp_li_lt (Nat.le_of_ble_eq_true rfl) (fun _ _ _ => if_lt (if_lt (Nat.le_of_ble_eq_true rfl) (Nat.le_of_ble_eq_true rfl)) (Nat.le_of_ble_eq_true rfl))
theorem q3_replaceAll (S : tS) (v rule w : Int32) : (q_replaceAll S v rule w).1 < 3 := sp_li_lt (Nat.le_of_ble_eq_true rfl) (fun _ _ _ => if_lt (Nat.le_of_ble_eq_true rfl) (Nat.le_of_ble_eq_true rfl))
theorem q3_replaceOld (S : tS) (v y x : Int32) : (q_replaceOld S v y x).1 < 3 := sp_li_lt (Nat.le_of_ble_eq_true rfl) (fun _ _ _ => if_lt (Nat.le_of_ble_eq_true rfl) (Nat.le_of_ble_eq_true rfl))
theorem q3_retainAll (S : tS) (v w : Int32) : (q_retainAll S v w).1 < 3 := sp_2_lt (Nat.le_of_ble_eq_true rfl) (fun _ _ _ _ _ _ => if_lt (Nat.le_of_ble_eq_true rfl) (Nat.le_of_ble_eq_true rfl))
theorem q3_reverse (S : tS) (v : Int32) : (q_reverse S v).1 < 3 := sp_li_lt (Nat.le_of_ble_eq_true rfl) (fun _ _ _ => (Nat.le_of_ble_eq_true rfl))
theorem q3_rotate (S : tS) (v x : Int32) : (q_rotate S v x).1 < 3 := sp_li_lt (Nat.le_of_ble_eq_true rfl) (fun _ _ _ => if_lt (Nat.le_of_ble_eq_true rfl) (Nat.le_of_ble_eq_true rfl))
theorem q3_rowOf (S : tS) (v : Int32) : (q_rowOf S v).1 < 3 := if_lt (Nat.le_of_ble_eq_true rfl) (Nat.le_of_ble_eq_true rfl)
theorem q3_set (S : tS) (v w x : Int32) : (q_set S v w x).1 < 3 := sp_at_lt (Nat.le_of_ble_eq_true rfl) (fun _ _ _ _ => if_lt (Nat.le_of_ble_eq_true rfl) (Nat.le_of_ble_eq_true rfl))
theorem q3_sort (S : tS) (v fall : Int32) : (q_sort S v fall).1 < 3 := sp_li_lt (Nat.le_of_ble_eq_true rfl) (fun _ _ _ => (Nat.le_of_ble_eq_true rfl))
theorem q3_sum (S : tS) (v : Int32) : (q_sum S v).1 < 3 := sp_li_lt (Nat.le_of_ble_eq_true rfl) (fun _ _ _ => (Nat.le_of_ble_eq_true rfl))
theorem q3_swap (S : tS) (v w x : Int32) : (q_swap S v w x).1 < 3 := sp_at_lt (Nat.le_of_ble_eq_true rfl) (fun _ _ _ _ => if_lt (Nat.le_of_ble_eq_true rfl) (Nat.le_of_ble_eq_true rfl))
theorem q3_walkChange (S : tS) (v w x : Int32) : (q_walkChange S v w x).1 < 3 := sp_at_lt (Nat.le_of_ble_eq_true rfl) (fun _ _ _ _ => if_lt (Nat.le_of_ble_eq_true rfl) (Nat.le_of_ble_eq_true rfl))
theorem q3_walkSet (S : tS) (v p rule w back : Int32) : (q_walkSet S v p rule w back).1 < 3 := sp_li_lt (Nat.le_of_ble_eq_true rfl) (fun _ _ _ => if_lt (Nat.le_of_ble_eq_true rfl) (Nat.le_of_ble_eq_true rfl))
section LAW
variable {K : tK} {xL : Nat} {xs : Nat → Int32} {k27 : Nat → Nat → Option Nat → Option Nat → Option Nat → Int32 → tG → Prop} {G : tG} {L : tL} {M : tM} {S : tS} {th : Int32} {u i0 nc ns : Nat} {n : Int64} {s : Value}
theorem law_round (hK : KOK K) (hx : xL ≤ 3072) (hi : i0 + 6 ≤ xL) (hB : Bo G L M S S th u n s) (hnc : nc + 300 ≤ 645934) (hns : ns + 7000 ≤ 7158302) (hk : LK k27 L M.1.1 u i0 nc ns) (hne : ¬ (Int32.ofNat xL - (6 : Int32)) < nI i0) : w_L_law_27_b K xL xs k27 nc ns (some L.1) (some M.1.1) (some u) (nI i0) G := by
  refine ⟨fun z => absurd z hne, fun _ => ⟨i0, nI_toInt (by omega), by omega, ?_⟩⟩
  refine ⟨fun _ => ?_, ?_⟩
  · refine sl hi hx 1 (by omega) ?_
    refine sl hi hx 2 (by omega) ?_
    refine ⟨⟨by omega, by omega⟩, ?_⟩
    refine Lc_lay hB (fun G1 n1 hB1 hn1 => ?_)
    refine sl hi hx 1 (by omega) ?_
    refine sl hi hx 2 (by omega) ?_
    refine ⟨⟨by omega, by omega⟩, ?_⟩
    refine Lm_lay hB1 (fun G2 M2 e2 hB2 => ?_)
    refine m_thr hB2.2.1 e2 ?_
    refine ⟨fun _ => ?_, fun z => absurd rfl z⟩
    refine ⟨fun _ => ?_, fun hz => ?_⟩
    · exact law_end hk hB2 e2 (by omega) (by omega)
    · have hz0 : (q_lay S _ _).1 = 0 := nI_z0 (q3_lay S _ _) hz
      refine gfL_i hB2.2.2.1 rfl ?_
      refine ⟨fun _ => ?_, fun z => absurd (by rw [hn1 hz0]; exact lg_self _) z⟩
      exact law_end hk hB2 e2 (by omega) (by omega)
  refine ⟨fun _ => ?_, ?_⟩
  · refine sl hi hx 1 (by omega) ?_
    refine sl hi hx 2 (by omega) ?_
    refine sl hi hx 3 (by omega) ?_
    refine ⟨⟨by omega, by omega⟩, ?_⟩
    refine Lc_put hB (fun G4 n4 hB4 hn4 => ?_)
    refine sl hi hx 1 (by omega) ?_
    refine sl hi hx 2 (by omega) ?_
    refine sl hi hx 3 (by omega) ?_
    refine Lm_put hB4 (fun G5 M5 e5 hB5 => ?_)
    refine m_thr hB5.2.1 e5 ?_
    refine ⟨fun _ => ?_, fun z => absurd rfl z⟩
    refine ⟨fun _ => ?_, fun hz => ?_⟩
    · exact law_end hk hB5 e5 (by omega) (by omega)
    · have hz0 : (q_put S _ _ _).1 = 0 := nI_z0 (q3_put S _ _ _) hz
      refine gfL_i hB5.2.2.1 rfl ?_
      refine ⟨fun _ => ?_, fun z => absurd (by rw [hn4 hz0]; exact lg_self _) z⟩
      exact law_end hk hB5 e5 (by omega) (by omega)
  refine ⟨fun _ => ?_, ?_⟩
  · refine sl hi hx 1 (by omega) ?_
    refine sl hi hx 2 (by omega) ?_
    refine ⟨⟨by omega, by omega⟩, ?_⟩
    refine Lc_at hB (fun G7 n7 hB7 hn7 => ?_)
    refine sl hi hx 1 (by omega) ?_
    refine sl hi hx 2 (by omega) ?_
    refine Lm_at hB7 (fun G8 M8 e8 hB8 => ?_)
    refine m_thr hB8.2.1 e8 ?_
    refine ⟨fun _ => ?_, fun z => absurd rfl z⟩
    refine ⟨fun _ => ?_, fun hz => ?_⟩
    · exact law_end hk hB8 e8 (by omega) (by omega)
    · have hz0 : (q_at S _ _).1 = 0 := nI_z0 (q3_at S _ _) hz
      refine gfL_i hB8.2.2.1 rfl ?_
      refine ⟨fun _ => ?_, fun z => absurd (by rw [hn7 hz0]; exact lg_self _) z⟩
      exact law_end hk hB8 e8 (by omega) (by omega)
  refine ⟨fun _ => ?_, ?_⟩
  · refine sl hi hx 1 (by omega) ?_
    refine sl hi hx 2 (by omega) ?_
    refine sl hi hx 3 (by omega) ?_
    refine sl hi hx 4 (by omega) ?_
    refine ⟨⟨by omega, by omega⟩, ?_⟩
    refine Lc_part hB (fun G10 n10 hB10 hn10 => ?_)
    refine sl hi hx 1 (by omega) ?_
    refine sl hi hx 2 (by omega) ?_
    refine sl hi hx 3 (by omega) ?_
    refine sl hi hx 4 (by omega) ?_
    refine Lm_part hB10 (fun G11 M11 e11 hB11 => ?_)
    refine m_thr hB11.2.1 e11 ?_
    refine ⟨fun _ => ?_, fun z => absurd rfl z⟩
    refine ⟨fun _ => ?_, fun hz => ?_⟩
    · exact law_end hk hB11 e11 (by omega) (by omega)
    · have hz0 : (q_part S _ _ _ _).1 = 0 := nI_z0 (q3_part S _ _ _ _) hz
      refine gfL_i hB11.2.2.1 rfl ?_
      refine ⟨fun _ => ?_, fun z => absurd (by rw [hn10 hz0]; exact lg_self _) z⟩
      exact law_end hk hB11 e11 (by omega) (by omega)
  refine ⟨fun _ => ?_, ?_⟩
  · refine sl hi hx 1 (by omega) ?_
    refine sl hi hx 2 (by omega) ?_
    refine sl hi hx 3 (by omega) ?_
    refine ⟨⟨by omega, by omega⟩, ?_⟩
    refine Lc_set hB (fun G13 n13 hB13 hn13 => ?_)
    refine sl hi hx 1 (by omega) ?_
    refine sl hi hx 2 (by omega) ?_
    refine sl hi hx 3 (by omega) ?_
    refine Lm_set hB13 (fun G14 M14 e14 hB14 => ?_)
    refine m_thr hB14.2.1 e14 ?_
    refine ⟨fun _ => ?_, fun z => absurd rfl z⟩
    refine ⟨fun _ => ?_, fun hz => ?_⟩
    · exact law_end hk hB14 e14 (by omega) (by omega)
    · have hz0 : (q_set S _ _ _).1 = 0 := nI_z0 (q3_set S _ _ _) hz
      refine gfL_i hB14.2.2.1 rfl ?_
      refine ⟨fun _ => ?_, fun z => absurd (by rw [hn13 hz0]; exact lg_self _) z⟩
      exact law_end hk hB14 e14 (by omega) (by omega)
  refine ⟨fun _ => ?_, ?_⟩
  · refine sl hi hx 1 (by omega) ?_
    refine sl hi hx 2 (by omega) ?_
    refine ⟨⟨by omega, by omega⟩, ?_⟩
    refine Lc_get hB (fun G16 n16 hB16 hn16 => ?_)
    refine sl hi hx 1 (by omega) ?_
    refine sl hi hx 2 (by omega) ?_
    refine Lm_get hB16 (fun G17 M17 e17 hB17 => ?_)
    refine m_thr hB17.2.1 e17 ?_
    refine ⟨fun _ => ?_, fun z => absurd rfl z⟩
    refine ⟨fun _ => ?_, fun hz => ?_⟩
    · exact law_end hk hB17 e17 (by omega) (by omega)
    · have hz0 : (q_get S _ _).1 = 0 := nI_z0 (q3_get S _ _) hz
      refine gfL_i hB17.2.2.1 rfl ?_
      refine ⟨fun _ => ?_, fun z => absurd (by rw [hn16 hz0]; exact lg_self _) z⟩
      exact law_end hk hB17 e17 (by omega) (by omega)
  refine ⟨fun _ => ?_, ?_⟩
  · refine sl hi hx 1 (by omega) ?_
    refine ⟨⟨by omega, by omega⟩, ?_⟩
    refine Lc_length hB (fun G19 n19 hB19 hn19 => ?_)
    refine sl hi hx 1 (by omega) ?_
    refine Lm_length hB19 (fun G20 M20 e20 hB20 => ?_)
    refine m_thr hB20.2.1 e20 ?_
    refine ⟨fun _ => ?_, fun z => absurd rfl z⟩
    refine ⟨fun _ => ?_, fun hz => ?_⟩
    · exact law_end hk hB20 e20 (by omega) (by omega)
    · have hz0 : (q_length S _).1 = 0 := nI_z0 (q3_length S _) hz
      refine gfL_i hB20.2.2.1 rfl ?_
      refine ⟨fun _ => ?_, fun z => absurd (by rw [hn19 hz0]; exact lg_self _) z⟩
      exact law_end hk hB20 e20 (by omega) (by omega)
  refine ⟨fun _ => ?_, ?_⟩
  · refine sl hi hx 1 (by omega) ?_
    refine ⟨⟨by omega, by omega⟩, ?_⟩
    refine Lc_isEmpty hB (fun G22 n22 hB22 hn22 => ?_)
    refine sl hi hx 1 (by omega) ?_
    refine Lm_isEmpty hB22 (fun G23 M23 e23 hB23 => ?_)
    refine m_thr hB23.2.1 e23 ?_
    refine ⟨fun _ => ?_, fun z => absurd rfl z⟩
    refine ⟨fun _ => ?_, fun hz => ?_⟩
    · exact law_end hk hB23 e23 (by omega) (by omega)
    · have hz0 : (q_isEmpty S _).1 = 0 := nI_z0 (q3_isEmpty S _) hz
      refine gfL_i hB23.2.2.1 rfl ?_
      refine ⟨fun hb => ?_, fun hb => ?_⟩
      · unfold w_L_law_814
        refine ⟨fun _ => ?_, fun z => absurd (by rw [hn22 hz0, if_pos hb]; exact lg_self _) z⟩
        exact law_end hk hB23 e23 (by omega) (by omega)
      · unfold w_L_law_814
        refine ⟨fun _ => ?_, fun z => absurd (by rw [hn22 hz0, if_neg hb]; exact lg_self _) z⟩
        exact law_end hk hB23 e23 (by omega) (by omega)
  refine ⟨fun _ => ?_, ?_⟩
  · refine sl hi hx 1 (by omega) ?_
    refine ⟨70, 600, by omega, by omega, ?_⟩
    refine Lc_text hK hB (Nat.le_refl _) (Nat.le_refl _) (fun G25 s25 hB25 ht25 => ?_)
    refine sl hi hx 1 (by omega) ?_
    refine ⟨160, 3200, by omega, by omega, ?_⟩
    refine Lm_text hK hB25 (Nat.le_refl _) (Nat.le_refl _) (fun x26 G26 hB26 hk26 hx26 => ?_)
    refine m_thr hB26.2.1 rfl ?_
    refine ⟨fun _ => ?_, fun z => absurd rfl z⟩
    refine ⟨fun _ => ?_, fun hz => ?_⟩
    · exact law_end hk hB26 rfl (by omega) (by omega)
    · have hz0 : (q_text K S _).1 = 0 := nI_z0 (q3_text K S _) hz
      refine tx_cmp hB26 ht25 hk26 hx26 hz0 ?_
      refine ⟨fun _ => ?_, fun z => absurd z (by decide)⟩
      exact law_end hk hB26 rfl (by omega) (by omega)
  refine ⟨fun _ => ?_, ?_⟩
  · refine sl hi hx 1 (by omega) ?_
    refine ⟨70, 600, by omega, by omega, ?_⟩
    refine Lc_back hK hB (Nat.le_refl _) (Nat.le_refl _) (fun G28 s28 hB28 ht28 => ?_)
    refine sl hi hx 1 (by omega) ?_
    refine ⟨160, 3200, by omega, by omega, ?_⟩
    refine Lm_back hK hB28 (Nat.le_refl _) (Nat.le_refl _) (fun x29 G29 hB29 hk29 hx29 => ?_)
    refine m_thr hB29.2.1 rfl ?_
    refine ⟨fun _ => ?_, fun z => absurd rfl z⟩
    refine ⟨fun _ => ?_, fun hz => ?_⟩
    · exact law_end hk hB29 rfl (by omega) (by omega)
    · have hz0 : (q_back K S _).1 = 0 := nI_z0 (q3_back K S _) hz
      refine tx_cmp hB29 ht28 hk29 hx29 hz0 ?_
      refine ⟨fun _ => ?_, fun z => absurd z (by decide)⟩
      exact law_end hk hB29 rfl (by omega) (by omega)
  refine ⟨fun _ => ?_, ?_⟩
  · refine sl hi hx 1 (by omega) ?_
    refine sl hi hx 2 (by omega) ?_
    refine ⟨⟨by omega, by omega⟩, ?_⟩
    refine Lc_indexOf hB (fun G31 n31 hB31 hn31 => ?_)
    refine sl hi hx 1 (by omega) ?_
    refine sl hi hx 2 (by omega) ?_
    refine ⟨⟨by omega, by omega⟩, ?_⟩
    refine Lm_indexOf hB31 (fun G32 M32 e32 hB32 => ?_)
    refine m_thr hB32.2.1 e32 ?_
    refine ⟨fun _ => ?_, fun z => absurd rfl z⟩
    refine ⟨fun _ => ?_, fun hz => ?_⟩
    · exact law_end hk hB32 e32 (by omega) (by omega)
    · have hz0 : (q_indexOf S _ _).1 = 0 := nI_z0 (q3_indexOf S _ _) hz
      refine gfL_i hB32.2.2.1 rfl ?_
      refine ⟨fun _ => ?_, fun z => absurd (by rw [hn31 hz0]; exact lg_self _) z⟩
      exact law_end hk hB32 e32 (by omega) (by omega)
  refine ⟨fun _ => ?_, ?_⟩
  · refine sl hi hx 1 (by omega) ?_
    refine sl hi hx 2 (by omega) ?_
    refine ⟨⟨by omega, by omega⟩, ?_⟩
    refine Lc_lastIndexOf hB (fun G34 n34 hB34 hn34 => ?_)
    refine sl hi hx 1 (by omega) ?_
    refine sl hi hx 2 (by omega) ?_
    refine Lm_lastIndexOf hB34 (fun G35 M35 e35 hB35 => ?_)
    refine m_thr hB35.2.1 e35 ?_
    refine ⟨fun _ => ?_, fun z => absurd rfl z⟩
    refine ⟨fun _ => ?_, fun hz => ?_⟩
    · exact law_end hk hB35 e35 (by omega) (by omega)
    · have hz0 : (q_lastIndexOf S _ _).1 = 0 := nI_z0 (q3_lastIndexOf S _ _) hz
      refine gfL_i hB35.2.2.1 rfl ?_
      refine ⟨fun _ => ?_, fun z => absurd (by rw [hn34 hz0]; exact lg_self _) z⟩
      exact law_end hk hB35 e35 (by omega) (by omega)
  refine ⟨fun _ => ?_, ?_⟩
  · refine sl hi hx 1 (by omega) ?_
    refine sl hi hx 2 (by omega) ?_
    refine ⟨⟨by omega, by omega⟩, ?_⟩
    refine Lc_has hB (fun G37 n37 hB37 hn37 => ?_)
    refine sl hi hx 1 (by omega) ?_
    refine sl hi hx 2 (by omega) ?_
    refine ⟨⟨by omega, by omega⟩, ?_⟩
    refine Lm_has hB37 (fun G38 M38 e38 hB38 => ?_)
    refine m_thr hB38.2.1 e38 ?_
    refine ⟨fun _ => ?_, fun z => absurd rfl z⟩
    refine ⟨fun _ => ?_, fun hz => ?_⟩
    · exact law_end hk hB38 e38 (by omega) (by omega)
    · have hz0 : (q_has S _ _).1 = 0 := nI_z0 (q3_has S _ _) hz
      refine gfL_i hB38.2.2.1 rfl ?_
      refine ⟨fun hb => ?_, fun hb => ?_⟩
      · unfold w_L_law_1144
        refine ⟨fun _ => ?_, fun z => absurd (by rw [hn37 hz0, if_pos hb]; exact lg_self _) z⟩
        exact law_end hk hB38 e38 (by omega) (by omega)
      · unfold w_L_law_1144
        refine ⟨fun _ => ?_, fun z => absurd (by rw [hn37 hz0, if_neg hb]; exact lg_self _) z⟩
        exact law_end hk hB38 e38 (by omega) (by omega)
  refine ⟨fun _ => ?_, ?_⟩
  · refine sl hi hx 1 (by omega) ?_
    refine sl hi hx 2 (by omega) ?_
    refine ⟨⟨by omega, by omega⟩, ?_⟩
    refine Lc_often hB (fun G40 n40 hB40 hn40 => ?_)
    refine sl hi hx 1 (by omega) ?_
    refine sl hi hx 2 (by omega) ?_
    refine ⟨⟨by omega, by omega⟩, ?_⟩
    refine Lm_often hB40 (fun G41 M41 e41 hB41 => ?_)
    refine m_thr hB41.2.1 e41 ?_
    refine ⟨fun _ => ?_, fun z => absurd rfl z⟩
    refine ⟨fun _ => ?_, fun hz => ?_⟩
    · exact law_end hk hB41 e41 (by omega) (by omega)
    · have hz0 : (q_often S _ _).1 = 0 := nI_z0 (q3_often S _ _) hz
      refine gfL_i hB41.2.2.1 rfl ?_
      refine ⟨fun _ => ?_, fun z => absurd (by rw [hn40 hz0]; exact lg_self _) z⟩
      exact law_end hk hB41 e41 (by omega) (by omega)
  refine ⟨fun _ => ?_, ?_⟩
  · refine sl hi hx 1 (by omega) ?_
    refine sl hi hx 2 (by omega) ?_
    refine ⟨⟨by omega, by omega⟩, ?_⟩
    refine Lc_hasAll hB (fun G43 n43 hB43 hn43 => ?_)
    refine sl hi hx 1 (by omega) ?_
    refine sl hi hx 2 (by omega) ?_
    refine ⟨⟨by omega, by omega⟩, ?_⟩
    refine Lm_hasAll hB43 (fun G44 M44 e44 hB44 => ?_)
    refine m_thr hB44.2.1 e44 ?_
    refine ⟨fun _ => ?_, fun z => absurd rfl z⟩
    refine ⟨fun _ => ?_, fun hz => ?_⟩
    · exact law_end hk hB44 e44 (by omega) (by omega)
    · have hz0 : (q_hasAll S _ _).1 = 0 := nI_z0 (q3_hasAll S _ _) hz
      refine gfL_i hB44.2.2.1 rfl ?_
      refine ⟨fun hb => ?_, fun hb => ?_⟩
      · unfold w_L_law_1289
        refine ⟨fun _ => ?_, fun z => absurd (by rw [hn43 hz0, if_pos hb]; exact lg_self _) z⟩
        exact law_end hk hB44 e44 (by omega) (by omega)
      · unfold w_L_law_1289
        refine ⟨fun _ => ?_, fun z => absurd (by rw [hn43 hz0, if_neg hb]; exact lg_self _) z⟩
        exact law_end hk hB44 e44 (by omega) (by omega)
  refine ⟨fun _ => ?_, ?_⟩
  · refine sl hi hx 1 (by omega) ?_
    refine sl hi hx 2 (by omega) ?_
    refine ⟨⟨by omega, by omega⟩, ?_⟩
    refine Lc_areApart hB (fun G46 n46 hB46 hn46 => ?_)
    refine sl hi hx 1 (by omega) ?_
    refine sl hi hx 2 (by omega) ?_
    refine ⟨⟨by omega, by omega⟩, ?_⟩
    refine Lm_areApart hB46 (fun G47 M47 e47 hB47 => ?_)
    refine m_thr hB47.2.1 e47 ?_
    refine ⟨fun _ => ?_, fun z => absurd rfl z⟩
    refine ⟨fun _ => ?_, fun hz => ?_⟩
    · exact law_end hk hB47 e47 (by omega) (by omega)
    · have hz0 : (q_areApart S _ _).1 = 0 := nI_z0 (q3_areApart S _ _) hz
      refine gfL_i hB47.2.2.1 rfl ?_
      refine ⟨fun hb => ?_, fun hb => ?_⟩
      · unfold w_L_law_1365
        refine ⟨fun _ => ?_, fun z => absurd (by rw [hn46 hz0, if_pos hb]; exact lg_self _) z⟩
        exact law_end hk hB47 e47 (by omega) (by omega)
      · unfold w_L_law_1365
        refine ⟨fun _ => ?_, fun z => absurd (by rw [hn46 hz0, if_neg hb]; exact lg_self _) z⟩
        exact law_end hk hB47 e47 (by omega) (by omega)
  refine ⟨fun _ => ?_, ?_⟩
  · refine sl hi hx 1 (by omega) ?_
    refine sl hi hx 2 (by omega) ?_
    refine ⟨⟨by omega, by omega⟩, ?_⟩
    refine Lc_indexOfAll hB (fun G49 n49 hB49 hn49 => ?_)
    refine sl hi hx 1 (by omega) ?_
    refine sl hi hx 2 (by omega) ?_
    refine ⟨⟨by omega, by omega⟩, ?_⟩
    refine Lm_indexOfAll hB49 (fun G50 M50 e50 hB50 => ?_)
    refine m_thr hB50.2.1 e50 ?_
    refine ⟨fun _ => ?_, fun z => absurd rfl z⟩
    refine ⟨fun _ => ?_, fun hz => ?_⟩
    · exact law_end hk hB50 e50 (by omega) (by omega)
    · have hz0 : (q_indexOfAll S _ _).1 = 0 := nI_z0 (q3_indexOfAll S _ _) hz
      refine gfL_i hB50.2.2.1 rfl ?_
      refine ⟨fun _ => ?_, fun z => absurd (by rw [hn49 hz0]; exact lg_self _) z⟩
      exact law_end hk hB50 e50 (by omega) (by omega)
  refine ⟨fun _ => ?_, ?_⟩
  · refine sl hi hx 1 (by omega) ?_
    refine sl hi hx 2 (by omega) ?_
    refine ⟨⟨by omega, by omega⟩, ?_⟩
    refine Lc_areEqual hB (fun G52 n52 hB52 hn52 => ?_)
    refine sl hi hx 1 (by omega) ?_
    refine sl hi hx 2 (by omega) ?_
    refine ⟨⟨by omega, by omega⟩, ?_⟩
    refine Lm_areEqual hB52 (fun G53 M53 e53 hB53 => ?_)
    refine m_thr hB53.2.1 e53 ?_
    refine ⟨fun _ => ?_, fun z => absurd rfl z⟩
    refine ⟨fun _ => ?_, fun hz => ?_⟩
    · exact law_end hk hB53 e53 (by omega) (by omega)
    · have hz0 : (q_areEqual S _ _).1 = 0 := nI_z0 (q3_areEqual S _ _) hz
      refine gfL_i hB53.2.2.1 rfl ?_
      refine ⟨fun hb => ?_, fun hb => ?_⟩
      · unfold w_L_law_1510
        refine ⟨fun _ => ?_, fun z => absurd (by rw [hn52 hz0, if_pos hb]; exact lg_self _) z⟩
        exact law_end hk hB53 e53 (by omega) (by omega)
      · unfold w_L_law_1510
        refine ⟨fun _ => ?_, fun z => absurd (by rw [hn52 hz0, if_neg hb]; exact lg_self _) z⟩
        exact law_end hk hB53 e53 (by omega) (by omega)
  refine ⟨fun _ => ?_, ?_⟩
  · refine sl hi hx 1 (by omega) ?_
    refine ⟨⟨by omega, by omega⟩, ?_⟩
    refine Lc_code hB (fun G55 n55 hB55 hn55 => ?_)
    refine sl hi hx 1 (by omega) ?_
    refine ⟨⟨by omega, by omega⟩, ?_⟩
    refine Lm_code hB55 (fun G56 M56 e56 hB56 => ?_)
    refine m_thr hB56.2.1 e56 ?_
    refine ⟨fun _ => ?_, fun z => absurd rfl z⟩
    refine ⟨fun _ => ?_, fun hz => ?_⟩
    · exact law_end hk hB56 e56 (by omega) (by omega)
    · have hz0 : (q_code S _).1 = 0 := nI_z0 (q3_code S _) hz
      refine gfL_i hB56.2.2.1 rfl ?_
      refine ⟨fun _ => ?_, fun z => absurd (by rw [hn55 hz0]; exact lg_self _) z⟩
      exact law_end hk hB56 e56 (by omega) (by omega)
  refine ⟨fun _ => ?_, ?_⟩
  · by_cases c : xs (i0 + 4) = 0
    · refine sl hi hx 1 (by omega) ?_
      refine sl hi hx 2 (by omega) ?_
      refine sl hi hx 3 (by omega) ?_
      refine sl hi hx 4 (by omega) ?_
      refine ⟨fun _ => ?_, fun z => absurd c z⟩
      unfold w_L_law_1609
      refine ⟨70, 600, by omega, by omega, ?_⟩
      refine Lc_walk hK hB (Nat.le_refl _) (Nat.le_refl _) (fun G58 s58 hB58 ht58 => ?_)
      refine sl hi hx 1 (by omega) ?_
      refine sl hi hx 2 (by omega) ?_
      refine sl hi hx 3 (by omega) ?_
      refine sl hi hx 4 (by omega) ?_
      refine ⟨fun _ => ?_, fun z => absurd c z⟩
      unfold w_L_law_1648
      refine ⟨200, 6100, by omega, by omega, ?_⟩
      refine Lm_walk hK hB58 (Nat.le_refl _) (Nat.le_refl _) (fun x59 G59 hB59 hk59 hx59 => ?_)
      refine m_thr hB59.2.1 rfl ?_
      refine ⟨fun _ => ?_, fun z => absurd rfl z⟩
      refine ⟨fun _ => ?_, fun hz => ?_⟩
      · exact law_end hk hB59 rfl (by omega) (by omega)
      · have hz0 : (q_walk K S _ _ _ _).1 = 0 := nI_z0 (q3_walk K S _ _ _ _) hz
        refine tx_cmp hB59 ht58 hk59 hx59 hz0 ?_
        refine ⟨fun _ => ?_, fun z => absurd z (by decide)⟩
        exact law_end hk hB59 rfl (by omega) (by omega)
    · refine sl hi hx 1 (by omega) ?_
      refine sl hi hx 2 (by omega) ?_
      refine sl hi hx 3 (by omega) ?_
      refine sl hi hx 4 (by omega) ?_
      refine ⟨fun z => absurd z c, fun _ => ?_⟩
      unfold w_L_law_1609
      refine ⟨70, 600, by omega, by omega, ?_⟩
      refine Lc_walk hK hB (Nat.le_refl _) (Nat.le_refl _) (fun G61 s61 hB61 ht61 => ?_)
      refine sl hi hx 1 (by omega) ?_
      refine sl hi hx 2 (by omega) ?_
      refine sl hi hx 3 (by omega) ?_
      refine sl hi hx 4 (by omega) ?_
      refine ⟨fun z => absurd z c, fun _ => ?_⟩
      unfold w_L_law_1648
      refine ⟨200, 6100, by omega, by omega, ?_⟩
      refine Lm_walk hK hB61 (Nat.le_refl _) (Nat.le_refl _) (fun x62 G62 hB62 hk62 hx62 => ?_)
      refine m_thr hB62.2.1 rfl ?_
      refine ⟨fun _ => ?_, fun z => absurd rfl z⟩
      refine ⟨fun _ => ?_, fun hz => ?_⟩
      · exact law_end hk hB62 rfl (by omega) (by omega)
      · have hz0 : (q_walk K S _ _ _ _).1 = 0 := nI_z0 (q3_walk K S _ _ _ _) hz
        refine tx_cmp hB62 ht61 hk62 hx62 hz0 ?_
        refine ⟨fun _ => ?_, fun z => absurd z (by decide)⟩
        exact law_end hk hB62 rfl (by omega) (by omega)
  refine ⟨fun _ => ?_, ?_⟩
  · refine sl hi hx 1 (by omega) ?_
    refine ⟨⟨by omega, by omega⟩, ?_⟩
    refine Lc_sum hB (fun G64 n64 hB64 hn64 => ?_)
    refine sl hi hx 1 (by omega) ?_
    refine ⟨⟨by omega, by omega⟩, ?_⟩
    refine Lm_sum hB64 (fun G65 M65 e65 hB65 => ?_)
    refine m_thr hB65.2.1 e65 ?_
    refine ⟨fun _ => ?_, fun z => absurd rfl z⟩
    refine ⟨fun _ => ?_, fun hz => ?_⟩
    · exact law_end hk hB65 e65 (by omega) (by omega)
    · have hz0 : (q_sum S _).1 = 0 := nI_z0 (q3_sum S _) hz
      refine gfL_i hB65.2.2.1 rfl ?_
      refine ⟨fun _ => ?_, fun z => absurd (by rw [hn64 hz0]; exact lg_self _) z⟩
      exact law_end hk hB65 e65 (by omega) (by omega)
  refine ⟨fun _ => ?_, ?_⟩
  · by_cases c : xs (i0 + 5) = 0
    · refine sl hi hx 1 (by omega) ?_
      refine sl hi hx 2 (by omega) ?_
      refine sl hi hx 3 (by omega) ?_
      refine sl hi hx 4 (by omega) ?_
      refine sl hi hx 5 (by omega) ?_
      refine ⟨fun _ => ?_, fun z => absurd c z⟩
      unfold w_L_law_1782
      refine ⟨⟨by omega, by omega⟩, ?_⟩
      refine Lc_walkSet hB (fun G67 n67 hB67 hn67 => ?_)
      refine sl hi hx 1 (by omega) ?_
      refine sl hi hx 2 (by omega) ?_
      refine sl hi hx 3 (by omega) ?_
      refine sl hi hx 4 (by omega) ?_
      refine sl hi hx 5 (by omega) ?_
      refine ⟨fun _ => ?_, fun z => absurd c z⟩
      unfold w_L_law_1827
      refine Lm_walkSet hB67 (fun G68 M68 e68 hB68 => ?_)
      refine m_thr hB68.2.1 e68 ?_
      refine ⟨fun _ => ?_, fun z => absurd rfl z⟩
      refine ⟨fun _ => ?_, fun hz => ?_⟩
      · exact law_end hk hB68 e68 (by omega) (by omega)
      · have hz0 : (q_walkSet S _ _ _ _ _).1 = 0 := nI_z0 (q3_walkSet S _ _ _ _ _) hz
        refine gfL_i hB68.2.2.1 rfl ?_
        refine ⟨fun _ => ?_, fun z => absurd (by rw [hn67 hz0]; exact lg_self _) z⟩
        exact law_end hk hB68 e68 (by omega) (by omega)
    · refine sl hi hx 1 (by omega) ?_
      refine sl hi hx 2 (by omega) ?_
      refine sl hi hx 3 (by omega) ?_
      refine sl hi hx 4 (by omega) ?_
      refine sl hi hx 5 (by omega) ?_
      refine ⟨fun z => absurd z c, fun _ => ?_⟩
      unfold w_L_law_1782
      refine ⟨⟨by omega, by omega⟩, ?_⟩
      refine Lc_walkSet hB (fun G70 n70 hB70 hn70 => ?_)
      refine sl hi hx 1 (by omega) ?_
      refine sl hi hx 2 (by omega) ?_
      refine sl hi hx 3 (by omega) ?_
      refine sl hi hx 4 (by omega) ?_
      refine sl hi hx 5 (by omega) ?_
      refine ⟨fun z => absurd z c, fun _ => ?_⟩
      unfold w_L_law_1827
      refine Lm_walkSet hB70 (fun G71 M71 e71 hB71 => ?_)
      refine m_thr hB71.2.1 e71 ?_
      refine ⟨fun _ => ?_, fun z => absurd rfl z⟩
      refine ⟨fun _ => ?_, fun hz => ?_⟩
      · exact law_end hk hB71 e71 (by omega) (by omega)
      · have hz0 : (q_walkSet S _ _ _ _ _).1 = 0 := nI_z0 (q3_walkSet S _ _ _ _ _) hz
        refine gfL_i hB71.2.2.1 rfl ?_
        refine ⟨fun _ => ?_, fun z => absurd (by rw [hn70 hz0]; exact lg_self _) z⟩
        exact law_end hk hB71 e71 (by omega) (by omega)
  refine ⟨fun _ => ?_, ?_⟩
  · refine sl hi hx 1 (by omega) ?_
    refine sl hi hx 2 (by omega) ?_
    refine sl hi hx 3 (by omega) ?_
    refine ⟨⟨by omega, by omega⟩, ?_⟩
    refine Lc_replaceAll hB (fun G73 n73 hB73 hn73 => ?_)
    refine sl hi hx 1 (by omega) ?_
    refine sl hi hx 2 (by omega) ?_
    refine sl hi hx 3 (by omega) ?_
    refine Lm_replaceAll hB73 (fun G74 M74 e74 hB74 => ?_)
    refine m_thr hB74.2.1 e74 ?_
    refine ⟨fun _ => ?_, fun z => absurd rfl z⟩
    refine ⟨fun _ => ?_, fun hz => ?_⟩
    · exact law_end hk hB74 e74 (by omega) (by omega)
    · have hz0 : (q_replaceAll S _ _ _).1 = 0 := nI_z0 (q3_replaceAll S _ _ _) hz
      refine gfL_i hB74.2.2.1 rfl ?_
      refine ⟨fun _ => ?_, fun z => absurd (by rw [hn73 hz0]; exact lg_self _) z⟩
      exact law_end hk hB74 e74 (by omega) (by omega)
  refine ⟨fun _ => ?_, ?_⟩
  · refine sl hi hx 1 (by omega) ?_
    refine sl hi hx 2 (by omega) ?_
    refine sl hi hx 3 (by omega) ?_
    refine ⟨⟨by omega, by omega⟩, ?_⟩
    refine Lc_replaceOld hB (fun G76 n76 hB76 hn76 => ?_)
    refine sl hi hx 1 (by omega) ?_
    refine sl hi hx 2 (by omega) ?_
    refine sl hi hx 3 (by omega) ?_
    refine ⟨⟨by omega, by omega⟩, ?_⟩
    refine Lm_replaceOld hB76 (fun G77 M77 e77 hB77 => ?_)
    refine m_thr hB77.2.1 e77 ?_
    refine ⟨fun _ => ?_, fun z => absurd rfl z⟩
    refine ⟨fun _ => ?_, fun hz => ?_⟩
    · exact law_end hk hB77 e77 (by omega) (by omega)
    · have hz0 : (q_replaceOld S _ _ _).1 = 0 := nI_z0 (q3_replaceOld S _ _ _) hz
      refine gfL_i hB77.2.2.1 rfl ?_
      refine ⟨fun _ => ?_, fun z => absurd (by rw [hn76 hz0]; exact lg_self _) z⟩
      exact law_end hk hB77 e77 (by omega) (by omega)
  refine ⟨fun _ => ?_, ?_⟩
  · refine sl hi hx 1 (by omega) ?_
    refine sl hi hx 2 (by omega) ?_
    refine ⟨⟨by omega, by omega⟩, ?_⟩
    refine Lc_fill hB (fun G79 n79 hB79 hn79 => ?_)
    refine sl hi hx 1 (by omega) ?_
    refine sl hi hx 2 (by omega) ?_
    refine Lm_fill hB79 (fun G80 M80 e80 hB80 => ?_)
    refine m_thr hB80.2.1 e80 ?_
    refine ⟨fun _ => ?_, fun z => absurd rfl z⟩
    refine ⟨fun _ => ?_, fun hz => ?_⟩
    · exact law_end hk hB80 e80 (by omega) (by omega)
    · have hz0 : (q_fill S _ _).1 = 0 := nI_z0 (q3_fill S _ _) hz
      refine gfL_i hB80.2.2.1 rfl ?_
      refine ⟨fun _ => ?_, fun z => absurd (by rw [hn79 hz0]; exact lg_self _) z⟩
      exact law_end hk hB80 e80 (by omega) (by omega)
  refine ⟨fun _ => ?_, ?_⟩
  · by_cases c : xs (i0 + 2) = 0
    · refine sl hi hx 1 (by omega) ?_
      refine sl hi hx 2 (by omega) ?_
      refine ⟨fun _ => ?_, fun z => absurd c z⟩
      unfold w_L_law_2116
      refine ⟨⟨by omega, by omega⟩, ?_⟩
      refine Lc_sort hB (fun G82 n82 hB82 hn82 => ?_)
      refine sl hi hx 1 (by omega) ?_
      refine sl hi hx 2 (by omega) ?_
      refine ⟨fun _ => ?_, fun z => absurd c z⟩
      unfold w_L_law_2143
      refine ⟨⟨by omega, by omega⟩, ?_⟩
      refine Lm_sort hB82 (fun G83 M83 e83 hB83 => ?_)
      refine m_thr hB83.2.1 e83 ?_
      refine ⟨fun _ => ?_, fun z => absurd rfl z⟩
      refine ⟨fun _ => ?_, fun hz => ?_⟩
      · exact law_end hk hB83 e83 (by omega) (by omega)
      · have hz0 : (q_sort S _ _).1 = 0 := nI_z0 (q3_sort S _ _) hz
        refine gfL_i hB83.2.2.1 rfl ?_
        refine ⟨fun _ => ?_, fun z => absurd (by rw [hn82 hz0]; exact lg_self _) z⟩
        exact law_end hk hB83 e83 (by omega) (by omega)
    · refine sl hi hx 1 (by omega) ?_
      refine sl hi hx 2 (by omega) ?_
      refine ⟨fun z => absurd z c, fun _ => ?_⟩
      unfold w_L_law_2116
      refine ⟨⟨by omega, by omega⟩, ?_⟩
      refine Lc_sort hB (fun G85 n85 hB85 hn85 => ?_)
      refine sl hi hx 1 (by omega) ?_
      refine sl hi hx 2 (by omega) ?_
      refine ⟨fun z => absurd z c, fun _ => ?_⟩
      unfold w_L_law_2143
      refine ⟨⟨by omega, by omega⟩, ?_⟩
      refine Lm_sort hB85 (fun G86 M86 e86 hB86 => ?_)
      refine m_thr hB86.2.1 e86 ?_
      refine ⟨fun _ => ?_, fun z => absurd rfl z⟩
      refine ⟨fun _ => ?_, fun hz => ?_⟩
      · exact law_end hk hB86 e86 (by omega) (by omega)
      · have hz0 : (q_sort S _ _).1 = 0 := nI_z0 (q3_sort S _ _) hz
        refine gfL_i hB86.2.2.1 rfl ?_
        refine ⟨fun _ => ?_, fun z => absurd (by rw [hn85 hz0]; exact lg_self _) z⟩
        exact law_end hk hB86 e86 (by omega) (by omega)
  refine ⟨fun _ => ?_, ?_⟩
  · refine sl hi hx 1 (by omega) ?_
    refine ⟨⟨by omega, by omega⟩, ?_⟩
    refine Lc_reverse hB (fun G88 n88 hB88 hn88 => ?_)
    refine sl hi hx 1 (by omega) ?_
    refine ⟨⟨by omega, by omega⟩, ?_⟩
    refine Lm_reverse hB88 (fun G89 M89 e89 hB89 => ?_)
    refine m_thr hB89.2.1 e89 ?_
    refine ⟨fun _ => ?_, fun z => absurd rfl z⟩
    refine ⟨fun _ => ?_, fun hz => ?_⟩
    · exact law_end hk hB89 e89 (by omega) (by omega)
    · have hz0 : (q_reverse S _).1 = 0 := nI_z0 (q3_reverse S _) hz
      refine gfL_i hB89.2.2.1 rfl ?_
      refine ⟨fun _ => ?_, fun z => absurd (by rw [hn88 hz0]; exact lg_self _) z⟩
      exact law_end hk hB89 e89 (by omega) (by omega)
  refine ⟨fun _ => ?_, ?_⟩
  · refine sl hi hx 1 (by omega) ?_
    refine sl hi hx 2 (by omega) ?_
    refine ⟨⟨by omega, by omega⟩, ?_⟩
    refine Lc_rotate hB (fun G91 n91 hB91 hn91 => ?_)
    refine sl hi hx 1 (by omega) ?_
    refine sl hi hx 2 (by omega) ?_
    refine ⟨⟨by omega, by omega⟩, ?_⟩
    refine Lm_rotate hB91 (fun G92 M92 e92 hB92 => ?_)
    refine m_thr hB92.2.1 e92 ?_
    refine ⟨fun _ => ?_, fun z => absurd rfl z⟩
    refine ⟨fun _ => ?_, fun hz => ?_⟩
    · exact law_end hk hB92 e92 (by omega) (by omega)
    · have hz0 : (q_rotate S _ _).1 = 0 := nI_z0 (q3_rotate S _ _) hz
      refine gfL_i hB92.2.2.1 rfl ?_
      refine ⟨fun _ => ?_, fun z => absurd (by rw [hn91 hz0]; exact lg_self _) z⟩
      exact law_end hk hB92 e92 (by omega) (by omega)
  refine ⟨fun _ => ?_, ?_⟩
  · refine sl hi hx 1 (by omega) ?_
    refine sl hi hx 2 (by omega) ?_
    refine sl hi hx 3 (by omega) ?_
    refine ⟨⟨by omega, by omega⟩, ?_⟩
    refine Lc_swap hB (fun G94 n94 hB94 hn94 => ?_)
    refine sl hi hx 1 (by omega) ?_
    refine sl hi hx 2 (by omega) ?_
    refine sl hi hx 3 (by omega) ?_
    refine Lm_swap hB94 (fun G95 M95 e95 hB95 => ?_)
    refine m_thr hB95.2.1 e95 ?_
    refine ⟨fun _ => ?_, fun z => absurd rfl z⟩
    refine ⟨fun _ => ?_, fun hz => ?_⟩
    · exact law_end hk hB95 e95 (by omega) (by omega)
    · have hz0 : (q_swap S _ _ _).1 = 0 := nI_z0 (q3_swap S _ _ _) hz
      refine gfL_i hB95.2.2.1 rfl ?_
      refine ⟨fun _ => ?_, fun z => absurd (by rw [hn94 hz0]; exact lg_self _) z⟩
      exact law_end hk hB95 e95 (by omega) (by omega)
  refine ⟨fun _ => ?_, ?_⟩
  · refine sl hi hx 1 (by omega) ?_
    refine sl hi hx 2 (by omega) ?_
    refine ⟨⟨by omega, by omega⟩, ?_⟩
    refine Lc_add hB (fun G97 n97 hB97 hn97 => ?_)
    refine sl hi hx 1 (by omega) ?_
    refine sl hi hx 2 (by omega) ?_
    refine Lm_add hB97 (fun G98 M98 e98 hB98 => ?_)
    refine m_thr hB98.2.1 e98 ?_
    refine ⟨fun _ => ?_, fun z => absurd rfl z⟩
    refine ⟨fun _ => ?_, fun hz => ?_⟩
    · exact law_end hk hB98 e98 (by omega) (by omega)
    · have hz0 : (q_add S _ _).1 = 0 := nI_z0 (q3_add S _ _) hz
      refine gfL_i hB98.2.2.1 rfl ?_
      refine ⟨fun _ => ?_, fun z => absurd (by rw [hn97 hz0]; exact lg_self _) z⟩
      exact law_end hk hB98 e98 (by omega) (by omega)
  refine ⟨fun _ => ?_, ?_⟩
  · refine sl hi hx 1 (by omega) ?_
    refine sl hi hx 2 (by omega) ?_
    refine sl hi hx 3 (by omega) ?_
    refine ⟨⟨by omega, by omega⟩, ?_⟩
    refine Lc_addAt hB (fun G100 n100 hB100 hn100 => ?_)
    refine sl hi hx 1 (by omega) ?_
    refine sl hi hx 2 (by omega) ?_
    refine sl hi hx 3 (by omega) ?_
    refine Lm_addAt hB100 (fun G101 M101 e101 hB101 => ?_)
    refine m_thr hB101.2.1 e101 ?_
    refine ⟨fun _ => ?_, fun z => absurd rfl z⟩
    refine ⟨fun _ => ?_, fun hz => ?_⟩
    · exact law_end hk hB101 e101 (by omega) (by omega)
    · have hz0 : (q_addAt S _ _ _).1 = 0 := nI_z0 (q3_addAt S _ _ _) hz
      refine gfL_i hB101.2.2.1 rfl ?_
      refine ⟨fun _ => ?_, fun z => absurd (by rw [hn100 hz0]; exact lg_self _) z⟩
      exact law_end hk hB101 e101 (by omega) (by omega)
  refine ⟨fun _ => ?_, ?_⟩
  · refine sl hi hx 1 (by omega) ?_
    refine sl hi hx 2 (by omega) ?_
    refine ⟨⟨by omega, by omega⟩, ?_⟩
    refine Lc_addAll hB (fun G103 n103 hB103 hn103 => ?_)
    refine sl hi hx 1 (by omega) ?_
    refine sl hi hx 2 (by omega) ?_
    refine Lm_addAll hB103 (fun G104 M104 e104 hB104 => ?_)
    refine m_thr hB104.2.1 e104 ?_
    refine ⟨fun _ => ?_, fun z => absurd rfl z⟩
    refine ⟨fun _ => ?_, fun hz => ?_⟩
    · exact law_end hk hB104 e104 (by omega) (by omega)
    · have hz0 : (q_addAll S _ _).1 = 0 := nI_z0 (q3_addAll S _ _) hz
      refine gfL_i hB104.2.2.1 rfl ?_
      refine ⟨fun _ => ?_, fun z => absurd (by rw [hn103 hz0]; exact lg_self _) z⟩
      exact law_end hk hB104 e104 (by omega) (by omega)
  refine ⟨fun _ => ?_, ?_⟩
  · refine sl hi hx 1 (by omega) ?_
    refine sl hi hx 2 (by omega) ?_
    refine ⟨⟨by omega, by omega⟩, ?_⟩
    refine Lc_remove hB (fun G106 n106 hB106 hn106 => ?_)
    refine sl hi hx 1 (by omega) ?_
    refine sl hi hx 2 (by omega) ?_
    refine Lm_remove hB106 (fun G107 M107 e107 hB107 => ?_)
    refine m_thr hB107.2.1 e107 ?_
    refine ⟨fun _ => ?_, fun z => absurd rfl z⟩
    refine ⟨fun _ => ?_, fun hz => ?_⟩
    · exact law_end hk hB107 e107 (by omega) (by omega)
    · have hz0 : (q_remove S _ _).1 = 0 := nI_z0 (q3_remove S _ _) hz
      refine gfL_i hB107.2.2.1 rfl ?_
      refine ⟨fun _ => ?_, fun z => absurd (by rw [hn106 hz0]; exact lg_self _) z⟩
      exact law_end hk hB107 e107 (by omega) (by omega)
  refine ⟨fun _ => ?_, ?_⟩
  · refine sl hi hx 1 (by omega) ?_
    refine sl hi hx 2 (by omega) ?_
    refine ⟨⟨by omega, by omega⟩, ?_⟩
    refine Lc_removeValue hB (fun G109 n109 hB109 hn109 => ?_)
    refine sl hi hx 1 (by omega) ?_
    refine sl hi hx 2 (by omega) ?_
    refine ⟨⟨by omega, by omega⟩, ?_⟩
    refine Lm_removeValue hB109 (fun G110 M110 e110 hB110 => ?_)
    refine m_thr hB110.2.1 e110 ?_
    refine ⟨fun _ => ?_, fun z => absurd rfl z⟩
    refine ⟨fun _ => ?_, fun hz => ?_⟩
    · exact law_end hk hB110 e110 (by omega) (by omega)
    · have hz0 : (q_removeValue S _ _).1 = 0 := nI_z0 (q3_removeValue S _ _) hz
      refine gfL_i hB110.2.2.1 rfl ?_
      refine ⟨fun _ => ?_, fun z => absurd (by rw [hn109 hz0]; exact lg_self _) z⟩
      exact law_end hk hB110 e110 (by omega) (by omega)
  refine ⟨fun _ => ?_, ?_⟩
  · refine sl hi hx 1 (by omega) ?_
    refine sl hi hx 2 (by omega) ?_
    refine ⟨⟨by omega, by omega⟩, ?_⟩
    refine Lc_removeAll hB (fun G112 n112 hB112 hn112 => ?_)
    refine sl hi hx 1 (by omega) ?_
    refine sl hi hx 2 (by omega) ?_
    refine ⟨⟨by omega, by omega⟩, ?_⟩
    refine Lm_removeAll hB112 (fun G113 M113 e113 hB113 => ?_)
    refine m_thr hB113.2.1 e113 ?_
    refine ⟨fun _ => ?_, fun z => absurd rfl z⟩
    refine ⟨fun _ => ?_, fun hz => ?_⟩
    · exact law_end hk hB113 e113 (by omega) (by omega)
    · have hz0 : (q_removeAll S _ _).1 = 0 := nI_z0 (q3_removeAll S _ _) hz
      refine gfL_i hB113.2.2.1 rfl ?_
      refine ⟨fun _ => ?_, fun z => absurd (by rw [hn112 hz0]; exact lg_self _) z⟩
      exact law_end hk hB113 e113 (by omega) (by omega)
  refine ⟨fun _ => ?_, ?_⟩
  · refine sl hi hx 1 (by omega) ?_
    refine sl hi hx 2 (by omega) ?_
    refine ⟨⟨by omega, by omega⟩, ?_⟩
    refine Lc_retainAll hB (fun G115 n115 hB115 hn115 => ?_)
    refine sl hi hx 1 (by omega) ?_
    refine sl hi hx 2 (by omega) ?_
    refine ⟨⟨by omega, by omega⟩, ?_⟩
    refine Lm_retainAll hB115 (fun G116 M116 e116 hB116 => ?_)
    refine m_thr hB116.2.1 e116 ?_
    refine ⟨fun _ => ?_, fun z => absurd rfl z⟩
    refine ⟨fun _ => ?_, fun hz => ?_⟩
    · exact law_end hk hB116 e116 (by omega) (by omega)
    · have hz0 : (q_retainAll S _ _).1 = 0 := nI_z0 (q3_retainAll S _ _) hz
      refine gfL_i hB116.2.2.1 rfl ?_
      refine ⟨fun _ => ?_, fun z => absurd (by rw [hn115 hz0]; exact lg_self _) z⟩
      exact law_end hk hB116 e116 (by omega) (by omega)
  refine ⟨fun _ => ?_, ?_⟩
  · refine sl hi hx 1 (by omega) ?_
    refine sl hi hx 2 (by omega) ?_
    refine sl hi hx 3 (by omega) ?_
    refine ⟨⟨by omega, by omega⟩, ?_⟩
    refine Lc_removeIf hB (fun G118 n118 hB118 hn118 => ?_)
    refine sl hi hx 1 (by omega) ?_
    refine sl hi hx 2 (by omega) ?_
    refine sl hi hx 3 (by omega) ?_
    refine ⟨⟨by omega, by omega⟩, ?_⟩
    refine Lm_removeIf hB118 (fun G119 M119 e119 hB119 => ?_)
    refine m_thr hB119.2.1 e119 ?_
    refine ⟨fun _ => ?_, fun z => absurd rfl z⟩
    refine ⟨fun _ => ?_, fun hz => ?_⟩
    · exact law_end hk hB119 e119 (by omega) (by omega)
    · have hz0 : (q_removeIf S _ _ _).1 = 0 := nI_z0 (q3_removeIf S _ _ _) hz
      refine gfL_i hB119.2.2.1 rfl ?_
      refine ⟨fun _ => ?_, fun z => absurd (by rw [hn118 hz0]; exact lg_self _) z⟩
      exact law_end hk hB119 e119 (by omega) (by omega)
  refine ⟨fun _ => ?_, ?_⟩
  · refine sl hi hx 1 (by omega) ?_
    refine ⟨⟨by omega, by omega⟩, ?_⟩
    refine Lc_clear hB (fun G121 n121 hB121 hn121 => ?_)
    refine sl hi hx 1 (by omega) ?_
    refine Lm_clear hB121 (fun G122 M122 e122 hB122 => ?_)
    refine m_thr hB122.2.1 e122 ?_
    refine ⟨fun _ => ?_, fun z => absurd rfl z⟩
    refine ⟨fun _ => ?_, fun hz => ?_⟩
    · exact law_end hk hB122 e122 (by omega) (by omega)
    · have hz0 : (q_clear S _).1 = 0 := nI_z0 (q3_clear S _) hz
      refine gfL_i hB122.2.2.1 rfl ?_
      refine ⟨fun _ => ?_, fun z => absurd (by rw [hn121 hz0]; exact lg_self _) z⟩
      exact law_end hk hB122 e122 (by omega) (by omega)
  refine ⟨fun _ => ?_, ?_⟩
  · refine sl hi hx 1 (by omega) ?_
    refine sl hi hx 2 (by omega) ?_
    refine sl hi hx 3 (by omega) ?_
    refine ⟨⟨by omega, by omega⟩, ?_⟩
    refine Lc_walkChange hB (fun G124 n124 hB124 hn124 => ?_)
    refine sl hi hx 1 (by omega) ?_
    refine sl hi hx 2 (by omega) ?_
    refine sl hi hx 3 (by omega) ?_
    refine Lm_walkChange hB124 (fun G125 M125 e125 hB125 => ?_)
    refine m_thr hB125.2.1 e125 ?_
    refine ⟨fun _ => ?_, fun z => absurd rfl z⟩
    refine ⟨fun _ => ?_, fun hz => ?_⟩
    · exact law_end hk hB125 e125 (by omega) (by omega)
    · have hz0 : (q_walkChange S _ _ _).1 = 0 := nI_z0 (q3_walkChange S _ _ _) hz
      refine gfL_i hB125.2.2.1 rfl ?_
      refine ⟨fun _ => ?_, fun z => absurd (by rw [hn124 hz0]; exact lg_self _) z⟩
      exact law_end hk hB125 e125 (by omega) (by omega)
  refine ⟨fun _ => ?_, ?_⟩
  · refine Lc_knock hB (fun G127 hB127 => ?_)
    refine Lm_knock hB127 (fun G128 hB128 => ?_)
    refine ⟨fun _ => ?_, fun z => absurd rfl z⟩
    exact law_end hk hB128 rfl (by omega) (by omega)
  refine ⟨fun _ => ?_, ?_⟩
  · refine sl hi hx 1 (by omega) ?_
    refine ⟨⟨by omega, by omega⟩, ?_⟩
    refine Lc_house hB (fun G129 n129 hB129 hn129 => ?_)
    refine sl hi hx 1 (by omega) ?_
    refine ⟨⟨by omega, by omega⟩, ?_⟩
    refine Lm_house hB129 (fun G130 M130 e130 hB130 => ?_)
    refine m_thr hB130.2.1 e130 ?_
    refine ⟨fun _ => ?_, fun z => absurd rfl z⟩
    refine ⟨fun _ => ?_, fun hz => ?_⟩
    · exact law_end hk hB130 e130 (by omega) (by omega)
    · have hz0 : (q_house S _).1 = 0 := nI_z0 (q3_house S _) hz
      refine gfL_i hB130.2.2.1 rfl ?_
      refine ⟨fun _ => ?_, fun z => absurd (by rw [hn129 hz0]; exact lg_self _) z⟩
      exact law_end hk hB130 e130 (by omega) (by omega)
  refine ⟨fun _ => ?_, ?_⟩
  · refine sl hi hx 1 (by omega) ?_
    refine ⟨⟨by omega, by omega⟩, ?_⟩
    refine Lc_rowOf hB (fun G132 n132 hB132 hn132 => ?_)
    refine sl hi hx 1 (by omega) ?_
    refine Lm_rowOf hB132 (fun G133 M133 e133 hB133 => ?_)
    refine m_thr hB133.2.1 e133 ?_
    refine ⟨fun _ => ?_, fun z => absurd rfl z⟩
    refine ⟨fun _ => ?_, fun hz => ?_⟩
    · exact law_end hk hB133 e133 (by omega) (by omega)
    · have hz0 : (q_rowOf S _).1 = 0 := nI_z0 (q3_rowOf S _) hz
      refine gfL_i hB133.2.2.1 rfl ?_
      refine ⟨fun _ => ?_, fun z => absurd (by rw [hn132 hz0]; exact lg_self _) z⟩
      exact law_end hk hB133 e133 (by omega) (by omega)
  refine ⟨fun _ => ?_, ?_⟩
  · refine sl hi hx 1 (by omega) ?_
    refine ⟨⟨by omega, by omega⟩, ?_⟩
    refine Lc_begin hB (fun G135 n135 hB135 hn135 => ?_)
    refine sl hi hx 1 (by omega) ?_
    refine Lm_begin hB135 (fun G136 M136 e136 hB136 => ?_)
    refine m_thr hB136.2.1 e136 ?_
    refine ⟨fun _ => ?_, fun z => absurd rfl z⟩
    refine ⟨fun _ => ?_, fun hz => ?_⟩
    · exact law_end hk hB136 e136 (by omega) (by omega)
    · have hz0 : (q_begin S _).1 = 0 := nI_z0 (q3_begin S _) hz
      refine gfL_i hB136.2.2.1 rfl ?_
      refine ⟨fun _ => ?_, fun z => absurd (by rw [hn135 hz0]; exact lg_self _) z⟩
      exact law_end hk hB136 e136 (by omega) (by omega)
  refine ⟨fun _ => ?_, ?_⟩
  · refine ⟨⟨by omega, by omega⟩, ?_⟩
    refine Lc_isSound hB (fun G138 hB138 => ?_)
    refine Lm_isSound hB138 (fun G139 hB139 => ?_)
    refine ⟨fun _ => ?_, fun z => absurd rfl z⟩
    exact law_end hk hB139 rfl (by omega) (by omega)
  refine ⟨fun _ => ?_, ?_⟩
  · refine ⟨⟨by omega, by omega⟩, ?_⟩
    refine Lc_digest hB (fun G140 hB140 => ?_)
    refine ⟨⟨by omega, by omega⟩, ?_⟩
    refine Lm_digest hB140 (fun G141 hB141 => ?_)
    refine ⟨fun _ => ?_, fun z => absurd (lg_self _) z⟩
    exact law_end hk hB141 rfl (by omega) (by omega)
  exact fun _ => law_end hk hB rfl (by omega) (by omega)
set_option maxRecDepth 20000 in
theorem law_loop (hK : KOK K) (hx : xL ≤ 3072) : ∀ (k t : Nat) (G : tG) (M : tM) (S : tS) (th : Int32) (n : Int64) (s : Value) (nc ns : Nat), t + k = 513 → Bo G L M S S th u n s → nc ≤ 20 + 300 * t → ns ≤ 120 + 7000 * t → w_L_law_27 K xL xs (k + 1) nc ns (some L.1) (some M.1.1) (some u) (nI (6 * t)) G := by
  have h6 : (6 : Int32).toInt = 6 := rfl
  have hsub : (Int32.ofNat xL - (6 : Int32)).toInt = (xL : Int) - 6 := nI_sub (b := 6) (by omega) (by omega)
  intro k
  induction k with
  | zero =>
    intro t G M S th n s nc ns ht hB hnc hns
    show w_L_law_27_b K xL xs (w_L_law_27 K xL xs 0) nc ns (some L.1) (some M.1.1) (some u) (nI (6 * t)) G
    refine ⟨fun _ => rfl, fun z => absurd ?_ z⟩
    rw [i32_lt, hsub, nI_toInt (by omega)]
    omega
  | succ k ih =>
    intro t G M S th n s nc ns ht hB hnc hns
    show w_L_law_27_b K xL xs (w_L_law_27 K xL xs (k + 1)) nc ns (some L.1) (some M.1.1) (some u) (nI (6 * t)) G
    by_cases c : (Int32.ofNat xL - (6 : Int32)) < nI (6 * t)
    · exact ⟨fun _ => rfl, fun z => absurd c z⟩
    · refine law_round hK hx ?_ hB (by omega) (by omega) (fun nc' ns' G' M' S' th' n' s' h1 h2 h3 h4 => ?_) c
      · rw [i32_lt, hsub, nI_toInt (by omega)] at c
        omega
      · have := ih (t + 1) G' M' S' th' n' s' nc' ns' (by omega) h1 (by omega) (by omega)
        rw [h2, show 6 * (t + 1) = 6 * t + 6 by omega] at this
        exact this
theorem law_pure (hK : KOK K) (hx : xL ≤ 3072) : w_L_law K xL xs (fun _ => none) := by
  refine ⟨⟨by omega, by omega⟩, fun x hx0 => ⟨⟨by omega, by omega⟩, ⟨x, rfl⟩, c_init1 (tg_s _ _ _) (fun G1 L e1 h1 f1 w1 => ⟨⟨by omega, by omega⟩, fun y hy => ⟨⟨by omega, by omega⟩, ⟨y, rfl⟩, ?_⟩⟩)⟩⟩
  have h2 := TwR_fresh h1 hy (fun a ha => tg_n G1 (.inr (5, [.null, .null, .null, .null, .int 0, .int 0, .int 0, .long 0])) ha)
  refine m_init (tg_s _ _ _) (fun G2 M e2 h3 f2 w2 => ⟨⟨by omega, by omega⟩, fun u hu => ⟨⟨u, rfl⟩, ⟨u, rfl⟩, ?_⟩⟩)
  subst e1
  subst e2
  have hd : ∀ q, clsW L q → ¬ moW M q := fun q hq hm => by
    obtain ⟨e, he⟩ := TwR_some h1 hq
    rcases w2 q hm with c | c
    · rw [c, hy] at he; cases he
    · rw [(tg_none c).2] at he; cases he
  have h4 : TwR G2 L S_0 := TwR_fr h2 f2 (fun q hq e => hd q hq (Or.inl e)) (fun q fs e hg => by
    have e : q = M.1.1 := e
    rw [e, tg_s] at hg
    cases hg)
  have hB : Bo (tg_up G2 u (oOut 0 .null)) L M S_0 S_0 0 u 0 .null := by
    refine ⟨TwR_fresh h4 hu (fun a ha => tg_n _ _ ha), MoR_fresh h3 hu (fun a ha => tg_n _ _ ha), tg_s _ _ _, hd⟩
  exact ⟨514, law_loop hK hx 513 0 _ M S_0 0 0 .null _ _ (by omega) hB (by omega) (by omega)⟩
end LAW
