/-! the law: its loop, its start -/
theorem sl {xL : Nat} {xs : Nat → Int32} {i0 : Nat} {P : Int32 → Prop} (hi : i0 + 6 ≤ xL) (hx : xL ≤ 3072) (k : Nat) (hk : k < 6) (hp : P (xs (i0 + k))) : sld xL xs (nI i0 + nI k) P :=
  ⟨i0 + k, by rw [nI_add]; exact nI_toInt (by omega), by omega, hp⟩
theorem lg_self (x : Int64) : lg_cmp x x = 0 := by unfold lg_cmp; simp
theorem nI_z0 {a : Nat} (h : a < 3) (hz : nI a = 0) : a = 0 := (nI_eq (b := 0) (by omega) (by omega)).mp hz
def LK (k27 : Nat → Nat → Option Nat → Option Nat → Option Nat → Int32 → tG → Prop) (L : tL) (m0 u i0 nc ns : Nat) : Prop := ∀ (nc' ns' : Nat) (G' : tG) (M' : tM) (S' : tS) (th' : Int32) (n' : Int64) (s' : Value), Bo G' L M' S' S' th' u n' s' → M'.1.1 = m0 → nc' ≤ nc + 300 → ns' ≤ ns + 7000 → k27 nc' ns' (some L.1) (some m0) (some u) (nI (i0 + 6)) G' 
theorem law_end {K : tK} {xL : Nat} {xs : Nat → Int32} {k27 : Nat → Nat → Option Nat → Option Nat → Option Nat → Int32 → tG → Prop} {L : tL} {M M' : tM} {u i0 nc ns nc' ns' : Nat} {G' : tG} {S' : tS} {th' : Int32} {n' : Int64} {s' : Value} (hk : LK k27 L M.1.1 u i0 nc ns) (hB : Bo G' L M' S' S' th' u n' s') (e : M'.1 = M.1) (h1 : nc' ≤ nc + 300) (h2 : ns' ≤ ns + 7000) : w_L_law_2056 K xL xs k27 nc' ns' (some L.1) (some M.1.1) (some u) (nI i0) G' := by
  show k27 nc' ns' (some L.1) (some M.1.1) (some u) (nI i0 + 6) G'
  rw [show nI i0 + (6 : Int32) = nI (i0 + 6) from nI_add i0 6]
  exact hk nc' ns' G' M' S' th' n' s' hB (by rw [e]) h1 h2
section LAW
variable {K : tK} {xL : Nat} {xs : Nat → Int32} {k27 : Nat → Nat → Option Nat → Option Nat → Option Nat → Int32 → tG → Prop} {G : tG} {L : tL} {M : tM} {S : tS} {th : Int32} {u i0 nc ns : Nat} {n : Int64} {s : Value}
theorem law_round (hK : KOK K) (hx : xL ≤ 3072) (hi : i0 + 6 ≤ xL) (hB : Bo G L M S S th u n s) (hnc : nc + 300 ≤ 646169) (hns : ns + 7000 ≤ 7157597) (hk : LK k27 L M.1.1 u i0 nc ns) (hne : ¬ (Int32.ofNat xL - (6 : Int32)) < nI i0) : w_L_law_27_b K xL xs k27 nc ns (some L.1) (some M.1.1) (some u) (nI i0) G := by
  refine ⟨fun z => absurd z hne, fun _ => ⟨i0, nI_toInt (by omega), by omega, ?_⟩⟩
  refine ⟨fun _ => ?_, ?_⟩
  · refine sl hi hx 1 (by omega) ?_
    refine sl hi hx 2 (by omega) ?_
    refine ⟨⟨by omega, by omega⟩, ?_⟩
    refine Lc_lay hB (fun G1 n1 hB1 hn1 => ?_)
    refine sl hi hx 1 (by omega) ?_
    refine sl hi hx 2 (by omega) ?_
    refine ⟨⟨by omega, by omega⟩, ?_⟩
    refine Lm_lay hB1 (fun G2 M2 e2 hB2 => ?_)
    exact law_end hk hB2 e2 (by omega) (by omega)
  refine ⟨fun _ => ?_, ?_⟩
  · refine sl hi hx 1 (by omega) ?_
    refine sl hi hx 2 (by omega) ?_
    refine sl hi hx 3 (by omega) ?_
    refine ⟨⟨by omega, by omega⟩, ?_⟩
    refine Lc_put hB (fun G3 n3 hB3 hn3 => ?_)
    refine sl hi hx 1 (by omega) ?_
    refine sl hi hx 2 (by omega) ?_
    refine sl hi hx 3 (by omega) ?_
    refine Lm_put hB3 (fun G4 M4 e4 hB4 => ?_)
    exact law_end hk hB4 e4 (by omega) (by omega)
  refine ⟨fun _ => ?_, ?_⟩
  · refine sl hi hx 1 (by omega) ?_
    refine sl hi hx 2 (by omega) ?_
    refine ⟨⟨by omega, by omega⟩, ?_⟩
    refine Lc_at hB (fun G5 n5 hB5 hn5 => ?_)
    refine sl hi hx 1 (by omega) ?_
    refine sl hi hx 2 (by omega) ?_
    refine Lm_at hB5 (fun G6 M6 e6 hB6 => ?_)
    exact law_end hk hB6 e6 (by omega) (by omega)
  refine ⟨fun _ => ?_, ?_⟩
  · refine sl hi hx 1 (by omega) ?_
    refine sl hi hx 2 (by omega) ?_
    refine sl hi hx 3 (by omega) ?_
    refine sl hi hx 4 (by omega) ?_
    refine ⟨⟨by omega, by omega⟩, ?_⟩
    refine Lc_part hB (fun G7 n7 hB7 hn7 => ?_)
    refine sl hi hx 1 (by omega) ?_
    refine sl hi hx 2 (by omega) ?_
    refine sl hi hx 3 (by omega) ?_
    refine sl hi hx 4 (by omega) ?_
    refine Lm_part hB7 (fun G8 M8 e8 hB8 => ?_)
    exact law_end hk hB8 e8 (by omega) (by omega)
  refine ⟨fun _ => ?_, ?_⟩
  · refine sl hi hx 1 (by omega) ?_
    refine sl hi hx 2 (by omega) ?_
    refine sl hi hx 3 (by omega) ?_
    refine ⟨⟨by omega, by omega⟩, ?_⟩
    refine Lc_set hB (fun G9 n9 hB9 hn9 => ?_)
    refine sl hi hx 1 (by omega) ?_
    refine sl hi hx 2 (by omega) ?_
    refine sl hi hx 3 (by omega) ?_
    refine Lm_set hB9 (fun G10 M10 e10 hB10 => ?_)
    exact law_end hk hB10 e10 (by omega) (by omega)
  refine ⟨fun _ => ?_, ?_⟩
  · refine sl hi hx 1 (by omega) ?_
    refine sl hi hx 2 (by omega) ?_
    refine ⟨⟨by omega, by omega⟩, ?_⟩
    refine Lc_get hB (fun G11 n11 hB11 hn11 => ?_)
    refine sl hi hx 1 (by omega) ?_
    refine sl hi hx 2 (by omega) ?_
    refine Lm_get hB11 (fun G12 M12 e12 hB12 => ?_)
    exact law_end hk hB12 e12 (by omega) (by omega)
  refine ⟨fun _ => ?_, ?_⟩
  · refine sl hi hx 1 (by omega) ?_
    refine ⟨⟨by omega, by omega⟩, ?_⟩
    refine Lc_length hB (fun G13 n13 hB13 hn13 => ?_)
    refine sl hi hx 1 (by omega) ?_
    refine Lm_length hB13 (fun G14 M14 e14 hB14 => ?_)
    exact law_end hk hB14 e14 (by omega) (by omega)
  refine ⟨fun _ => ?_, ?_⟩
  · refine sl hi hx 1 (by omega) ?_
    refine ⟨⟨by omega, by omega⟩, ?_⟩
    refine Lc_isEmpty hB (fun G15 n15 hB15 hn15 => ?_)
    refine sl hi hx 1 (by omega) ?_
    refine Lm_isEmpty hB15 (fun G16 M16 e16 hB16 => ?_)
    exact law_end hk hB16 e16 (by omega) (by omega)
  refine ⟨fun _ => ?_, ?_⟩
  · refine sl hi hx 1 (by omega) ?_
    refine ⟨70, 600, by omega, by omega, ?_⟩
    refine Lc_text hK hB (Nat.le_refl _) (Nat.le_refl _) (fun _ G17 s17 hB17 => ?_)
    refine sl hi hx 1 (by omega) ?_
    refine ⟨160, 3200, by omega, by omega, ?_⟩
    refine Lm_text hK hB17 (Nat.le_refl _) (Nat.le_refl _) (fun _ G18 th18 hB18 => ?_)
    exact law_end hk hB18 rfl (by omega) (by omega)
  refine ⟨fun _ => ?_, ?_⟩
  · refine sl hi hx 1 (by omega) ?_
    refine ⟨70, 600, by omega, by omega, ?_⟩
    refine Lc_back hK hB (Nat.le_refl _) (Nat.le_refl _) (fun _ G19 s19 hB19 => ?_)
    refine sl hi hx 1 (by omega) ?_
    refine ⟨160, 3200, by omega, by omega, ?_⟩
    refine Lm_back hK hB19 (Nat.le_refl _) (Nat.le_refl _) (fun _ G20 th20 hB20 => ?_)
    exact law_end hk hB20 rfl (by omega) (by omega)
  refine ⟨fun _ => ?_, ?_⟩
  · refine sl hi hx 1 (by omega) ?_
    refine sl hi hx 2 (by omega) ?_
    refine ⟨⟨by omega, by omega⟩, ?_⟩
    refine Lc_indexOf hB (fun G21 n21 hB21 hn21 => ?_)
    refine sl hi hx 1 (by omega) ?_
    refine sl hi hx 2 (by omega) ?_
    refine ⟨⟨by omega, by omega⟩, ?_⟩
    refine Lm_indexOf hB21 (fun G22 M22 e22 hB22 => ?_)
    exact law_end hk hB22 e22 (by omega) (by omega)
  refine ⟨fun _ => ?_, ?_⟩
  · refine sl hi hx 1 (by omega) ?_
    refine sl hi hx 2 (by omega) ?_
    refine ⟨⟨by omega, by omega⟩, ?_⟩
    refine Lc_lastIndexOf hB (fun G23 n23 hB23 hn23 => ?_)
    refine sl hi hx 1 (by omega) ?_
    refine sl hi hx 2 (by omega) ?_
    refine Lm_lastIndexOf hB23 (fun G24 M24 e24 hB24 => ?_)
    exact law_end hk hB24 e24 (by omega) (by omega)
  refine ⟨fun _ => ?_, ?_⟩
  · refine sl hi hx 1 (by omega) ?_
    refine sl hi hx 2 (by omega) ?_
    refine ⟨⟨by omega, by omega⟩, ?_⟩
    refine Lc_has hB (fun G25 n25 hB25 hn25 => ?_)
    refine sl hi hx 1 (by omega) ?_
    refine sl hi hx 2 (by omega) ?_
    refine ⟨⟨by omega, by omega⟩, ?_⟩
    refine Lm_has hB25 (fun G26 M26 e26 hB26 => ?_)
    exact law_end hk hB26 e26 (by omega) (by omega)
  refine ⟨fun _ => ?_, ?_⟩
  · refine sl hi hx 1 (by omega) ?_
    refine sl hi hx 2 (by omega) ?_
    refine ⟨⟨by omega, by omega⟩, ?_⟩
    refine Lc_often hB (fun G27 n27 hB27 hn27 => ?_)
    refine sl hi hx 1 (by omega) ?_
    refine sl hi hx 2 (by omega) ?_
    refine ⟨⟨by omega, by omega⟩, ?_⟩
    refine Lm_often hB27 (fun G28 M28 e28 hB28 => ?_)
    exact law_end hk hB28 e28 (by omega) (by omega)
  refine ⟨fun _ => ?_, ?_⟩
  · refine sl hi hx 1 (by omega) ?_
    refine sl hi hx 2 (by omega) ?_
    refine ⟨⟨by omega, by omega⟩, ?_⟩
    refine Lc_hasAll hB (fun G29 n29 hB29 hn29 => ?_)
    refine sl hi hx 1 (by omega) ?_
    refine sl hi hx 2 (by omega) ?_
    refine ⟨⟨by omega, by omega⟩, ?_⟩
    refine Lm_hasAll hB29 (fun G30 M30 e30 hB30 => ?_)
    exact law_end hk hB30 e30 (by omega) (by omega)
  refine ⟨fun _ => ?_, ?_⟩
  · refine sl hi hx 1 (by omega) ?_
    refine sl hi hx 2 (by omega) ?_
    refine ⟨⟨by omega, by omega⟩, ?_⟩
    refine Lc_areApart hB (fun G31 n31 hB31 hn31 => ?_)
    refine sl hi hx 1 (by omega) ?_
    refine sl hi hx 2 (by omega) ?_
    refine ⟨⟨by omega, by omega⟩, ?_⟩
    refine Lm_areApart hB31 (fun G32 M32 e32 hB32 => ?_)
    exact law_end hk hB32 e32 (by omega) (by omega)
  refine ⟨fun _ => ?_, ?_⟩
  · refine sl hi hx 1 (by omega) ?_
    refine sl hi hx 2 (by omega) ?_
    refine ⟨⟨by omega, by omega⟩, ?_⟩
    refine Lc_indexOfAll hB (fun G33 n33 hB33 hn33 => ?_)
    refine sl hi hx 1 (by omega) ?_
    refine sl hi hx 2 (by omega) ?_
    refine ⟨⟨by omega, by omega⟩, ?_⟩
    refine Lm_indexOfAll hB33 (fun G34 M34 e34 hB34 => ?_)
    exact law_end hk hB34 e34 (by omega) (by omega)
  refine ⟨fun _ => ?_, ?_⟩
  · refine sl hi hx 1 (by omega) ?_
    refine sl hi hx 2 (by omega) ?_
    refine ⟨⟨by omega, by omega⟩, ?_⟩
    refine Lc_areEqual hB (fun G35 n35 hB35 hn35 => ?_)
    refine sl hi hx 1 (by omega) ?_
    refine sl hi hx 2 (by omega) ?_
    refine ⟨⟨by omega, by omega⟩, ?_⟩
    refine Lm_areEqual hB35 (fun G36 M36 e36 hB36 => ?_)
    exact law_end hk hB36 e36 (by omega) (by omega)
  refine ⟨fun _ => ?_, ?_⟩
  · refine sl hi hx 1 (by omega) ?_
    refine ⟨⟨by omega, by omega⟩, ?_⟩
    refine Lc_code hB (fun G37 n37 hB37 hn37 => ?_)
    refine sl hi hx 1 (by omega) ?_
    refine ⟨⟨by omega, by omega⟩, ?_⟩
    refine Lm_code hB37 (fun G38 M38 e38 hB38 => ?_)
    exact law_end hk hB38 e38 (by omega) (by omega)
  refine ⟨fun _ => ?_, ?_⟩
  · by_cases c : xs (i0 + 4) = 0
    · refine sl hi hx 1 (by omega) ?_
      refine sl hi hx 2 (by omega) ?_
      refine sl hi hx 3 (by omega) ?_
      refine sl hi hx 4 (by omega) ?_
      refine ⟨fun _ => ?_, fun z => absurd c z⟩
      unfold w_L_law_1021
      refine ⟨70, 600, by omega, by omega, ?_⟩
      refine Lc_walk hK hB (Nat.le_refl _) (Nat.le_refl _) (fun _ G39 s39 hB39 => ?_)
      refine sl hi hx 1 (by omega) ?_
      refine sl hi hx 2 (by omega) ?_
      refine sl hi hx 3 (by omega) ?_
      refine sl hi hx 4 (by omega) ?_
      refine ⟨fun _ => ?_, fun z => absurd c z⟩
      unfold w_L_law_1060
      refine ⟨200, 6100, by omega, by omega, ?_⟩
      refine Lm_walk hK hB39 (Nat.le_refl _) (Nat.le_refl _) (fun _ G40 th40 hB40 => ?_)
      exact law_end hk hB40 rfl (by omega) (by omega)
    · refine sl hi hx 1 (by omega) ?_
      refine sl hi hx 2 (by omega) ?_
      refine sl hi hx 3 (by omega) ?_
      refine sl hi hx 4 (by omega) ?_
      refine ⟨fun z => absurd z c, fun _ => ?_⟩
      unfold w_L_law_1021
      refine ⟨70, 600, by omega, by omega, ?_⟩
      refine Lc_walk hK hB (Nat.le_refl _) (Nat.le_refl _) (fun _ G41 s41 hB41 => ?_)
      refine sl hi hx 1 (by omega) ?_
      refine sl hi hx 2 (by omega) ?_
      refine sl hi hx 3 (by omega) ?_
      refine sl hi hx 4 (by omega) ?_
      refine ⟨fun z => absurd z c, fun _ => ?_⟩
      unfold w_L_law_1060
      refine ⟨200, 6100, by omega, by omega, ?_⟩
      refine Lm_walk hK hB41 (Nat.le_refl _) (Nat.le_refl _) (fun _ G42 th42 hB42 => ?_)
      exact law_end hk hB42 rfl (by omega) (by omega)
  refine ⟨fun _ => ?_, ?_⟩
  · refine sl hi hx 1 (by omega) ?_
    refine ⟨⟨by omega, by omega⟩, ?_⟩
    refine Lc_sum hB (fun G43 n43 hB43 hn43 => ?_)
    refine sl hi hx 1 (by omega) ?_
    refine ⟨⟨by omega, by omega⟩, ?_⟩
    refine Lm_sum hB43 (fun G44 M44 e44 hB44 => ?_)
    exact law_end hk hB44 e44 (by omega) (by omega)
  refine ⟨fun _ => ?_, ?_⟩
  · by_cases c : xs (i0 + 5) = 0
    · refine sl hi hx 1 (by omega) ?_
      refine sl hi hx 2 (by omega) ?_
      refine sl hi hx 3 (by omega) ?_
      refine sl hi hx 4 (by omega) ?_
      refine sl hi hx 5 (by omega) ?_
      refine ⟨fun _ => ?_, fun z => absurd c z⟩
      unfold w_L_law_1135
      refine ⟨⟨by omega, by omega⟩, ?_⟩
      refine Lc_walkSet hB (fun G45 n45 hB45 hn45 => ?_)
      refine sl hi hx 1 (by omega) ?_
      refine sl hi hx 2 (by omega) ?_
      refine sl hi hx 3 (by omega) ?_
      refine sl hi hx 4 (by omega) ?_
      refine sl hi hx 5 (by omega) ?_
      refine ⟨fun _ => ?_, fun z => absurd c z⟩
      unfold w_L_law_1180
      refine Lm_walkSet hB45 (fun G46 M46 e46 hB46 => ?_)
      exact law_end hk hB46 e46 (by omega) (by omega)
    · refine sl hi hx 1 (by omega) ?_
      refine sl hi hx 2 (by omega) ?_
      refine sl hi hx 3 (by omega) ?_
      refine sl hi hx 4 (by omega) ?_
      refine sl hi hx 5 (by omega) ?_
      refine ⟨fun z => absurd z c, fun _ => ?_⟩
      unfold w_L_law_1135
      refine ⟨⟨by omega, by omega⟩, ?_⟩
      refine Lc_walkSet hB (fun G47 n47 hB47 hn47 => ?_)
      refine sl hi hx 1 (by omega) ?_
      refine sl hi hx 2 (by omega) ?_
      refine sl hi hx 3 (by omega) ?_
      refine sl hi hx 4 (by omega) ?_
      refine sl hi hx 5 (by omega) ?_
      refine ⟨fun z => absurd z c, fun _ => ?_⟩
      unfold w_L_law_1180
      refine Lm_walkSet hB47 (fun G48 M48 e48 hB48 => ?_)
      exact law_end hk hB48 e48 (by omega) (by omega)
  refine ⟨fun _ => ?_, ?_⟩
  · refine sl hi hx 1 (by omega) ?_
    refine sl hi hx 2 (by omega) ?_
    refine sl hi hx 3 (by omega) ?_
    refine ⟨⟨by omega, by omega⟩, ?_⟩
    refine Lc_replaceAll hB (fun G49 n49 hB49 hn49 => ?_)
    refine sl hi hx 1 (by omega) ?_
    refine sl hi hx 2 (by omega) ?_
    refine sl hi hx 3 (by omega) ?_
    refine Lm_replaceAll hB49 (fun G50 M50 e50 hB50 => ?_)
    exact law_end hk hB50 e50 (by omega) (by omega)
  refine ⟨fun _ => ?_, ?_⟩
  · refine sl hi hx 1 (by omega) ?_
    refine sl hi hx 2 (by omega) ?_
    refine sl hi hx 3 (by omega) ?_
    refine ⟨⟨by omega, by omega⟩, ?_⟩
    refine Lc_replaceOld hB (fun G51 n51 hB51 hn51 => ?_)
    refine sl hi hx 1 (by omega) ?_
    refine sl hi hx 2 (by omega) ?_
    refine sl hi hx 3 (by omega) ?_
    refine ⟨⟨by omega, by omega⟩, ?_⟩
    refine Lm_replaceOld hB51 (fun G52 M52 e52 hB52 => ?_)
    exact law_end hk hB52 e52 (by omega) (by omega)
  refine ⟨fun _ => ?_, ?_⟩
  · refine sl hi hx 1 (by omega) ?_
    refine sl hi hx 2 (by omega) ?_
    refine ⟨⟨by omega, by omega⟩, ?_⟩
    refine Lc_fill hB (fun G53 n53 hB53 hn53 => ?_)
    refine sl hi hx 1 (by omega) ?_
    refine sl hi hx 2 (by omega) ?_
    refine Lm_fill hB53 (fun G54 M54 e54 hB54 => ?_)
    exact law_end hk hB54 e54 (by omega) (by omega)
  refine ⟨fun _ => ?_, ?_⟩
  · by_cases c : xs (i0 + 2) = 0
    · refine sl hi hx 1 (by omega) ?_
      refine sl hi hx 2 (by omega) ?_
      refine ⟨fun _ => ?_, fun z => absurd c z⟩
      unfold w_L_law_1353
      refine ⟨⟨by omega, by omega⟩, ?_⟩
      refine Lc_sort hB (fun G55 n55 hB55 hn55 => ?_)
      refine sl hi hx 1 (by omega) ?_
      refine sl hi hx 2 (by omega) ?_
      refine ⟨fun _ => ?_, fun z => absurd c z⟩
      unfold w_L_law_1380
      refine ⟨⟨by omega, by omega⟩, ?_⟩
      refine Lm_sort hB55 (fun G56 M56 e56 hB56 => ?_)
      exact law_end hk hB56 e56 (by omega) (by omega)
    · refine sl hi hx 1 (by omega) ?_
      refine sl hi hx 2 (by omega) ?_
      refine ⟨fun z => absurd z c, fun _ => ?_⟩
      unfold w_L_law_1353
      refine ⟨⟨by omega, by omega⟩, ?_⟩
      refine Lc_sort hB (fun G57 n57 hB57 hn57 => ?_)
      refine sl hi hx 1 (by omega) ?_
      refine sl hi hx 2 (by omega) ?_
      refine ⟨fun z => absurd z c, fun _ => ?_⟩
      unfold w_L_law_1380
      refine ⟨⟨by omega, by omega⟩, ?_⟩
      refine Lm_sort hB57 (fun G58 M58 e58 hB58 => ?_)
      exact law_end hk hB58 e58 (by omega) (by omega)
  refine ⟨fun _ => ?_, ?_⟩
  · refine sl hi hx 1 (by omega) ?_
    refine ⟨⟨by omega, by omega⟩, ?_⟩
    refine Lc_reverse hB (fun G59 n59 hB59 hn59 => ?_)
    refine sl hi hx 1 (by omega) ?_
    refine ⟨⟨by omega, by omega⟩, ?_⟩
    refine Lm_reverse hB59 (fun G60 M60 e60 hB60 => ?_)
    exact law_end hk hB60 e60 (by omega) (by omega)
  refine ⟨fun _ => ?_, ?_⟩
  · refine sl hi hx 1 (by omega) ?_
    refine sl hi hx 2 (by omega) ?_
    refine ⟨⟨by omega, by omega⟩, ?_⟩
    refine Lc_rotate hB (fun G61 n61 hB61 hn61 => ?_)
    refine sl hi hx 1 (by omega) ?_
    refine sl hi hx 2 (by omega) ?_
    refine ⟨⟨by omega, by omega⟩, ?_⟩
    refine Lm_rotate hB61 (fun G62 M62 e62 hB62 => ?_)
    exact law_end hk hB62 e62 (by omega) (by omega)
  refine ⟨fun _ => ?_, ?_⟩
  · refine sl hi hx 1 (by omega) ?_
    refine sl hi hx 2 (by omega) ?_
    refine sl hi hx 3 (by omega) ?_
    refine ⟨⟨by omega, by omega⟩, ?_⟩
    refine Lc_swap hB (fun G63 n63 hB63 hn63 => ?_)
    refine sl hi hx 1 (by omega) ?_
    refine sl hi hx 2 (by omega) ?_
    refine sl hi hx 3 (by omega) ?_
    refine Lm_swap hB63 (fun G64 M64 e64 hB64 => ?_)
    exact law_end hk hB64 e64 (by omega) (by omega)
  refine ⟨fun _ => ?_, ?_⟩
  · refine sl hi hx 1 (by omega) ?_
    refine sl hi hx 2 (by omega) ?_
    refine ⟨⟨by omega, by omega⟩, ?_⟩
    refine Lc_add hB (fun G65 n65 hB65 hn65 => ?_)
    refine sl hi hx 1 (by omega) ?_
    refine sl hi hx 2 (by omega) ?_
    refine Lm_add hB65 (fun G66 M66 e66 hB66 => ?_)
    exact law_end hk hB66 e66 (by omega) (by omega)
  refine ⟨fun _ => ?_, ?_⟩
  · refine sl hi hx 1 (by omega) ?_
    refine sl hi hx 2 (by omega) ?_
    refine sl hi hx 3 (by omega) ?_
    refine ⟨⟨by omega, by omega⟩, ?_⟩
    refine Lc_addAt hB (fun G67 n67 hB67 hn67 => ?_)
    refine sl hi hx 1 (by omega) ?_
    refine sl hi hx 2 (by omega) ?_
    refine sl hi hx 3 (by omega) ?_
    refine Lm_addAt hB67 (fun G68 M68 e68 hB68 => ?_)
    exact law_end hk hB68 e68 (by omega) (by omega)
  refine ⟨fun _ => ?_, ?_⟩
  · refine sl hi hx 1 (by omega) ?_
    refine sl hi hx 2 (by omega) ?_
    refine ⟨⟨by omega, by omega⟩, ?_⟩
    refine Lc_addAll hB (fun G69 n69 hB69 hn69 => ?_)
    refine sl hi hx 1 (by omega) ?_
    refine sl hi hx 2 (by omega) ?_
    refine Lm_addAll hB69 (fun G70 M70 e70 hB70 => ?_)
    exact law_end hk hB70 e70 (by omega) (by omega)
  refine ⟨fun _ => ?_, ?_⟩
  · refine sl hi hx 1 (by omega) ?_
    refine sl hi hx 2 (by omega) ?_
    refine ⟨⟨by omega, by omega⟩, ?_⟩
    refine Lc_remove hB (fun G71 n71 hB71 hn71 => ?_)
    refine sl hi hx 1 (by omega) ?_
    refine sl hi hx 2 (by omega) ?_
    refine Lm_remove hB71 (fun G72 M72 e72 hB72 => ?_)
    exact law_end hk hB72 e72 (by omega) (by omega)
  refine ⟨fun _ => ?_, ?_⟩
  · refine sl hi hx 1 (by omega) ?_
    refine sl hi hx 2 (by omega) ?_
    refine ⟨⟨by omega, by omega⟩, ?_⟩
    refine Lc_removeValue hB (fun G73 n73 hB73 hn73 => ?_)
    refine sl hi hx 1 (by omega) ?_
    refine sl hi hx 2 (by omega) ?_
    refine ⟨⟨by omega, by omega⟩, ?_⟩
    refine Lm_removeValue hB73 (fun G74 M74 e74 hB74 => ?_)
    exact law_end hk hB74 e74 (by omega) (by omega)
  refine ⟨fun _ => ?_, ?_⟩
  · refine sl hi hx 1 (by omega) ?_
    refine sl hi hx 2 (by omega) ?_
    refine ⟨⟨by omega, by omega⟩, ?_⟩
    refine Lc_removeAll hB (fun G75 n75 hB75 hn75 => ?_)
    refine sl hi hx 1 (by omega) ?_
    refine sl hi hx 2 (by omega) ?_
    refine ⟨⟨by omega, by omega⟩, ?_⟩
    refine Lm_removeAll hB75 (fun G76 M76 e76 hB76 => ?_)
    exact law_end hk hB76 e76 (by omega) (by omega)
  refine ⟨fun _ => ?_, ?_⟩
  · refine sl hi hx 1 (by omega) ?_
    refine sl hi hx 2 (by omega) ?_
    refine ⟨⟨by omega, by omega⟩, ?_⟩
    refine Lc_retainAll hB (fun G77 n77 hB77 hn77 => ?_)
    refine sl hi hx 1 (by omega) ?_
    refine sl hi hx 2 (by omega) ?_
    refine ⟨⟨by omega, by omega⟩, ?_⟩
    refine Lm_retainAll hB77 (fun G78 M78 e78 hB78 => ?_)
    exact law_end hk hB78 e78 (by omega) (by omega)
  refine ⟨fun _ => ?_, ?_⟩
  · refine sl hi hx 1 (by omega) ?_
    refine sl hi hx 2 (by omega) ?_
    refine sl hi hx 3 (by omega) ?_
    refine ⟨⟨by omega, by omega⟩, ?_⟩
    refine Lc_removeIf hB (fun G79 n79 hB79 hn79 => ?_)
    refine sl hi hx 1 (by omega) ?_
    refine sl hi hx 2 (by omega) ?_
    refine sl hi hx 3 (by omega) ?_
    refine ⟨⟨by omega, by omega⟩, ?_⟩
    refine Lm_removeIf hB79 (fun G80 M80 e80 hB80 => ?_)
    exact law_end hk hB80 e80 (by omega) (by omega)
  refine ⟨fun _ => ?_, ?_⟩
  · refine sl hi hx 1 (by omega) ?_
    refine ⟨⟨by omega, by omega⟩, ?_⟩
    refine Lc_clear hB (fun G81 n81 hB81 hn81 => ?_)
    refine sl hi hx 1 (by omega) ?_
    refine Lm_clear hB81 (fun G82 M82 e82 hB82 => ?_)
    exact law_end hk hB82 e82 (by omega) (by omega)
  refine ⟨fun _ => ?_, ?_⟩
  · refine sl hi hx 1 (by omega) ?_
    refine sl hi hx 2 (by omega) ?_
    refine sl hi hx 3 (by omega) ?_
    refine ⟨⟨by omega, by omega⟩, ?_⟩
    refine Lc_walkChange hB (fun G83 n83 hB83 hn83 => ?_)
    refine sl hi hx 1 (by omega) ?_
    refine sl hi hx 2 (by omega) ?_
    refine sl hi hx 3 (by omega) ?_
    refine Lm_walkChange hB83 (fun G84 M84 e84 hB84 => ?_)
    exact law_end hk hB84 e84 (by omega) (by omega)
  refine ⟨fun _ => ?_, ?_⟩
  · refine Lc_knock hB (fun G85 hB85 => ?_)
    refine Lm_knock hB85 (fun G86 hB86 => ?_)
    exact law_end hk hB86 rfl (by omega) (by omega)
  refine ⟨fun _ => ?_, ?_⟩
  · refine sl hi hx 1 (by omega) ?_
    refine ⟨⟨by omega, by omega⟩, ?_⟩
    refine Lc_house hB (fun G87 n87 hB87 hn87 => ?_)
    refine sl hi hx 1 (by omega) ?_
    refine ⟨⟨by omega, by omega⟩, ?_⟩
    refine Lm_house hB87 (fun G88 M88 e88 hB88 => ?_)
    exact law_end hk hB88 e88 (by omega) (by omega)
  refine ⟨fun _ => ?_, ?_⟩
  · refine sl hi hx 1 (by omega) ?_
    refine ⟨⟨by omega, by omega⟩, ?_⟩
    refine Lc_rowOf hB (fun G89 n89 hB89 hn89 => ?_)
    refine sl hi hx 1 (by omega) ?_
    refine Lm_rowOf hB89 (fun G90 M90 e90 hB90 => ?_)
    exact law_end hk hB90 e90 (by omega) (by omega)
  refine ⟨fun _ => ?_, ?_⟩
  · refine sl hi hx 1 (by omega) ?_
    refine ⟨⟨by omega, by omega⟩, ?_⟩
    refine Lc_begin hB (fun G91 n91 hB91 hn91 => ?_)
    refine sl hi hx 1 (by omega) ?_
    refine Lm_begin hB91 (fun G92 M92 e92 hB92 => ?_)
    exact law_end hk hB92 e92 (by omega) (by omega)
  refine ⟨fun _ => ?_, ?_⟩
  · refine ⟨⟨by omega, by omega⟩, ?_⟩
    refine Lc_isSound hB (fun G93 hB93 => ?_)
    refine Lm_isSound hB93 (fun G94 hB94 => ?_)
    exact law_end hk hB94 rfl (by omega) (by omega)
  refine ⟨fun _ => ?_, ?_⟩
  · refine ⟨⟨by omega, by omega⟩, ?_⟩
    refine Lc_digest hB (fun G95 hB95 => ?_)
    refine ⟨⟨by omega, by omega⟩, ?_⟩
    refine Lm_digest hB95 (fun G96 hB96 => ?_)
    refine ⟨fun _ => ?_, fun z => absurd (lg_self _) z⟩
    exact law_end hk hB96 rfl (by omega) (by omega)
  exact fun _ => law_end hk hB rfl (by omega) (by omega)
set_option maxRecDepth 20000 in
theorem law_loop (hK : KOK K) (hx : xL ≤ 3072) : ∀ (k t : Nat) (G : tG) (M : tM) (S : tS) (th : Int32) (n : Int64) (s : Value) (nc ns : Nat), t + k = 513 → Bo G L M S S th u n s → nc ≤ 20 + 300 * t → ns ≤ 120 + 7000 * t → w_L_law_27 K xL xs (k + 1) nc ns (some L.1) (some M.1.1) (some u) (nI (6 * t)) G := by
  have h6 : (6 : Int32).toInt = 6 := rfl
  have hsub : (Int32.ofNat xL - (6 : Int32)).toInt = (xL : Int) - 6 := nI_sub (b := 6) (by omega) (by omega)
  intro k
  induction k with
  | zero =>
    intro t G M S th n s nc ns ht hB hnc hns
    show w_L_law_27_b K xL xs (w_L_law_27 K xL xs 0) nc ns (some L.1) (some M.1.1) (some u) (nI (6 * t)) G
    refine ⟨fun _ => rfl, fun z => absurd ?_ z⟩
    rw [i32_lt, hsub, nI_toInt (by omega)]
    omega
  | succ k ih =>
    intro t G M S th n s nc ns ht hB hnc hns
    show w_L_law_27_b K xL xs (w_L_law_27 K xL xs (k + 1)) nc ns (some L.1) (some M.1.1) (some u) (nI (6 * t)) G
    by_cases c : (Int32.ofNat xL - (6 : Int32)) < nI (6 * t)
    · exact ⟨fun _ => rfl, fun z => absurd c z⟩
    · refine law_round hK hx ?_ hB (by omega) (by omega) (fun nc' ns' G' M' S' th' n' s' h1 h2 h3 h4 => ?_) c
      · rw [i32_lt, hsub, nI_toInt (by omega)] at c
        omega
      · have := ih (t + 1) G' M' S' th' n' s' nc' ns' (by omega) h1 (by omega) (by omega)
        rw [h2, show 6 * (t + 1) = 6 * t + 6 by omega] at this
        exact this
theorem law_pure (hK : KOK K) (hx : xL ≤ 3072) : w_L_law K xL xs (fun _ => none) := by
  refine ⟨⟨by omega, by omega⟩, fun x hx0 => ⟨⟨by omega, by omega⟩, ⟨x, rfl⟩, c_init1 (tg_s _ _ _) (fun G1 L e1 h1 f1 w1 => ⟨⟨by omega, by omega⟩, fun y hy => ⟨⟨by omega, by omega⟩, ⟨y, rfl⟩, ?_⟩⟩)⟩⟩
  have h2 := TwR_fresh h1 hy (fun a ha => tg_n G1 (.inr (5, [.null, .null, .null, .null, .int 0, .int 0, .int 0, .long 0])) ha)
  refine m_init (tg_s _ _ _) (fun G2 M e2 h3 f2 w2 => ⟨⟨by omega, by omega⟩, fun u hu => ⟨⟨u, rfl⟩, ⟨u, rfl⟩, ?_⟩⟩)
  subst e1
  subst e2
  have hd : ∀ q, clsW L q → ¬ moW M q := fun q hq hm => by
    obtain ⟨e, he⟩ := TwR_some h1 hq
    rcases w2 q hm with c | c
    · rw [c, hy] at he; cases he
    · rw [(tg_none c).2] at he; cases he
  have h4 : TwR G2 L S_0 := TwR_fr h2 f2 (fun q hq e => hd q hq (Or.inl e)) (fun q fs e hg => by
    have e : q = M.1.1 := e
    rw [e, tg_s] at hg
    cases hg)
  have hB : Bo (tg_up G2 u (oOut 0 .null)) L M S_0 S_0 0 u 0 .null := by
    refine ⟨TwR_fresh h4 hu (fun a ha => tg_n _ _ ha), MoR_fresh h3 hu (fun a ha => tg_n _ _ ha), tg_s _ _ _, hd⟩
  exact ⟨514, law_loop hK hx 513 0 _ M S_0 0 0 .null _ _ (by omega) hB (by omega) (by omega)⟩
end LAW
