def ro1 (q : Option (Nat × Nat × Nat)) : Int32 := match q with | none => -1 | some (r, _, _) => nI r
def be1 (q : Option (Nat × Nat × Nat)) : Int32 := match q with | none => -1 | some (_, b, _) => nI b
def mlF (S : tS) (c : Int64) (j : Nat) : Int64 := match S.1 j with
  | none => mxF (mxF c (-1 : Int32).toInt64) (-1 : Int32).toInt64
  | some (r, b, n) => mxF (mxF (mxF (mxF (mxF c (nI r).toInt64) (nI b).toInt64) (nI n).toInt64) (coF (S_v S r b) n).toInt64) (suF (S_v S r b) n).toInt64
section CLS
variable {K : tK} {G : tG} {L : tL} {S : tS} {postX : String → tG → Prop}
theorem tRes_0 {post : Int32 → tG → Prop} {x : Int32} (h : ∀ G', fr (clsW L) G G' → TwR G' L S → post x G') : tRes L G post postX (0, x, S) := fun G' f h' => ⟨fun _ => h G' f h', fun z => absurd z (by decide : ¬ (0 : Nat) = 1), fun z => absurd z (by decide : ¬ (0 : Nat) = 2)⟩
theorem c_mixedWithList {pk : Int64 → tG → Prop} {j : Nat} {c : Int64} (h : TwR G L S) (hj : j < 7) (hp : ∀ G', fr (clsW L) G G' → TwR G' L S → pk (mlF S c j) G') : w_X1_mixedWithList K pk postX (some L.1) c (nI j) G := by
  have hin : inR (nI j) 0 6 := ⟨nI_pos (by omega), show nI j ≤ nI 6 from nI_le (by omega) (by omega)⟩
  unfold mlF at hp
  cases hq : S.1 j with
  | none =>
    rw [hq] at hp
    have hat : S_at S (nI j) = none := by rw [S_at_nI S hj]; exact hq
    refine c_rcv h (c_rowOf h ?_)
    rw [if_pos hin, hat]
    refine tRes_0 (fun G1 f1 h1 => ?_)
    refine c_rcv h1 (c_begin h1 ?_)
    rw [if_pos hin, hat]
    refine tRes_0 (fun G2 f2 h2 => ?_)
    refine c_rcv h2 (c_listOrNull h2 (fun _ => ⟨fun _ => hp G2 (fr_tr f1 f2) h2, fun z => absurd rfl z⟩) (fun o r b n d1 _ _ _ => ?_))
    rw [hat] at d1; cases d1
  | some q =>
    obtain ⟨r, b, n⟩ := q
    rw [hq] at hp
    have hat : S_at S (nI j) = some (r, b, n) := by rw [S_at_nI S hj]; exact hq
    refine c_rcv h (c_rowOf h ?_)
    rw [if_pos hin, hat]
    refine tRes_0 (fun G1 f1 h1 => ?_)
    refine c_rcv h1 (c_begin h1 ?_)
    rw [if_pos hin, hat]
    refine tRes_0 (fun G2 f2 h2 => ?_)
    refine c_rcv h2 (c_listOrNull h2 (fun z => ?_) (fun o r' b' n' d1 _ _ _ => ⟨fun z => (by cases z), fun _ => ?_⟩))
    · rw [hat] at z; cases z
    · refine c_rcv h2 (c_length h2 ?_)
      rw [hat]
      refine tRes_0 (fun G3 f3 h3 => ?_)
      refine c_rcv h3 (c_code h3 ?_)
      rw [hat]
      refine tRes_0 (fun G4 f4 h4 => ?_)
      refine c_rcv h4 (c_sum h4 ?_)
      rw [hat]
      exact tRes_0 (fun G5 f5 h5 => hp G5 (fr_tr f1 (fr_tr f2 (fr_tr f3 (fr_tr f4 f5)))) h5)
/-- the digest -/
def hd1 (S : tS) (c : Int64) : Nat → Int64
  | 0 => c
  | k + 1 => mxF (hd1 S c k) (hoF S (nI k)).toInt64
def hd2 (S : tS) (c : Int64) : Nat → Int64
  | 0 => c
  | k + 1 => mrF (S.2.1 k) (mxF (hd2 S c k) (nI (lnF (S.1 k))).toInt64) (lnF (S.1 k))
def hd3 (S : tS) (c : Int64) : Nat → Int64
  | 0 => c
  | k + 1 => mlF S (hd3 S c k) k
def diF (S : tS) : Int64 := mxF (hd3 S (hd2 S (hd1 S 7778 4) 3) 7) 1
theorem c_digest {pk : Int64 → tG → Prop} (h : TwR G L S) (hp : ∀ G', fr (clsW L) G G' → TwR G' L S → pk (diF S) G') : w_X1_digest K pk postX (some L.1) G := by
  have m3 : ∀ k i nc ns G1, i + k = 7 → nc ≤ 19 + 5 * i → ns ≤ 114 + 30 * i → fr (clsW L) G G1 → TwR G1 L S → w_X1_digest_50 K pk postX (k + 1) nc ns (some L.1) (hd3 S (hd2 S (hd1 S 7778 4) 3) i) (nI i) G1 := by
    intro k
    induction k with
    | zero =>
      intro i nc ns G1 hi h1 h2 hf h3
      show w_X1_digest_50_b K pk postX (w_X1_digest_50 K pk postX 0) nc ns (some L.1) (hd3 S (hd2 S (hd1 S 7778 4) 3) i) (nI i) G1
      have e : i = 7 := by omega
      subst e
      exact ⟨fun _ => ⟨⟨by omega, by omega⟩, c_rcv h3 (c_isSound h3 (fun G2 f2 h4 => ⟨fun z => absurd z (by decide), fun _ => hp G2 (fr_tr hf f2) h4⟩))⟩, fun c => absurd (by decide) c⟩
    | succ k ih =>
      intro i nc ns G1 hi h1 h2 hf h3
      show w_X1_digest_50_b K pk postX (w_X1_digest_50 K pk postX (k + 1)) nc ns (some L.1) (hd3 S (hd2 S (hd1 S 7778 4) 3) i) (nI i) G1
      refine ⟨fun c => absurd (show nI 7 ≤ nI i from c) (nI_ge (by omega) (by omega)), fun _ => ⟨⟨by omega, by omega⟩, c_rcv h3 (c_mixedWithList h3 (by omega) (fun G2 f2 h4 => ?_))⟩⟩
      rw [nI_1]
      exact ih (i + 1) (nc + 5) (ns + 30) G2 (by omega) (by omega) (by omega) (fr_tr hf f2) h4
  have m2 : ∀ k i nc ns G1, i + k = 3 → nc ≤ 16 + i → ns ≤ 96 + 6 * i → fr (clsW L) G G1 → TwR G1 L S → w_X1_digest_30 K pk postX (k + 1) nc ns (some L.1) (hd2 S (hd1 S 7778 4) i) (nI i) G1 := by
    intro k
    induction k with
    | zero =>
      intro i nc ns G1 hi h1 h2 hf h3
      show w_X1_digest_30_b K pk postX (w_X1_digest_30 K pk postX 0) nc ns (some L.1) (hd2 S (hd1 S 7778 4) i) (nI i) G1
      have e : i = 3 := by omega
      subst e
      exact ⟨fun _ => ⟨8, m3 7 0 nc ns G1 (by omega) (by omega) (by omega) hf h3⟩, fun c => absurd (by decide) c⟩
    | succ k ih =>
      intro i nc ns G1 hi h1 h2 hf h3
      show w_X1_digest_30_b K pk postX (w_X1_digest_30 K pk postX (k + 1)) nc ns (some L.1) (hd2 S (hd1 S 7778 4) i) (nI i) G1
      refine ⟨fun c => absurd (show nI 3 ≤ nI i from c) (nI_ge (by omega) (by omega)), fun _ => ⟨⟨by omega, by omega⟩, c_rcv h3 (c_mixedWithRow h3 (by omega) (fun n en => ?_))⟩⟩
      rw [nI_1]
      have := ih (i + 1) (nc + 1) (ns + 6) G1 (by omega) (by omega) (by omega) hf h3
      simp only [hd2, en, lnF] at this
      exact this
  have m1 : ∀ k i nc ns G1, i + k = 4 → nc ≤ 4 * i → ns ≤ 24 * i → fr (clsW L) G G1 → TwR G1 L S → w_X1_digest_6 K pk postX (k + 1) nc ns (some L.1) (hd1 S 7778 i) (nI i) G1 := by
    intro k
    induction k with
    | zero =>
      intro i nc ns G1 hi h1 h2 hf h3
      show w_X1_digest_6_b K pk postX (w_X1_digest_6 K pk postX 0) nc ns (some L.1) (hd1 S 7778 i) (nI i) G1
      have e : i = 4 := by omega
      subst e
      exact ⟨fun _ => ⟨4, m2 3 0 nc ns G1 (by omega) (by omega) (by omega) hf h3⟩, fun c => absurd (by decide) c⟩
    | succ k ih =>
      intro i nc ns G1 hi h1 h2 hf h3
      show w_X1_digest_6_b K pk postX (w_X1_digest_6 K pk postX (k + 1)) nc ns (some L.1) (hd1 S 7778 i) (nI i) G1
      refine ⟨fun c => absurd (show nI 3 < nI i from c) (nI_nlt (by omega) (by omega)), fun _ => ⟨⟨by omega, by omega⟩, c_rcv h3 (c_house h3 ?_)⟩⟩
      rw [if_pos (show inR (nI i) 0 3 from ⟨nI_pos (by omega), show nI i ≤ nI 3 from nI_le (by omega) (by omega)⟩)]
      refine tRes_0 (fun G2 f2 h4 => ?_)
      show w_X1_digest_6 K pk postX (k + 1) (nc + 4) (ns + 24) (some L.1) (mxF (hd1 S 7778 i) (hoF S (nI i)).toInt64) (nI i + 1) G2
      rw [nI_1]
      exact ih (i + 1) (nc + 4) (ns + 24) G2 (by omega) (by omega) (by omega) (fr_tr hf f2) h4
  exact ⟨5, m1 4 0 0 0 G (by omega) (by omega) (by omega) (fr_rf _ _) h⟩
end CLS
