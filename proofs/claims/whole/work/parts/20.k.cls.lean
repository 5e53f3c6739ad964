section CLK
variable {K : tK} {G : tG} {L : tL} {S : tS} {post : Int32 → tG → Prop} {postX : String → tG → Prop}
theorem S_map_1 (S : tS) (r b : Nat) (f : Nat → Int32 → Int32) : ∀ k, (S_map S r b f k).1 = S.1 ∧ (S_map S r b f k).2.2 = S.2.2
  | 0 => ⟨rfl, rfl⟩
  | k + 1 => S_map_1 S r b f k
def S_lay (S : tS) (r m : Nat) : tS := S_lst (S_map S r 0 (fun _ _ => 0) m) r (some (r, 0, m))
def sp_lay (S : tS) (v w : Int32) : tA := match S_tw S v with
  | none => (1, 0, S)
  | some (r, _, _) => if inR w 0 12 then (0, (dpF (S_lay S r w.toInt.toNat) r 4).2, (dpF (S_lay S r w.toInt.toNat) r 4).1) else (2, 0, S)
theorem S_lay_ok {r m : Nat} (h : S_ok S) (h2 : S_ok (S_map S r 0 (fun _ _ => 0) m)) (hr : r < 3) (hm : m ≤ 12) : S_ok (dpF (S_lay S r m) r 4).1 := by
  have hl : ∀ j, (S_lay S r m).1 j = if j = r then some (r, 0, m) else S.1 j := fun j => by
    show (if j = r then _ else (S_map S r 0 (fun _ _ => 0) m).1 j) = _
    rw [(S_map_1 S r 0 (fun _ _ => 0) m).1]
  have hd := dp_sub (S_lay S r m) r 4
  have hrow : ∀ r', r' < 3 → (dpF (S_lay S r m) r 4).1.1 r' = if r' = r then some (r, 0, m) else S.1 r' := fun r' hr' => by
    rcases (hd.2 r').1 with q | q
    · rw [q, hl]
    · exact absurd q.2 (by omega)
  refine ⟨fun r' hr' => ?_, fun j r' b n hj e => ?_, fun r' i hr' hi => ?_⟩
  · rw [hrow r' hr']
    by_cases c : r' = r
    · rw [if_pos c, c]; exact ⟨m, rfl, hm⟩
    · rw [if_neg c]; exact h.1 r' hr'
  · by_cases c3 : j < 3
    · rw [hrow j c3] at e
      by_cases c : j = r
      · rw [if_pos c] at e; cases e
        exact ⟨hr, m, by rw [hrow r hr, if_pos rfl], by omega⟩
      · rw [if_neg c] at e
        obtain ⟨n0, f1, f2⟩ := h.1 j c3
        rw [f1] at e; cases e
        exact ⟨c3, n, by rw [hrow j c3, if_neg c]; exact f1, by omega⟩
    · have hne := (hd.2 j).2 (by omega) (by omega) r' b n e
      rcases (hd.2 j).1 with q | q
      · rw [q, hl, if_neg (by omega)] at e
        obtain ⟨g1, n0, g2, g3⟩ := h.2.1 j r' b n hj e
        exact ⟨g1, n0, by rw [hrow r' g1, if_neg hne]; exact g2, g3⟩
      · rw [q.1] at e; cases e
  · have e : (dpF (S_lay S r m) r 4).1.2 = (S_map S r 0 (fun _ _ => 0) m).2 := hd.1
    rw [show (dpF (S_lay S r m) r 4).1.2.1 = (S_map S r 0 (fun _ _ => 0) m).2.1 from by rw [e]]
    exact h2.2.2 r' i hr' hi
theorem c_lay {v w : Int32} (h : TwR G L S) (hp : tRes L G post postX (sp_lay S v w)) : w_X1_lay K post postX (some L.1) v w G := by
  unfold sp_lay at hp
  refine c_rcv h (c_twinAt h (fun c => ?_) (fun o r n e1 c1 c2 c3 c4 => ?_))
  · rw [c] at hp; exact (hp G (fr_rf _ _) h).2.1 rfl
  · subst e1
    have e2 : S_tw S (nI r) = some (r, 0, n) := by
      unfold S_tw
      rw [nI_toInt (by omega), if_pos (by omega)]; exact c1
    rw [e2] at hp
    refine c_checkNumber (fun hw => ?_) (fun hw => ?_)
    · simp only [if_pos hw] at hp
      obtain ⟨m, hm, rfl⟩ := nI_of2 (M := 12) (n := 12) rfl hw.1 hw.2
      rw [nI_nat (by omega)] at hp
      intro q hq
      have ho2 : tg_up G q (.inr (2, [.int 0, .null, .int 0, .int 0])) o = some (oRL (nI r) (L.2.2.2 r) 0 n) := tg_keep c2 (fun c => by rw [c, hq] at c2; cases c2)
      refine gfR_i _ ho2 rfl ⟨⟨q, rfl⟩, c_initRL (tg_s _ _ _) (fun G1 q1 q2 => ?_)⟩
      have q3 : ∀ a, a ≠ q → G1 a = G a := fun a ha => by rw [q2 a ha, tg_n _ _ ha]
      have h1 := TwR_fresh h hq q3
      have q1 : G1 q = some (oRL (nI r) (L.2.2.2 r) 0 m) := q1
      refine c_writeAll h1 q1 c3 (by omega) (Or.inr ⟨by decide, by decide⟩) (fun G2 f1 h2 o2 => ?_)
      obtain ⟨⟨lf, k2, k3, k4⟩, -⟩ := TwR_C h2
      refine gfR_i _ k2 rfl (asR_i k3 rfl (j := r) (by omega) (by omega) (Or.inr ⟨q, _, rfl, o2, ⟨_, rfl⟩⟩) ?_)
      have h3 := TwC_lst (j := r) (q := some (r, 0, m)) (v := some q) (TwR_C h2) k3 (Or.inr ⟨q, r, 0, m, rfl, rfl, o2⟩)
      obtain ⟨⟨lf3, k23, k33, k43⟩, -⟩ := id h3
      refine rcv_i k23 (c_dropPartsOf (S := S_lay S r m) c3 (fun j r' b' n' hj e => ?_) h3 (fun G4 f4 h4 => ?_))
      · have e : (if j = r then some (r, 0, m) else (S_map S r 0 (fun _ _ => 0) m).1 j) = some (r', b', n') := e
        by_cases c : j = r
        · rw [if_pos c] at e; cases e; exact c3
        · rw [if_neg c, (S_map_1 S r 0 (fun _ _ => 0) m).1] at e
          exact (h.1.2.1 j r' b' n' hj e).1
      · refine (hp G4 (fr_tr (fr_tr (fr_fresh hq q3 _) f1) (fr_tr (fr_up _ (Or.inr (Or.inl rfl))) f4)) (TwC_R h4 (S_lay_ok h.1 h2.1 c3 hm))).1 rfl
    · simp only [if_neg hw] at hp
      exact (hp G (fr_rf _ _) h).2.2 rfl
end CLK
