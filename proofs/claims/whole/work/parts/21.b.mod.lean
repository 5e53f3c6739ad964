section MOB
variable {K : tK} {G : tG} {M : tM} {S : tS} {th : Int32} {post : Int32 → tG → Prop}
def b1 (p : Bool) : Int32 := if p then 1 else 0
theorem b1_01 (p : Bool) : b1 p = 0 ∨ b1 p = 1 := by cases p <;> decide
theorem m_isIn {x a c : Int32} (h1 : inR x a c → post 1 G) (h0 : ¬ inR x a c → post 0 G) : w_X3_isIn K post x a c G := by
  refine ⟨fun q => ⟨by decide, h0 (fun z => z.1 q)⟩, fun q => ⟨fun q2 => ⟨by decide, h0 (fun z => ?_)⟩, fun q2 => ⟨by decide, h1 ⟨q, ?_⟩⟩⟩⟩
  · have z := z.2; rw [i32_le] at z; rw [i32_lt] at q2; omega
  · rw [i32_le]; rw [i32_lt] at q2; omega
theorem m_one {x : Int32} (h0 : x = 0 → post 0 G) (h1 : ¬ x = 0 → post 1 G) : w_X3_one K post x G := ⟨fun c => h0 c, fun c => h1 c⟩
theorem m_isNoValue {x : Int32} (h1 : ¬ okV x → post 1 G) (h0 : okV x → post 0 G) : w_X3_isNoValue K post x G :=
  ⟨fun c => ⟨by decide, h0 (Or.inl c)⟩, fun c => m_isIn (fun q => ⟨fun _ => ⟨by decide, h0 (Or.inr q)⟩, fun z => absurd z (by decide)⟩) (fun q => ⟨fun z => absurd rfl z, fun _ => ⟨by decide, h1 (fun z => z.elim c q)⟩⟩)⟩
theorem m_isNoRule {x y : Int32} (h1 : ¬ (inR x 0 3 ∧ inR y (-99) 99) → post 1 G) (h0 : inR x 0 3 → inR y (-99) 99 → post 0 G) : w_X3_isNoRule K post x y G :=
  m_isIn (fun q => ⟨fun z => absurd z (by decide), fun _ => m_isIn (fun q2 => ⟨fun _ => ⟨by decide, h0 q q2⟩, fun z => absurd z (by decide)⟩) (fun q2 => ⟨fun z => absurd rfl z, fun _ => ⟨by decide, h1 (fun z => q2 z.2)⟩⟩)⟩) (fun q => ⟨fun _ => ⟨by decide, h1 (fun z => q z.1)⟩, fun z => absurd rfl z⟩)
theorem m_rcv {P : Prop} (h : MoR G M S th) (hp : P) : rcv G (some M.1.1) 5 P := by
  obtain ⟨-, ⟨sm, h2⟩, -⟩ := h
  exact rcv_i h2 hp
/-- is there no such list? -/
theorem m_isNoList {v : Int32} (h : MoR G M S th) (h1 : S_at S v = none → post 1 G) (h0 : ∀ j r b n, j < 7 → v = nI j → S.1 j = some (r, b, n) → post 0 G) : w_X3_isNoList K post (some M.1.1) v G := by
  obtain ⟨hok, ⟨sm, h2⟩, -, ⟨fo, fb, fl, ⟨h5, h6, h7⟩, h8⟩, -⟩ := h
  refine m_isIn (fun q => ⟨fun z => absurd z (by decide), fun _ => ?_⟩) (fun q => ⟨fun _ => ⟨by decide, h1 ?_⟩, fun z => absurd rfl z⟩)
  · obtain ⟨j, hj, rfl⟩ := nI_of2 (M := 6) (n := 6) rfl q.1 q.2
    refine gfR_i _ h2 rfl (alI_i h5 rfl (by omega) (by omega) ?_)
    rcases h8 j (by omega) with ⟨e1, e2⟩ | ⟨r, b, n, e1, e2, e3, e4⟩
    · rw [e2]
      exact ⟨fun z => absurd rfl z, fun _ => ⟨by decide, h1 (by rw [S_at_nI S (by omega)]; exact e1)⟩⟩
    · rw [e2]
      refine ⟨fun _ => ⟨by decide, h0 j r b n (by omega) rfl e1⟩, fun z => ?_⟩
      have hr := (hok.2.1 j r b n (by omega) e1).1
      exact absurd (show nI r < 0 by rw [z]; decide) (nI_pos (by omega))
  · unfold S_at
    rw [if_neg]
    intro z
    apply q
    have e0 : (0 : Int32).toInt = 0 := rfl
    have e6 : (6 : Int32).toInt = 6 := rfl
    exact ⟨fun w => by rw [i32_lt] at w; omega, by rw [i32_le]; omega⟩
theorem m_knock (h : MoR G M S th) (hp : ∀ G', fr (moW M) G G' → MoR G' M (S.1, S.2.1, S.2.2.1 + 1, S.2.2.2) 0 → post (S.2.2.1 + 1) G') : w_X3_knock K post (some M.1.1) G := by
  obtain ⟨-, ⟨sm, h2⟩, -⟩ := id h
  refine pfV_i h2 (Nat.le_of_ble_eq_true rfl) (gfI_i (tg_s _ _ _) rfl (pfV_i (tg_s _ _ _) (Nat.le_of_ble_eq_true rfl) (gfI_i (tg_s _ _ _) rfl ?_)))
  have h3 := MoR_own h S.2.2.1 S.2.2.2 0 sm
  have h4 := MoR_own h3 (S.2.2.1 + 1) S.2.2.2 0 sm
  exact hp _ (fr_tr (fr_up _ (Or.inl rfl)) (fr_up _ (Or.inl rfl))) h4
end MOB
