/-! ===== the reference reads: signs, numbers ===== -/
section OYB1
variable {T : oy_T} {σ : ox_H} {l : Nat}
theorem om_look {p : Nat} (hT : oy_ok T) (hM : oy_M T σ) (hl : l < T.length) (hp : p ≤ 100000) : F_Mod_look (l : Int) (p : Int) σ = some (oy_wk (oy_ln T l) p) := by
  have h60 := hT.1
  have h24 := oy_len24 hT l
  unfold F_Mod_look
  rw [if_pos (by omega), Int.toNat_natCast, hM.2.1 l hl]
  by_cases h : ((oy_ln T l).length : Int) ≤ p
  · rw [if_pos h, oy_wk_ge (by omega)]
    rfl
  · rw [if_neg h, oy_w (x := 24 * (l : Int)) (by omega) (by omega), oy_w (by omega) (by omega), if_pos (by omega)]
    have e : (24 * (l : Int) + (p : Int)).toNat = 24 * l + p := by omega
    rw [e, hM.2.2 l p hl (by omega)]
    rfl
theorem om_in {x a b : Int} : F_Mod_in x a b σ = some (if a ≤ x ∧ x ≤ b then 1 else 0) := by
  unfold F_Mod_in J_Mod_in_14 J_Mod_in_15
  by_cases h1 : x < a
  · rw [if_pos h1, if_neg (by omega)]; rfl
  · rw [if_neg h1]
    by_cases h2 : b < x
    · rw [if_pos h2, if_neg (by omega)]; rfl
    · rw [if_neg h2, if_pos (by omega)]; rfl
/-- is it a digit, a letter -/
abbrev sp_dg (x : Int) : Prop := 48 ≤ x ∧ x ≤ 57
abbrev sp_lt (x : Int) : Prop := 97 ≤ x ∧ x ≤ 122
theorem om_dg {x : Int} : F_Mod_isDigit x σ = some (if sp_dg x then 1 else 0) := by
  unfold F_Mod_isDigit
  rw [om_in]
  show some ((if 48 ≤ x ∧ x ≤ 57 then (1 : Int) else 0) % 2) = _
  split <;> rfl
theorem om_lt {x : Int} : F_Mod_isLetter x σ = some (if sp_lt x then 1 else 0) := by
  unfold F_Mod_isLetter
  rw [om_in]
  show some ((if 97 ≤ x ∧ x ≤ 122 then (1 : Int) else 0) % 2) = _
  split <;> rfl
/-- a number of a line from b on: its end, its value; 4 digits at most, none behind a leading 0 -/
def sp_ng (w : List Int) (b : Nat) : Nat → Nat → Int → Nat × Int
  | 0, a, v => (a, v)
  | f + 1, a, v => if sp_dg (oy_wk w a) ∧ (a = b ∨ oy_wk w b ≠ 48) then sp_ng w b f (a + 1) (10 * v + oy_wk w a - 48) else (a, v)
def sp_nu (w : List Int) (b : Nat) : Nat × Int := ((sp_ng w b 4 b 0).1, if (sp_ng w b 4 b 0).1 = b then -1 else (sp_ng w b 4 b 0).2)
theorem sp_ng_le (w : List Int) (b : Nat) : ∀ f a v, a ≤ (sp_ng w b f a v).1 ∧ (sp_ng w b f a v).1 ≤ a + f
  | 0, a, v => ⟨Nat.le_refl _, Nat.le_refl _⟩
  | f + 1, a, v => by
    unfold sp_ng
    split
    · have := sp_ng_le w b f (a + 1) (10 * v + oy_wk w a - 48)
      omega
    · exact ⟨Nat.le_refl _, by omega⟩
theorem sp_ng_val (w : List Int) (b : Nat) : ∀ f a v, 0 ≤ v → 0 ≤ (sp_ng w b f a v).2 ∧ ((sp_ng w b f a v).2 + 1 ≤ (v + 1) * 10 ^ f)
  | 0, a, v, h => by
    show 0 ≤ v ∧ v + 1 ≤ (v + 1) * 10 ^ 0
    omega
  | f + 1, a, v, h => by
    unfold sp_ng
    split
    · rename_i hc
      obtain ⟨⟨h1, h2⟩, -⟩ := hc
      obtain ⟨q1, q2⟩ := sp_ng_val w b f (a + 1) (10 * v + oy_wk w a - 48) (by omega)
      refine ⟨q1, Int.le_trans q2 ?_⟩
      have hp : (0 : Int) ≤ 10 ^ f := Int.pow_nonneg (by omega)
      rw [Int.pow_succ, show (v + 1) * (10 ^ f * 10) = (10 * v + 10) * 10 ^ f by rw [Int.mul_comm (10 ^ f) 10, ← Int.mul_assoc]; congr 1; omega]
      exact Int.mul_le_mul_of_nonneg_right (by omega) hp
    · refine ⟨h, ?_⟩
      have hp := oy_p10 (f + 1)
      have := Int.mul_le_mul_of_nonneg_left (c := v + 1) hp (by omega)
      omega
theorem sp_nu_in (w : List Int) (b : Nat) : b ≤ (sp_nu w b).1 ∧ (sp_nu w b).1 ≤ b + 4 ∧ -1 ≤ (sp_nu w b).2 ∧ (sp_nu w b).2 ≤ 9999 ∧ ((sp_nu w b).1 = b ↔ (sp_nu w b).2 = -1) := by
  have h1 := sp_ng_le w b 4 b 0
  obtain ⟨h2, h3⟩ := sp_ng_val w b 4 b 0 (by omega)
  unfold sp_nu
  dsimp only
  have e : ((0 : Int) + 1) * 10 ^ 4 = 10000 := by decide
  rw [e] at h3
  refine ⟨h1.1, h1.2, ?_, ?_, ?_⟩
  · split <;> omega
  · split <;> omega
  · constructor
    · intro h; rw [if_pos h]
    · intro h
      by_cases hh : (sp_ng w b 4 b 0).1 = b
      · exact hh
      · rw [if_neg hh] at h; omega
/-- a sign that is no digit ends it -/
theorem om_nloop (hT : oy_ok T) (hM : oy_M T σ) (hl : l < T.length) {b : Nat} (hb : b ≤ 1000) : ∀ (f a n : Nat) (v : Int), a + f = b + 4 → b ≤ a → 0 ≤ v → (v + 1) * 10 ^ f ≤ 10000 → f < n → ox_lp (B_Mod_number_7 (l : Int) (b : Int)) n (v, oy_at σ a) = some (if (sp_ng (oy_ln T l) b f a v).1 = b then -1 else (sp_ng (oy_ln T l) b f a v).2, oy_at σ (sp_ng (oy_ln T l) b f a v).1)
  | f, a, 0, v, h1, h2, h3, h4, h5 => absurd h5 (Nat.not_lt_zero _)
  | f, a, n + 1, v, h1, h2, h3, h4, h5 => by
    have hM1 := oy_at_M (a := a) hM
    have hend : J_Mod_number_83 (b : Int) v (oy_at σ a) = some (if a = b then -1 else v, oy_at σ a) := by
      unfold J_Mod_number_83 J_Mod_number_96
      rw [oy_at_get]
      by_cases hab : a = b
      · rw [if_pos (by omega), if_pos hab]
      · rw [if_neg (by omega), if_neg hab]
    have hx := oy_wk_le hT l a
    have hB : B_Mod_number_7 (l : Int) (b : Int) (v, oy_at σ a) = if (b : Int) + 4 ≤ a then some (.inr (if a = b then -1 else v, oy_at σ a)) else if sp_dg (oy_wk (oy_ln T l) a) then (if a = b then J_Mod_number_52 (l : Int) (b : Int) v (oy_at σ a) else if oy_wk (oy_ln T l) b = 48 then some (.inr (if a = b then -1 else v, oy_at σ a)) else J_Mod_number_52 (l : Int) (b : Int) v (oy_at σ a)) else some (.inr (if a = b then -1 else v, oy_at σ a)) := by
      unfold B_Mod_number_7
      dsimp only
      rw [oy_at_get, oy_w (x := (b : Int) + 4) (by omega) (by omega), hend]
      by_cases h7 : (b : Int) + 4 ≤ a
      · rw [if_pos h7, if_pos h7]; rfl
      rw [if_neg h7, if_neg h7, om_look hT hM1 hl (by omega), Option.bind_some, om_dg, Option.bind_some]
      by_cases hd : sp_dg (oy_wk (oy_ln T l) a)
      · rw [if_pos hd, if_neg (by omega), if_pos hd]
        by_cases hab : a = b
        · rw [if_pos (by omega), if_pos hab]
        · rw [if_neg (by omega), om_look hT hM1 hl (by omega), Option.bind_some]
          simp only [hab, if_false]
          by_cases h48 : oy_wk (oy_ln T l) b = 48
          · rw [if_pos h48, if_pos h48]; rfl
          · rw [if_neg h48, if_neg h48]
      · rw [if_neg hd, if_pos rfl, if_neg hd]; rfl
    cases f with
    | zero =>
      rw [if_pos (by omega)] at hB
      exact oy_lp_r hB
    | succ f =>
      rw [if_neg (by omega)] at hB
      by_cases hd : sp_dg (oy_wk (oy_ln T l) a)
      · rw [if_pos hd] at hB
        have hstep : J_Mod_number_52 (l : Int) (b : Int) v (oy_at σ a) = some (.inl (10 * v + oy_wk (oy_ln T l) a - 48, oy_at σ (a + 1))) := by
          have hp := oy_p10 f
          have hv : v + 1 ≤ 1000 := by
            have h6 := Int.mul_le_mul_of_nonneg_left (c := (v + 1) * 10) hp (by omega)
            have e2 : (v + 1) * 10 ^ (f + 1) = (v + 1) * 10 * 10 ^ f := by rw [Int.pow_succ, Int.mul_comm (10 ^ f) 10, Int.mul_assoc]
            rw [e2] at h4
            omega
          unfold J_Mod_number_52
          rw [oy_at_get, om_look hT hM1 hl (by omega), Option.bind_some, oy_w (x := 10 * v) (by omega) (by omega), oy_w (x := 10 * v + _) (by omega) (by omega), oy_w (x := 10 * v + _ - 48) (by omega) (by omega), oy_w (x := (a : Int) + 1) (by omega) (by omega)]
          have : ((a : Int) + 1) = ((a + 1 : Nat) : Int) := by omega
          rw [this, oy_at_up]
        have hgo : ox_lp (B_Mod_number_7 (l : Int) (b : Int)) n (10 * v + oy_wk (oy_ln T l) a - 48, oy_at σ (a + 1)) = some (if (sp_ng (oy_ln T l) b f (a + 1) (10 * v + oy_wk (oy_ln T l) a - 48)).1 = b then -1 else (sp_ng (oy_ln T l) b f (a + 1) (10 * v + oy_wk (oy_ln T l) a - 48)).2, oy_at σ (sp_ng (oy_ln T l) b f (a + 1) (10 * v + oy_wk (oy_ln T l) a - 48)).1) := by
          have hd1 := hd.1
          have hd2 := hd.2
          refine om_nloop hT hM hl hb f (a + 1) n _ (by omega) (by omega) (by omega) ?_ (by omega)
          have hp := oy_p10 f
          refine Int.le_trans (Int.mul_le_mul_of_nonneg_right (b := 10 * v + 10) (by omega) (by omega)) ?_
          have e2 : (10 * v + 10) * 10 ^ f = (v + 1) * 10 ^ (f + 1) := by
            rw [show 10 * v + 10 = (v + 1) * 10 by omega, Int.pow_succ, Int.mul_comm (10 ^ f) 10, Int.mul_assoc]
          rw [e2]
          exact h4
        by_cases hab : a = b
        · rw [if_pos hab, hstep] at hB
          rw [oy_lp_l hB, hgo, show sp_ng (oy_ln T l) b (f + 1) a v = sp_ng (oy_ln T l) b f (a + 1) (10 * v + oy_wk (oy_ln T l) a - 48) by
            rw [sp_ng]
            rw [if_pos ⟨hd, Or.inl hab⟩]]
        · rw [if_neg hab] at hB
          by_cases h48 : oy_wk (oy_ln T l) b = 48
          · rw [if_pos h48] at hB
            rw [oy_lp_r hB, show sp_ng (oy_ln T l) b (f + 1) a v = (a, v) by
              rw [sp_ng]
              rw [if_neg (fun q => by
                rcases q.2 with q | q
                · exact hab q
                · exact q h48)]]
          · rw [if_neg h48, hstep] at hB
            rw [oy_lp_l hB, hgo, show sp_ng (oy_ln T l) b (f + 1) a v = sp_ng (oy_ln T l) b f (a + 1) (10 * v + oy_wk (oy_ln T l) a - 48) by
              rw [sp_ng]
              rw [if_pos ⟨hd, Or.inr h48⟩]]
      · rw [if_neg hd] at hB
        rw [oy_lp_r hB, show sp_ng (oy_ln T l) b (f + 1) a v = (a, v) by
          rw [sp_ng]
          rw [if_neg (fun q => hd q.1)]]
theorem om_number (hT : oy_ok T) (hM : oy_M T σ) (hl : l < T.length) {b : Nat} (hb : b ≤ 1000) : F_Mod_number (l : Int) (oy_at σ b) = some ((sp_nu (oy_ln T l) b).2, oy_at σ (sp_nu (oy_ln T l) b).1) := by
  unfold F_Mod_number J_Mod_number_7
  rw [oy_at_get]
  exact om_nloop hT hM hl hb 4 b ox_fu 0 (by omega) (Nat.le_refl _) (by omega) (by decide) (oy_fu (by omega))
theorem om_takes (hT : oy_ok T) (hM : oy_M T σ) (hl : l < T.length) {b : Nat} (hb : b ≤ 1000) {x : Int} : F_Mod_takes (l : Int) x (oy_at σ b) = some (if oy_wk (oy_ln T l) b = x then 1 else 0, oy_at σ (if oy_wk (oy_ln T l) b = x then b + 1 else b)) := by
  unfold F_Mod_takes J_Mod_takes_18 J_Mod_takes_33
  rw [oy_at_get, om_look hT (oy_at_M hM) hl (by omega), Option.bind_some]
  by_cases h : oy_wk (oy_ln T l) b = x
  · rw [if_pos h, if_pos h, if_pos h, if_neg (by omega), oy_w (by omega) (by omega)]
    have : ((b : Int) + 1) = ((b + 1 : Nat) : Int) := by omega
    rw [this, oy_at_up]
    rfl
  · rw [if_neg h, if_neg h, if_neg h, if_pos rfl, oy_w (by omega) (by omega), Int.add_zero, oy_at_up]
    rfl
theorem om_letter (hT : oy_ok T) (hM : oy_M T σ) (hl : l < T.length) {b : Nat} (hb : b ≤ 1000) : F_Mod_letter (l : Int) (oy_at σ b) = some (if sp_lt (oy_wk (oy_ln T l) b) then 1 else 0, oy_at σ (if sp_lt (oy_wk (oy_ln T l) b) then b + 1 else b)) := by
  unfold F_Mod_letter J_Mod_letter_28
  rw [oy_at_get, om_look hT (oy_at_M hM) hl (by omega), Option.bind_some, om_lt, Option.bind_some]
  by_cases h : sp_lt (oy_wk (oy_ln T l) b)
  · rw [if_pos h, if_pos h, if_neg (by omega), oy_w (by omega) (by omega)]
    have : ((b : Int) + 1) = ((b + 1 : Nat) : Int) := by omega
    rw [this, oy_at_up]
    rfl
  · rw [if_neg h, if_neg h, if_pos rfl, oy_w (by omega) (by omega), Int.add_zero, oy_at_up]
    rfl
theorem om_ends (hT : oy_ok T) (hM : oy_M T σ) (hl : l < T.length) {b : Nat} : F_Mod_ends (l : Int) (oy_at σ b) = some (if b = (oy_ln T l).length then 1 else 0) := by
  have h60 := hT.1
  unfold F_Mod_ends J_Mod_ends_18
  rw [if_pos (by omega), oy_at_get, Int.toNat_natCast, (oy_at_M hM).2.1 l hl]
  by_cases h : b = (oy_ln T l).length
  · rw [if_pos (by omega), if_pos h]; rfl
  · rw [if_neg (by omega), if_neg h]; rfl
theorem om_tk1 (hT : oy_ok T) (hM : oy_M T σ) (hl : l < T.length) {b b' : Nat} (hb : b ≤ 1000) (hb' : b' = b + 1) {x : Int} (h : oy_wk (oy_ln T l) b = x) : F_Mod_takes (l : Int) x (oy_at σ b) = some (1, oy_at σ b') := by
  rw [om_takes hT hM hl hb, if_pos h, if_pos h, hb']
theorem om_tk0 (hT : oy_ok T) (hM : oy_M T σ) (hl : l < T.length) {b : Nat} (hb : b ≤ 1000) {x : Int} (h : ¬ oy_wk (oy_ln T l) b = x) : F_Mod_takes (l : Int) x (oy_at σ b) = some (0, oy_at σ b) := by
  rw [om_takes hT hM hl hb, if_neg h, if_neg h]
theorem om_le1 (hT : oy_ok T) (hM : oy_M T σ) (hl : l < T.length) {b b' : Nat} (hb : b ≤ 1000) (hb' : b' = b + 1) (h : sp_lt (oy_wk (oy_ln T l) b)) : F_Mod_letter (l : Int) (oy_at σ b) = some (1, oy_at σ b') := by
  rw [om_letter hT hM hl hb, if_pos h, if_pos h, hb']
theorem om_le0 (hT : oy_ok T) (hM : oy_M T σ) (hl : l < T.length) {b : Nat} (hb : b ≤ 1000) (h : ¬ sp_lt (oy_wk (oy_ln T l) b)) : F_Mod_letter (l : Int) (oy_at σ b) = some (0, oy_at σ b) := by
  rw [om_letter hT hM hl hb, if_neg h, if_neg h]
theorem om_en1 (hT : oy_ok T) (hM : oy_M T σ) (hl : l < T.length) {b : Nat} (h : b = (oy_ln T l).length) : F_Mod_ends (l : Int) (oy_at σ b) = some 1 := by
  rw [om_ends hT hM hl, if_pos h]
theorem om_en0 (hT : oy_ok T) (hM : oy_M T σ) (hl : l < T.length) {b : Nat} (h : ¬ b = (oy_ln T l).length) : F_Mod_ends (l : Int) (oy_at σ b) = some 0 := by
  rw [om_ends hT hM hl, if_neg h]
theorem oy_10 : ¬ (1 : Int) = 0 := by decide
end OYB1
