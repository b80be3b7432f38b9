/-! ===== the class reads: signs, numbers ===== -/
def oy_pl (σ : ox_H) (a : Nat) : ox_H := ox_up σ 3 0 5 0 (a : Int)
/-- the reader holds a line -/
def oy_R (w : List Int) (σ : ox_H) : Prop := w.length ≤ 24 ∧ (∀ x ∈ w, 32 ≤ x ∧ x ≤ 126) ∧ σ 3 0 4 0 = w.length ∧ ∀ p, p < w.length → σ 3 0 2 p = oy_wk w p
theorem oy_pl_get {σ : ox_H} {a : Nat} : oy_pl σ a 3 0 5 0 = a := oy_up_same
theorem oy_pl_up {σ : ox_H} {a b : Nat} : ox_up (oy_pl σ a) 3 0 5 0 (b : Int) = oy_pl σ b := oy_up_up
theorem oy_pl_ne {σ : ox_H} {a c k j i : Nat} (h : ¬ (c = 3 ∧ j = 5)) : oy_pl σ a c k j i = σ c k j i := oy_up_ne h
theorem oy_pl_com {σ : ox_H} {a c k j i : Nat} {v : Int} (h : ¬ (c = 3 ∧ j = 5)) : ox_up (oy_pl σ a) c k j i v = oy_pl (ox_up σ c k j i v) a := by
  funext c' k' j' i'
  unfold oy_pl ox_up
  by_cases h1 : c' = c ∧ j' = j ∧ k' = k ∧ i' = i
  · rw [if_pos h1, if_neg (fun q => h ⟨h1.1.symm.trans q.1, h1.2.1.symm.trans q.2.1⟩), if_pos h1]
  · rw [if_neg h1]
    by_cases h2 : c' = 3 ∧ j' = 5 ∧ k' = 0 ∧ i' = 0
    · rw [if_pos h2, if_pos h2]
    · rw [if_neg h2, if_neg h2, if_neg h1]
theorem oy_R.fr {w : List Int} {S : Nat → Nat → Bool} {σ σ' : ox_H} (h : oy_R w σ) (hf : oy_fr S σ σ') (h2 : S 3 2 = false) (h4 : S 3 4 = false) : oy_R w σ' := ⟨h.1, h.2.1, (hf 3 0 4 0 h4).trans h.2.2.1, fun p hp => (hf 3 0 2 p h2).trans (h.2.2.2 p hp)⟩
/-- what reading a line writes: the place, readings, sums -/
def oy_sr (c j : Nat) : Bool := (c == 3 && j == 5) || (c == 4 || c == 6)
theorem oy_R_pl {w : List Int} {σ : ox_H} {a : Nat} (h : oy_R w σ) : oy_R w (oy_pl σ a) := h.fr (S := oy_sr) (oy_fr.rf.up rfl) rfl rfl
theorem oy_R_up {w : List Int} {σ : ox_H} {c k j i : Nat} {v : Int} (h : oy_R w σ) (hj : oy_sr c j = true) : oy_R w (ox_up σ c k j i v) := h.fr (S := oy_sr) (oy_fr.rf.up hj) rfl rfl
theorem oy_pl_fr {σ : ox_H} {a : Nat} : oy_fr oy_sr σ (oy_pl σ a) := oy_fr.rf.up rfl
theorem oy_R_le {w : List Int} {σ : ox_H} (h : oy_R w σ) (p : Nat) : 0 ≤ oy_wk w p ∧ oy_wk w p ≤ 126 := by
  by_cases hp : p < w.length
  · have : oy_wk w p ∈ w := by
      unfold oy_wk
      rw [List.getD_eq_getElem?_getD, List.getElem?_eq_getElem hp]
      exact List.getElem_mem hp
    have := h.2.1 _ this
    omega
  · rw [oy_wk_ge (by omega)]; omega
theorem oy_wk_lt {w : List Int} {p : Nat} (h : oy_wk w p ≠ 0) : p < w.length := by
  by_cases hp : p < w.length
  · exact hp
  · exact absurd (oy_wk_ge (by omega)) h
section OYC1
variable {w : List Int} {σ : ox_H}
theorem oc_peek (hR : oy_R w σ) {a : Nat} : F_Rdr_peek (oy_pl σ a) = some (oy_wk w a) := by
  obtain ⟨h1, h2, h3, h4⟩ := hR
  have hx := oy_R_le ⟨h1, h2, h3, h4⟩ a
  unfold F_Rdr_peek J_Rdr_peek_30 J_Rdr_peek_31
  rw [oy_pl_get, oy_pl_ne (by decide), h3, if_neg (by omega)]
  by_cases hp : (w.length : Int) ≤ a
  · rw [if_pos hp, oy_wk_ge (by omega)]; rfl
  · rw [if_neg hp, if_pos (by omega), Int.toNat_natCast, oy_pl_ne (by decide), h4 a (by omega)]
    congr 1
    omega
theorem oc_tk1 (hR : oy_R w σ) {a b : Nat} {x : Int} (hx : x ≠ 0) (h : oy_wk w a = x) (hb : b = a + 1) : F_Rdr_take x (oy_pl σ a) = some (1, oy_pl σ b) := by
  have hp := oy_wk_lt (w := w) (p := a) (by rw [h]; exact hx)
  obtain ⟨h1, h2, h3, h4⟩ := hR
  unfold F_Rdr_take
  rw [oy_pl_get, oy_pl_ne (by decide), h3, if_neg (by omega), if_neg (by omega), if_pos (by omega), Int.toNat_natCast, oy_pl_ne (by decide), h4 a hp, if_pos h, oy_w1 (by omega), oy_pl_up, hb]
theorem oc_tk0 (hR : oy_R w σ) {a : Nat} {x : Int} (h : ¬ oy_wk w a = x) : F_Rdr_take x (oy_pl σ a) = some (0, oy_pl σ a) := by
  obtain ⟨h1, h2, h3, h4⟩ := hR
  unfold F_Rdr_take J_Rdr_take_31
  rw [oy_pl_get, oy_pl_ne (by decide), h3, if_neg (by omega)]
  by_cases hp : (w.length : Int) ≤ a
  · rw [if_pos hp]
  · rw [if_neg hp, if_pos (by omega), Int.toNat_natCast, oy_pl_ne (by decide), h4 a (by omega), if_neg h]
theorem oc_le1 (hR : oy_R w σ) {a b : Nat} {x : Int} (h : 97 ≤ oy_wk w a ∧ oy_wk w a ≤ x) (hb : b = a + 1) : F_Rdr_takeLetter x (oy_pl σ a) = some (oy_wk w a - 97, oy_pl σ b) := by
  have hp := oy_wk_lt (w := w) (p := a) (by omega)
  have hle := oy_R_le hR a
  obtain ⟨h1, h2, h3, h4⟩ := hR
  have e : ox_w (((a + 1 : Nat) : Int) - 1) = (a : Int) := by rw [oy_w (by omega) (by omega)]; omega
  unfold F_Rdr_takeLetter
  rw [oy_pl_get, oy_pl_ne (by decide), h3, if_neg (by omega), if_neg (by omega), if_pos (by omega), Int.toNat_natCast, oy_pl_ne (by decide), h4 a hp, if_neg (by omega), if_pos (by omega), if_pos h.2, oy_w1 (by omega), e, if_pos (by omega), Int.toNat_natCast, oy_pl_ne (by decide), h4 a hp, oy_w (by omega) (by omega), oy_pl_up, hb]
theorem oc_le0 (hR : oy_R w σ) {a : Nat} {x : Int} (h : ¬ (97 ≤ oy_wk w a ∧ oy_wk w a ≤ x)) : F_Rdr_takeLetter x (oy_pl σ a) = some (-1, oy_pl σ a) := by
  obtain ⟨h1, h2, h3, h4⟩ := hR
  unfold F_Rdr_takeLetter J_Rdr_takeLetter_45
  rw [oy_pl_get, oy_pl_ne (by decide), h3, if_neg (by omega)]
  by_cases hp : (w.length : Int) ≤ a
  · rw [if_pos hp]
  rw [if_neg hp, if_pos (by omega), Int.toNat_natCast, oy_pl_ne (by decide), h4 a (by omega)]
  by_cases h5 : oy_wk w a < 97
  · rw [if_pos h5]
  · rw [if_neg h5, if_pos (by omega), if_neg (by omega)]
theorem oc_di1 (hR : oy_R w σ) {a b : Nat} {x : Int} (h0 : 1 ≤ x) (h : x ≤ oy_wk w a ∧ oy_wk w a ≤ 57) (hb : b = a + 1) : F_Rdr_takeDigit x (oy_pl σ a) = some (oy_wk w a - 48, oy_pl σ b) := by
  have hp := oy_wk_lt (w := w) (p := a) (by omega)
  obtain ⟨h1, h2, h3, h4⟩ := hR
  have e : ox_w (((a + 1 : Nat) : Int) - 1) = (a : Int) := by rw [oy_w (by omega) (by omega)]; omega
  unfold F_Rdr_takeDigit
  rw [oy_pl_get, oy_pl_ne (by decide), h3, if_neg (by omega), if_neg (by omega), if_pos (by omega), Int.toNat_natCast, oy_pl_ne (by decide), h4 a hp, if_neg (by omega), if_pos (by omega), if_pos h.2, oy_w1 (by omega), e, if_pos (by omega), Int.toNat_natCast, oy_pl_ne (by decide), h4 a hp, oy_w (by omega) (by omega), oy_pl_up, hb]
theorem oc_di0 (hR : oy_R w σ) {a : Nat} {x : Int} (h : ¬ (x ≤ oy_wk w a ∧ oy_wk w a ≤ 57)) : F_Rdr_takeDigit x (oy_pl σ a) = some (-1, oy_pl σ a) := by
  obtain ⟨h1, h2, h3, h4⟩ := hR
  unfold F_Rdr_takeDigit J_Rdr_takeDigit_45
  rw [oy_pl_get, oy_pl_ne (by decide), h3, if_neg (by omega)]
  by_cases hp : (w.length : Int) ≤ a
  · rw [if_pos hp]
  rw [if_neg hp, if_pos (by omega), Int.toNat_natCast, oy_pl_ne (by decide), h4 a (by omega)]
  by_cases h5 : oy_wk w a < x
  · rw [if_pos h5]
  · rw [if_neg h5, if_pos (by omega), if_neg (by omega)]
theorem oc_nloop (hR : oy_R w σ) {b : Nat} (hb : b ≤ 1000) : ∀ (f a n : Nat) (v : Int), a + f = b + 4 → b ≤ a → 0 ≤ v → (v + 1) * 10 ^ f ≤ 10000 → ((a = b ∧ v = 0) ∨ (b < a ∧ (v = 0 ↔ oy_wk w b = 48))) → f < n →
    ox_lp B_Rdr_takeNumber_4 n ((if a = b then -1 else v), ((a - b : Nat) : Int), oy_pl σ a) = some (if (sp_ng w b f a v).1 = b then -1 else (sp_ng w b f a v).2, oy_pl σ (sp_ng w b f a v).1)
  | _, _, 0, _, _, _, _, _, _, h => absurd h (Nat.not_lt_zero _)
  | f, a, n + 1, v, h1, h2, h3, h4, h5, h6 => by
    have hle := oy_R_le hR a
    obtain ⟨r1, r2, r3, r4⟩ := id hR
    have hend : (J_Rdr_takeNumber_100 (if a = b then -1 else v) (oy_pl σ a)).map (Sum.inr (α := Int × Int × ox_H)) = some (.inr (if a = b then -1 else v, oy_pl σ a)) := rfl
    have hB : B_Rdr_takeNumber_4 ((if a = b then -1 else v), ((a - b : Nat) : Int), oy_pl σ a) = if 4 ≤ ((a - b : Nat) : Int) then some (.inr (if a = b then -1 else v, oy_pl σ a)) else if (if a = b then -1 else v) = 0 then some (.inr (if a = b then -1 else v, oy_pl σ a)) else if sp_dg (oy_wk w a) then some (.inl (ox_w (ox_w (ox_w ((if 0 < (if a = b then -1 else v) then (if a = b then -1 else v) else 0) * 10) + oy_wk w a) - 48), ((a - b + 1 : Nat) : Int), oy_pl σ (a + 1))) else some (.inr (if a = b then -1 else v, oy_pl σ a)) := by
      unfold B_Rdr_takeNumber_4 J_Rdr_takeNumber_59
      dsimp only
      by_cases q1 : 4 ≤ ((a - b : Nat) : Int)
      · rw [if_pos q1, if_pos q1]; exact hend
      rw [if_neg q1, if_neg q1]
      by_cases q2 : (if a = b then -1 else v) = 0
      · rw [if_pos q2, if_pos q2]; exact hend
      rw [if_neg q2, if_neg q2, oy_pl_get, oy_pl_ne (by decide), r3, if_neg (by omega)]
      by_cases q3 : (w.length : Int) ≤ a
      · rw [if_pos q3, if_neg (show ¬ sp_dg (oy_wk w a) by rw [oy_wk_ge (by omega)]; decide)]; exact hend
      rw [if_neg q3, if_pos (by omega), Int.toNat_natCast, oy_pl_ne (by decide), r4 a (by omega)]
      by_cases q4 : oy_wk w a < 48
      · rw [if_pos q4, if_neg (fun q : sp_dg (oy_wk w a) => by have := q.1; omega)]; exact hend
      rw [if_neg q4, if_pos (by omega)]
      by_cases q5 : oy_wk w a ≤ 57
      · rw [if_pos q5, if_pos (by omega), if_pos (show sp_dg (oy_wk w a) from ⟨by omega, q5⟩), oy_w1 (by omega), oy_w1 (by omega), oy_pl_up]
      · rw [if_neg q5, if_neg (fun q : sp_dg (oy_wk w a) => q5 q.2)]; exact hend
    cases f with
    | zero =>
      rw [if_pos (show 4 ≤ ((a - b : Nat) : Int) by omega)] at hB
      exact oy_lp_r hB
    | succ f =>
      rw [if_neg (show ¬ 4 ≤ ((a - b : Nat) : Int) by omega)] at hB
      have hq : (if a = b then (-1 : Int) else v) = 0 ↔ ¬ (a = b ∨ oy_wk w b ≠ 48) := by
        rcases h5 with ⟨q1, q2⟩ | ⟨q1, q2⟩
        · rw [if_pos q1]
          exact ⟨fun z => absurd z (by decide), fun z => absurd (Or.inl q1) z⟩
        · rw [if_neg (by omega), q2]
          exact ⟨fun z y => y.elim (fun y => by omega) (fun y => y z), fun z => Classical.byContradiction fun y => z (Or.inr y)⟩
      by_cases hc : sp_dg (oy_wk w a) ∧ (a = b ∨ oy_wk w b ≠ 48)
      · rw [if_neg (fun q => hq.mp q hc.2), if_pos hc.1] at hB
        have hd1 := hc.1.1
        have hd2 := hc.1.2
        have hp := oy_p10 f
        have hv : v + 1 ≤ 1000 := by
          have h6 := Int.mul_le_mul_of_nonneg_left (c := (v + 1) * 10) hp (by omega)
          have e2 : (v + 1) * 10 ^ (f + 1) = (v + 1) * 10 * 10 ^ f := by rw [Int.pow_succ, Int.mul_comm (10 ^ f) 10, Int.mul_assoc]
          rw [e2] at h4
          omega
        have hm : (if 0 < (if a = b then (-1 : Int) else v) then (if a = b then (-1 : Int) else v) else 0) = v := by
          rcases h5 with ⟨q1, q2⟩ | ⟨q1, q2⟩
          · rw [if_pos q1, if_neg (by decide), q2]
          · have hne : ¬ a = b := by omega
            simp only [hne, if_false]
            split <;> omega
        rw [hm, oy_w (x := v * 10) (by omega) (by omega), oy_w (x := v * 10 + _) (by omega) (by omega), oy_w (x := v * 10 + _ - 48) (by omega) (by omega)] at hB
        have e9 : sp_ng w b (f + 1) a v = sp_ng w b f (a + 1) (10 * v + oy_wk w a - 48) := by rw [sp_ng, if_pos hc]
        rw [oy_lp_l hB, e9]
        have e8 : v * 10 + oy_wk w a - 48 = (if a + 1 = b then -1 else 10 * v + oy_wk w a - 48) := by rw [if_neg (by omega)]; omega
        have e7 : a - b + 1 = a + 1 - b := by omega
        rw [e8, e7]
        refine oc_nloop hR hb f (a + 1) n _ (by omega) (by omega) (by omega) ?_ (Or.inr ⟨by omega, ?_⟩) (by omega)
        · refine Int.le_trans (Int.mul_le_mul_of_nonneg_right (b := 10 * v + 10) (by omega) (by omega)) ?_
          have e2 : (10 * v + 10) * 10 ^ f = (v + 1) * 10 ^ (f + 1) := by
            rw [show 10 * v + 10 = (v + 1) * 10 by omega, Int.pow_succ, Int.mul_comm (10 ^ f) 10, Int.mul_assoc]
          rw [e2]
          exact h4
        · rcases h5 with ⟨q1, q2⟩ | ⟨q1, q2⟩
          · subst q1
            omega
          · have h48 : oy_wk w b ≠ 48 := hc.2.elim (fun z => by omega) id
            have hv0 : v ≠ 0 := fun z => h48 (q2.mp z)
            exact ⟨fun z => by omega, fun z => absurd z h48⟩
      · have e9 : sp_ng w b (f + 1) a v = (a, v) := by rw [sp_ng, if_neg hc]
        rw [e9]
        refine oy_lp_r ?_
        rw [hB]
        by_cases q2 : (if a = b then (-1 : Int) else v) = 0
        · rw [if_pos q2]
        · rw [if_neg q2, if_neg (fun q => hc ⟨q, Classical.byContradiction fun z => q2 (hq.mpr z)⟩)]
theorem oc_number (hR : oy_R w σ) {b : Nat} (hb : b ≤ 1000) : F_Rdr_takeNumber (oy_pl σ b) = some ((sp_nu w b).2, oy_pl σ (sp_nu w b).1) := by
  have h := oc_nloop hR hb 4 b ox_fu 0 (by omega) (Nat.le_refl _) (by omega) (by decide) (Or.inl ⟨rfl, rfl⟩) (by show 4 < 100000; omega)
  rw [if_pos rfl, Nat.sub_self] at h
  exact h
end OYC1
