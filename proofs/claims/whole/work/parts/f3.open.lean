/-! ===== lines opened: the reference ===== -/
theorem oy_cp_def {σ : ox_H} {c0 k0 j0 sp c k j dp n c' k' j' i' : Nat} : ox_cp σ c0 k0 j0 sp c k j dp n c' k' j' i' = if c' = c ∧ j' = j ∧ k' = k ∧ dp ≤ i' ∧ i' < dp + n then σ c0 k0 j0 (sp + (i' - dp)) else σ c' k' j' i' := rfl
theorem oy_cp_0 {σ : ox_H} {c0 k0 j0 sp c k j dp : Nat} : ox_cp σ c0 k0 j0 sp c k j dp 0 = σ := by
  funext c' k' j' i'
  rw [oy_cp_def, if_neg (by omega)]
/-- the text's rows moved up -/
def oy_mv (σ : ox_H) (x y d : Nat) : ox_H := ox_cp (ox_cp σ 10 0 0 (24 * x) 10 0 0 (24 * y) (24 * d)) 10 0 1 x 10 0 1 y d
section OYF3
variable {T : oy_T} {σ : ox_H}
theorem om_openi {m x : Nat} (a : Int) (hm : 1 ≤ m) (hx : x + m < 60) : ∀ (f y n : Nat) (τ : ox_H), y + f = 24 → f < n → ox_lp (B_Mod_open_29 a (m : Int) (x : Int)) n ((y : Int), τ) = some (.inl ((x : Int) - 1, ox_cp τ 10 0 0 (24 * x + y) 10 0 0 (24 * (x + m) + y) f))
  | _, _, 0, _, _, h => absurd h (Nat.not_lt_zero _)
  | 0, y, n + 1, τ, h1, h2 => by
    obtain rfl : y = 24 := by omega
    rw [oy_cp_0]
    refine oy_lp_m ?_
    unfold B_Mod_open_29 J_Mod_open_68
    dsimp only
    rw [if_pos (by decide), oy_w (by omega) (by omega)]
    rfl
  | f + 1, y, n + 1, τ, h1, h2 => by
    have e1 : ox_w (ox_w (24 * (x : Int)) + (y : Int)) = ((24 * x + y : Nat) : Int) := by
      rw [oy_w (x := 24 * (x : Int)) (by omega) (by omega), oy_w (by omega) (by omega)]
      omega
    have e2 : ox_w (ox_w (24 * ox_w ((x : Int) + (m : Int))) + (y : Int)) = ((24 * (x + m) + y : Nat) : Int) := by
      rw [oy_w (x := (x : Int) + (m : Int)) (by omega) (by omega), oy_w (x := 24 * ((x : Int) + (m : Int))) (by omega) (by omega), oy_w (by omega) (by omega)]
      omega
    have hB : B_Mod_open_29 a (m : Int) (x : Int) ((y : Int), τ) = some (.inl (((y + 1 : Nat) : Int), ox_up τ 10 0 0 (24 * (x + m) + y) (τ 10 0 0 (24 * x + y)))) := by
      unfold B_Mod_open_29
      dsimp only
      rw [if_neg (by omega), e1, e2, Int.toNat_natCast, Int.toNat_natCast, if_pos (by omega), if_pos (by omega), oy_w1 (by omega)]
    rw [oy_lp_l hB, om_openi a hm hx f (y + 1) n _ (by omega) (by omega)]
    have hh : ox_cp (ox_up τ 10 0 0 (24 * (x + m) + y) (τ 10 0 0 (24 * x + y))) 10 0 0 (24 * x + (y + 1)) 10 0 0 (24 * (x + m) + (y + 1)) f = ox_cp τ 10 0 0 (24 * x + y) 10 0 0 (24 * (x + m) + y) (f + 1) := by
      funext c' k' j' i'
      rw [oy_cp_def, oy_cp_def]
      by_cases q : c' = 10 ∧ j' = 0 ∧ k' = 0 ∧ 24 * (x + m) + y ≤ i' ∧ i' < 24 * (x + m) + y + (f + 1)
      · rw [if_pos q]
        by_cases z : i' = 24 * (x + m) + y
        · rw [if_neg (by omega), z, q.1, q.2.1, q.2.2.1, oy_up_same, Nat.sub_self]
          rfl
        · have ei : 24 * x + (y + 1) + (i' - (24 * (x + m) + (y + 1))) = 24 * x + y + (i' - (24 * (x + m) + y)) := by omega
          rw [if_pos (by omega), oy_up_ni (by omega), ei]
      · rw [if_neg q, if_neg (by omega)]
        unfold ox_up
        rw [if_neg (by omega)]
    rw [hh]
theorem oy_mv_1 {σ : ox_H} {x y d i : Nat} : oy_mv σ x y d 10 0 1 i = if y ≤ i ∧ i < y + d then σ 10 0 1 (x + (i - y)) else σ 10 0 1 i := by
  unfold oy_mv
  rw [oy_cp_def]
  by_cases q : y ≤ i ∧ i < y + d
  · rw [if_pos ⟨rfl, rfl, rfl, q.1, q.2⟩, if_pos q, oy_cp_def, if_neg (by omega)]
  · rw [if_neg (by omega), if_neg q, oy_cp_def, if_neg (by omega)]
theorem oy_mv_0 {σ : ox_H} {x y d i : Nat} : oy_mv σ x y d 10 0 0 i = if 24 * y ≤ i ∧ i < 24 * y + 24 * d then σ 10 0 0 (24 * x + (i - 24 * y)) else σ 10 0 0 i := by
  unfold oy_mv
  rw [oy_cp_def, if_neg (by omega), oy_cp_def]
  by_cases q : 24 * y ≤ i ∧ i < 24 * y + 24 * d
  · rw [if_pos ⟨rfl, rfl, rfl, q.1, q.2⟩, if_pos q]
  · rw [if_neg (by omega), if_neg q]
theorem oy_mv_n {σ : ox_H} {x y d c k j i : Nat} (h : ¬ (c = 10 ∧ k = 0 ∧ (j = 0 ∨ j = 1))) : oy_mv σ x y d c k j i = σ c k j i := by
  unfold oy_mv
  rw [oy_cp_def, if_neg (by omega), oy_cp_def, if_neg (by omega)]
theorem om_openl {m a : Nat} (hm : 1 ≤ m) : ∀ (d x n : Nat) (τ : ox_H), x = a + d → x + m ≤ 60 → d < n → ∃ τ', ox_lp (B_Mod_open_7 (a : Int) (m : Int)) n ((x : Int) - 1, τ) = J_Mod_open_74 (m : Int) τ' ∧ ∀ c k j i, τ' c k j i = oy_mv τ a (a + m) d c k j i
  | _, _, 0, _, _, _, h => absurd h (Nat.not_lt_zero _)
  | 0, x, n + 1, τ, h1, h2, h3 => by
    refine ⟨τ, oy_lp_m ?_, fun c k j i => ?_⟩
    · unfold B_Mod_open_7
      dsimp only
      rw [if_pos (by omega)]
    · unfold oy_mv
      rw [Nat.mul_zero, oy_cp_0, oy_cp_0]
  | d + 1, x, n + 1, τ, h1, h2, h3 => by
    obtain ⟨x, rfl⟩ : ∃ y, x = y + 1 := ⟨x - 1, by omega⟩
    have ex : (((x + 1 : Nat) : Int) - 1) = (x : Int) := by omega
    have exm : ox_w ((x : Int) + (m : Int)) = ((x + m : Nat) : Int) := by rw [oy_w (by omega) (by omega)]; omega
    have hB : B_Mod_open_7 (a : Int) (m : Int) ((x : Int), τ) = some (.inl ((x : Int) - 1, ox_cp (ox_up τ 10 0 1 (x + m) (τ 10 0 1 x)) 10 0 0 (24 * x) 10 0 0 (24 * (x + m)) 24)) := by
      have hi := om_openi (x := x) (a : Int) hm (by omega) 24 0 ox_fu (ox_up τ 10 0 1 (x + m) (τ 10 0 1 x)) (by omega) (by show 24 < 100000; omega)
      unfold B_Mod_open_7 J_Mod_open_29
      dsimp only
      rw [if_neg (by omega), if_pos (by omega), exm, if_pos (by omega), Int.toNat_natCast, Int.toNat_natCast]
      exact hi
    obtain ⟨τ', e', g'⟩ := om_openl (a := a) hm d x n _ (by omega) (by omega) (by omega)
    rw [ex]
    refine ⟨τ', (oy_lp_l hB).trans e', fun c k j i => ?_⟩
    rw [g']
    have hA : ∀ i', ox_cp (ox_up τ 10 0 1 (x + m) (τ 10 0 1 x)) 10 0 0 (24 * x) 10 0 0 (24 * (x + m)) 24 10 0 1 i' = if i' = x + m then τ 10 0 1 x else τ 10 0 1 i' := fun i' => by
      rw [oy_cp_def, if_neg (by omega)]
      by_cases q : i' = x + m
      · rw [if_pos q, q, oy_up_same]
      · rw [if_neg q, oy_up_ni q]
    have hB2 : ∀ i', ox_cp (ox_up τ 10 0 1 (x + m) (τ 10 0 1 x)) 10 0 0 (24 * x) 10 0 0 (24 * (x + m)) 24 10 0 0 i' = if 24 * (x + m) ≤ i' ∧ i' < 24 * (x + m) + 24 then τ 10 0 0 (24 * x + (i' - 24 * (x + m))) else τ 10 0 0 i' := fun i' => by
      rw [oy_cp_def]
      by_cases q : 24 * (x + m) ≤ i' ∧ i' < 24 * (x + m) + 24
      · rw [if_pos ⟨rfl, rfl, rfl, q.1, q.2⟩, if_pos q, oy_up_ne (by decide)]
      · rw [if_neg (by omega), if_neg q, oy_up_ne (by decide)]
    by_cases hc : c = 10 ∧ k = 0 ∧ (j = 0 ∨ j = 1)
    rotate_left
    · rw [oy_mv_n hc, oy_mv_n hc, oy_cp_def, if_neg (by omega)]
      unfold ox_up
      rw [if_neg (by omega)]
    obtain ⟨rfl, rfl, hj⟩ := hc
    rcases hj with rfl | rfl
    · rw [oy_mv_0, oy_mv_0]
      by_cases q : 24 * (a + m) ≤ i ∧ i < 24 * (a + m) + 24 * d
      · rw [if_pos q, if_pos (by omega), hB2, if_neg (by omega)]
      · rw [if_neg q, hB2]
        by_cases z : 24 * (x + m) ≤ i ∧ i < 24 * (x + m) + 24
        · have ei : 24 * x + (i - 24 * (x + m)) = 24 * a + (i - 24 * (a + m)) := by omega
          rw [if_pos z, if_pos (by omega), ei]
        · rw [if_neg z, if_neg (by omega)]
    · rw [oy_mv_1, oy_mv_1]
      by_cases q : a + m ≤ i ∧ i < a + m + d
      · rw [if_pos q, if_pos (by omega), hA, if_neg (by omega)]
      · rw [if_neg q, hA]
        by_cases z : i = x + m
        · have ei : x = a + (i - (a + m)) := by omega
          rw [if_pos z, if_pos (by omega), ← ei]
        · rw [if_neg z, if_neg (by omega)]
end OYF3
