/-! ===== the law's own code is what its table says ===== -/
def oz_ck (pc : Nat) : Bool := match m_Law_law.2.1 pc with
  | none => true
  | some q => decide (decode code pc = .ok (q.1, q.2.1)) && ox_chk m_Law_law pc q.1 q.2.1 q.2.2
def oz_cs (k : Nat) : Bool := (List.range 60).all fun i => oz_ck (60 * k + i)
theorem oz_lc_0 : oz_cs 0 = true := by decide +kernel
theorem oz_lc_1 : oz_cs 1 = true := by decide +kernel
theorem oz_lc_2 : oz_cs 2 = true := by decide +kernel
theorem oz_lc_3 : oz_cs 3 = true := by decide +kernel
theorem oz_lc_4 : oz_cs 4 = true := by decide +kernel
theorem oz_lc_5 : oz_cs 5 = true := by decide +kernel
theorem oz_lc_6 : oz_cs 6 = true := by decide +kernel
theorem oz_lc_7 : oz_cs 7 = true := by decide +kernel
theorem oz_lc_8 : oz_cs 8 = true := by decide +kernel
theorem oz_lc_9 : oz_cs 9 = true := by decide +kernel
theorem oz_lc_10 : oz_cs 10 = true := by decide +kernel
theorem oz_lc_11 : oz_cs 11 = true := by decide +kernel
theorem oz_lc_12 : oz_cs 12 = true := by decide +kernel
theorem oz_lc_13 : oz_cs 13 = true := by decide +kernel
theorem oz_lc_14 : oz_cs 14 = true := by decide +kernel
theorem oz_lc_15 : oz_cs 15 = true := by decide +kernel
theorem oz_lc_16 : oz_cs 16 = true := by decide +kernel
theorem oz_lc_17 : oz_cs 17 = true := by decide +kernel
theorem oz_lc_18 : oz_cs 18 = true := by decide +kernel
theorem oz_lc_19 : oz_cs 19 = true := by decide +kernel
theorem oz_lc_20 : oz_cs 20 = true := by decide +kernel
theorem oz_lc_21 : oz_cs 21 = true := by decide +kernel
theorem oz_lc_22 : oz_cs 22 = true := by decide +kernel
theorem oz_lc_23 : oz_cs 23 = true := by decide +kernel
theorem oz_lc_24 : oz_cs 24 = true := by decide +kernel
theorem oz_lc_25 : oz_cs 25 = true := by decide +kernel
theorem oz_lc_26 : oz_cs 26 = true := by decide +kernel
theorem oz_lc_27 : oz_cs 27 = true := by decide +kernel
theorem oz_lc_28 : oz_cs 28 = true := by decide +kernel
theorem oz_lc_29 : oz_cs 29 = true := by decide +kernel
theorem oz_lc : ∀ k, k < 30 → oz_cs k = true
  | 0, _ => oz_lc_0
  | 1, _ => oz_lc_1
  | 2, _ => oz_lc_2
  | 3, _ => oz_lc_3
  | 4, _ => oz_lc_4
  | 5, _ => oz_lc_5
  | 6, _ => oz_lc_6
  | 7, _ => oz_lc_7
  | 8, _ => oz_lc_8
  | 9, _ => oz_lc_9
  | 10, _ => oz_lc_10
  | 11, _ => oz_lc_11
  | 12, _ => oz_lc_12
  | 13, _ => oz_lc_13
  | 14, _ => oz_lc_14
  | 15, _ => oz_lc_15
  | 16, _ => oz_lc_16
  | 17, _ => oz_lc_17
  | 18, _ => oz_lc_18
  | 19, _ => oz_lc_19
  | 20, _ => oz_lc_20
  | 21, _ => oz_lc_21
  | 22, _ => oz_lc_22
  | 23, _ => oz_lc_23
  | 24, _ => oz_lc_24
  | 25, _ => oz_lc_25
  | 26, _ => oz_lc_26
  | 27, _ => oz_lc_27
  | 28, _ => oz_lc_28
  | 29, _ => oz_lc_29
  | k + 30, h => by omega
theorem oz_law_Co : ox_Co m_Law_law code := by
  intro pc i n f hm
  have hle : pc ≤ 1778 := by
    have hm : ox_tb 1778 t_Law_law pc = some (i, n, f) := hm
    unfold ox_tb at hm
    cases hb : Nat.ble pc 1778 with
    | true => exact Nat.le_of_ble_eq_true hb
    | false => rw [hb] at hm; cases hm
  have h2 := List.all_eq_true.mp (oz_lc (pc / 60) (by omega)) (pc % 60) (List.mem_range.mpr (by omega))
  rw [show 60 * (pc / 60) + pc % 60 = pc by omega] at h2
  unfold oz_ck at h2
  rw [hm] at h2
  rw [Bool.and_eq_true, decide_eq_true_eq] at h2
  exact h2
