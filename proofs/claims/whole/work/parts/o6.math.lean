/-! ===== the law's loop; where it begins ===== -/
section OYO6
variable {L N p b : Nat} {xs : Nat → Int32} {σ : ox_H}
theorem oz_step (hR : oy_Rx L xs N σ) (hN : N ≤ 1000) (hp : p + 5 ≤ L) (hL : L ≤ 2560) (hb : 6 ≤ b) : oz_Ok L xs N p b (B_Law_law_23 ((p : Int), b, σ)) := by
  have hs := hR.2
  have w : Nat → ox_w ((((L : Int).toNat : Nat) : Int) - 5) = (L : Int) - 5 := fun _ => by
    rw [Int.toNat_natCast, oy_w (by omega) (by omega)]
  have h1 : ¬ ox_w (((σ 22 0 1 0).toNat : Nat) - 5) < (p : Int) := by
    rw [hs.1, w 0]
    omega
  have h2 : 0 ≤ (p : Int) ∧ (p : Int).toNat < (σ 22 0 1 0).toNat := by
    rw [hs.1]
    omega
  rw [oz_B, if_neg h1, if_pos h2]
  generalize ox_and (σ 22 0 0 (p : Int).toNat) 31 = a
  unfold oz_sel
  by_cases q0 : a = ((0 : Nat) : Int)
  · rw [if_pos q0]
    exact oz_c0 hR hN hp hL hb
  rw [if_neg q0]
  by_cases q1 : a = ((1 : Nat) : Int)
  · rw [if_pos q1]
    exact oz_c1 hR hN hp hL hb
  rw [if_neg q1]
  by_cases q2 : a = ((2 : Nat) : Int)
  · rw [if_pos q2]
    exact oz_c2 hR hN hp hL hb
  rw [if_neg q2]
  by_cases q3 : a = ((3 : Nat) : Int)
  · rw [if_pos q3]
    exact oz_c3 hR hN hp hL hb
  rw [if_neg q3]
  by_cases q4 : a = ((4 : Nat) : Int)
  · rw [if_pos q4]
    exact oz_c4 hR hN hp hL hb
  rw [if_neg q4]
  by_cases q5 : a = ((5 : Nat) : Int)
  · rw [if_pos q5]
    exact oz_c5 hR hN hp hL hb
  rw [if_neg q5]
  by_cases q6 : a = ((6 : Nat) : Int)
  · rw [if_pos q6]
    exact oz_c6 hR hN hp hL hb
  rw [if_neg q6]
  by_cases q7 : a = ((7 : Nat) : Int)
  · rw [if_pos q7]
    exact oz_c7 hR hN hp hL hb
  rw [if_neg q7]
  by_cases q8 : a = ((8 : Nat) : Int)
  · rw [if_pos q8]
    exact oz_c8 hR hN hp hL hb
  rw [if_neg q8]
  by_cases q9 : a = ((9 : Nat) : Int)
  · rw [if_pos q9]
    exact oz_c9 hR hN hp hL hb
  rw [if_neg q9]
  by_cases q10 : a = ((10 : Nat) : Int)
  · rw [if_pos q10]
    exact oz_c10 hR hN hp hL hb
  rw [if_neg q10]
  by_cases q11 : a = ((11 : Nat) : Int)
  · rw [if_pos q11]
    exact oz_c11 hR hN hp hL hb
  rw [if_neg q11]
  by_cases q12 : a = ((12 : Nat) : Int)
  · rw [if_pos q12]
    exact oz_c12 hR hN hp hL hb
  rw [if_neg q12]
  by_cases q13 : a = ((13 : Nat) : Int)
  · rw [if_pos q13]
    exact oz_c13 hR hN hp hL hb
  rw [if_neg q13]
  by_cases q14 : a = ((14 : Nat) : Int)
  · rw [if_pos q14]
    exact oz_c14 hR hN hp hL hb
  rw [if_neg q14]
  by_cases q15 : a = ((15 : Nat) : Int)
  · rw [if_pos q15]
    exact oz_c15 hR hN hp hL hb
  rw [if_neg q15]
  by_cases q16 : a = ((16 : Nat) : Int)
  · rw [if_pos q16]
    exact oz_c16 hR hN hp hL hb
  rw [if_neg q16]
  by_cases q17 : a = ((17 : Nat) : Int)
  · rw [if_pos q17]
    exact oz_c17 hR hN hp hL hb
  rw [if_neg q17]
  by_cases q18 : a = ((18 : Nat) : Int)
  · rw [if_pos q18]
    exact oz_c18 hR hN hp hL hb
  rw [if_neg q18]
  by_cases q19 : a = ((19 : Nat) : Int)
  · rw [if_pos q19]
    exact oz_c19 hR hN hp hL hb
  rw [if_neg q19]
  by_cases q20 : a = ((20 : Nat) : Int)
  · rw [if_pos q20]
    exact oz_c20 hR hN hp hL hb
  rw [if_neg q20]
  by_cases q21 : a = ((21 : Nat) : Int)
  · rw [if_pos q21]
    exact oz_c21 hR hN hp hL hb
  rw [if_neg q21]
  by_cases q22 : a = ((22 : Nat) : Int)
  · rw [if_pos q22]
    exact oz_c22 hR hN hp hL hb
  rw [if_neg q22]
  by_cases q23 : a = ((23 : Nat) : Int)
  · rw [if_pos q23]
    exact oz_c23 hR hN hp hL hb
  rw [if_neg q23]
  by_cases q24 : a = ((24 : Nat) : Int)
  · rw [if_pos q24]
    exact oz_c24 hR hN hp hL hb
  rw [if_neg q24]
  by_cases q25 : a = ((25 : Nat) : Int)
  · rw [if_pos q25]
    exact oz_c25 hR hN hp hL hb
  rw [if_neg q25]
  by_cases q26 : a = ((26 : Nat) : Int)
  · rw [if_pos q26]
    exact oz_c26 hR hN hp hL hb
  rw [if_neg q26]
  by_cases q27 : a = ((27 : Nat) : Int)
  · rw [if_pos q27]
    exact oz_c27 hR hN hp hL hb
  rw [if_neg q27]
  have w5 : Nat → ox_w ((p : Int) + 5) = ((p + 5 : Nat) : Int) := fun _ => by
    rw [oy_w (by omega) (by omega)]
    omega
  obtain ⟨⟨T, A, d, n, K, hT, hd, hn, hC, hr⟩, hs⟩ := hR
  refine ⟨b, σ, ?_, by omega, ⟨T, A, d, n, K, hT, hd, hn, hC.same, hr.same⟩, hs⟩
  unfold J_Law_law_1771
  rw [w5 0]
theorem oz_loop (hL : L ≤ 2560) : ∀ (k N n b : Nat) (σ : ox_H), N + k = 513 → 6 * k ≤ b → oy_Rx L xs N σ → k < n → ∃ σ', ox_lp B_Law_law_23 n (((5 * N : Nat) : Int), b, σ) = some (1, σ')
  | _, _, 0, _, _, _, _, _, h => absurd h (Nat.not_lt_zero _)
  | k, N, n + 1, b, σ, h1, h2, hR, h3 => by
    have hs := hR.2
    by_cases q : 5 * N + 5 ≤ L
    · cases k with
      | zero => exact absurd q (by omega)
      | succ k =>
        obtain ⟨b', σ1, e1, hb, R1⟩ := oz_step hR (by omega) q hL (show 6 ≤ b by omega)
        obtain ⟨σ', e2⟩ := oz_loop hL k (N + 1) n b' σ1 (by omega) (by omega) R1 (by omega)
        have e5 : 5 * (N + 1) = 5 * N + 5 := by omega
        rw [e5] at e2
        exact ⟨σ', (oy_lp_l e1).trans e2⟩
    · have w : Nat → ox_w ((((L : Int).toNat : Nat) : Int) - 5) = (L : Int) - 5 := fun _ => by
        rw [Int.toNat_natCast, oy_w (by omega) (by omega)]
      have h4 : ox_w (((σ 22 0 1 0).toNat : Nat) - 5) < ((5 * N : Nat) : Int) := by
        rw [hs.1, w 0]
        omega
      refine ⟨σ, oy_lp_m (X := some (1, σ)) ?_⟩
      rw [oz_B, if_pos h4]
      rfl
theorem oz_begin : oy_Rx L xs 0 (ox_H0 L xs) := by
  have e : ∀ c k j i, c ≠ 22 → ox_H0 L xs c k j i = ob_i0 c k j := fun c k j i h => if_neg h
  have L0 : ∀ k, ox_H0 L xs 1 k 4 0 = 0 → oy_L k [] (ox_H0 L xs) := fun k h => ⟨h, fun l hl => absurd hl (Nat.not_lt_zero _), fun l p hl => absurd hl (Nat.not_lt_zero _)⟩
  have ok0 : ∀ k, oy_okL k [] := fun k => ⟨Nat.zero_le _, fun w hw => by cases hw⟩
  have aok0 : oy_aok [] := ⟨Nat.zero_le _, fun P hP => by cases hP⟩
  refine ⟨⟨[], [], 0, 0, ([], (fun _ => 0), (fun _ => 0), 0), ⟨Nat.zero_le _, fun w hw => by cases hw⟩, by decide, by decide, ⟨⟨⟨⟨L0 0 rfl, rfl, rfl, fun z => ?_⟩, ⟨rfl, rfl, rfl, rfl, rfl, rfl, rfl, rfl⟩⟩, ?_, ?_, ?_⟩, ?_, ⟨?_, fun z => ?_⟩, ⟨⟨[], ok0 2, L0 2 rfl, rfl, rfl⟩, ?_, fun z => ?_⟩, ⟨aok0, rfl, fun i hi => absurd hi (Nat.not_lt_zero _), L0 4 rfl, rfl, rfl⟩, ⟨⟨ok0 3, L0 3 rfl, rfl, rfl⟩, fun x hx => ⟨rfl, rfl⟩, rfl⟩, ⟨[], ok0 1, L0 1 rfl, rfl, rfl⟩, rfl, rfl⟩, ⟨⟨rfl, fun l hl => absurd hl (Nat.not_lt_zero _), fun l p hl => absurd hl (Nat.not_lt_zero _)⟩, ⟨aok0, rfl, fun i hi => absurd hi (Nat.not_lt_zero _)⟩, ⟨fun i hi => rfl, fun x hx => ⟨rfl, rfl⟩, rfl⟩, ⟨fun i => rfl, fun i => rfl, fun i => ?_, fun i => ?_⟩, ?_, ?_, rfl, rfl⟩⟩, ⟨rfl, fun i => rfl⟩⟩
  · rw [e _ _ _ _ (by decide), e _ _ _ _ (by decide)] at z
    exact absurd z (by decide)
  · rw [e _ _ _ _ (by decide)]
    decide
  · rw [e _ _ _ _ (by decide)]
    decide
  · rw [e _ _ _ _ (by decide), e _ _ _ _ (by decide)]
    decide
  · rw [e _ _ _ _ (by decide)]
    decide
  · rw [e _ _ _ _ (by decide), e _ _ _ _ (by decide)]
    decide
  · rw [e _ _ _ _ (by decide), e _ _ _ _ (by decide)] at z
    exact absurd z (by decide)
  · rw [e _ _ _ _ (by decide), e _ _ _ _ (by decide)]
    decide
  · rw [e _ _ _ _ (by decide), e _ _ _ _ (by decide)] at z
    exact absurd z (by decide)
  · rw [e _ _ _ _ (by decide), e _ _ _ _ (by decide)]
    decide
  · rw [e _ _ _ _ (by decide), e _ _ _ _ (by decide)]
    decide
  · rw [e _ _ _ _ (by decide)]
    decide
  · rw [e _ _ _ _ (by decide)]
    decide
/-- the law's loop answers 1, for every script of at most 2560 ints -/
theorem oy_math (L : Nat) (hL : L ≤ 2560) (xs : Nat → Int32) : oz_M L xs := by
  obtain ⟨σ', e⟩ := oz_loop (xs := xs) hL 513 0 ox_fu 450000 (ox_H0 L xs) rfl (by decide) oz_begin (by show 513 < 100000; decide)
  exact ⟨σ', e⟩
end OYO6
