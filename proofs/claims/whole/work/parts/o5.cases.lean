/-! ===== each call in the law ===== -/
theorem oz_bb {b k : Nat} (h : k ≤ 6) : b ≤ b - k + 6 := by omega
theorem oz_lt {x : Int} (h : -2147483648 ≤ x ∧ x ≤ 2147483647) : x < 2147483648 := by omega
section OYO5
variable {L N p b : Nat} {xs : Nat → Int32} {σ : ox_H}
theorem oz_c0 (hR : oy_Rx L xs N σ) (hN : N ≤ 1000) (hp : p + 5 ≤ L) (hL : L ≤ 2560) (hb : 6 ≤ b) : oz_Ok L xs N p b (oz_br0 (p : Int) b σ) := by
  obtain ⟨⟨T, A, d, n, K, hT, hd, hn, hC, hr⟩, hs⟩ := hR
  have c1 : 0 ≤ ox_w ((p : Int) + 1) ∧ (ox_w ((p : Int) + 1)).toNat < (σ 22 0 1 0).toNat := hs.c (q := 1) (by omega) hL
  have w5 : Nat → ox_w ((p : Int) + 5) = ((p + 5 : Nat) : Int) := fun _ => by
    rw [oy_w (by omega) (by omega)]
    omega
  obtain ⟨τ, e1, f1, C1⟩ := cc_line hT hC hN (a := (σ 22 0 0 (ox_w ((p : Int) + 1)).toNat))
  obtain ⟨τ2, e2, f2, v2⟩ := ol_line e1 ((sp_line_t hT).2)
  obtain ⟨R2, s2⟩ := oz_mid hr hs f1 f2
  obtain ⟨σ2, y, e3, f3, R3, q3, w3⟩ := cr_line hT R2 (a := (σ 22 0 0 (ox_w ((p : Int) + 1)).toNat))
  have c1' : 0 ≤ ox_w ((p : Int) + 1) ∧ (ox_w ((p : Int) + 1)).toNat < (τ2 22 0 1 0).toNat := s2.c (q := 1) (by omega) hL
  have a1 := hs.at s2 (ox_w ((p : Int) + 1)).toNat
  refine ⟨b - 2, σ2, ?_, oz_bb (by decide), oz_end ((sp_line_t hT).1) (hd) (hn) C1 f2 f3 R3 s2⟩
  unfold oz_br0
  rw [if_pos c1, if_pos (show 2 ≤ b from Nat.le_trans (by decide) hb), e2, Option.bind_some]
  dsimp only
  rw [if_pos c1', a1, e3, Option.bind_some]
  dsimp only
  rw [oz_fin q3 (oz_h2 f3 v2 w3)]
  unfold J_Law_law_217 J_Law_law_1771
  rw [w5 0]
theorem oz_c1 (hR : oy_Rx L xs N σ) (hN : N ≤ 1000) (hp : p + 5 ≤ L) (hL : L ≤ 2560) (hb : 6 ≤ b) : oz_Ok L xs N p b (oz_br1 (p : Int) b σ) := by
  obtain ⟨⟨T, A, d, n, K, hT, hd, hn, hC, hr⟩, hs⟩ := hR
  have c1 : 0 ≤ ox_w ((p : Int) + 1) ∧ (ox_w ((p : Int) + 1)).toNat < (σ 22 0 1 0).toNat := hs.c (q := 1) (by omega) hL
  have c2 : 0 ≤ ox_w ((p : Int) + 2) ∧ (ox_w ((p : Int) + 2)).toNat < (σ 22 0 1 0).toNat := hs.c (q := 2) (by omega) hL
  have w5 : Nat → ox_w ((p : Int) + 5) = ((p + 5 : Nat) : Int) := fun _ => by
    rw [oy_w (by omega) (by omega)]
    omega
  obtain ⟨τ, e1, f1, C1⟩ := cc_sign hT hC hN (a := (σ 22 0 0 (ox_w ((p : Int) + 1)).toNat)) (x := (σ 22 0 0 (ox_w ((p : Int) + 2)).toNat % 65536))
  obtain ⟨τ2, e2, f2, v2⟩ := ol_sign e1 ((sp_sign_t hT).2)
  obtain ⟨R2, s2⟩ := oz_mid hr hs f1 f2
  obtain ⟨σ2, y, e3, f3, R3, q3, w3⟩ := cr_sign hT R2 (a := (σ 22 0 0 (ox_w ((p : Int) + 1)).toNat)) (x := (σ 22 0 0 (ox_w ((p : Int) + 2)).toNat % 65536))
  have c1' : 0 ≤ ox_w ((p : Int) + 1) ∧ (ox_w ((p : Int) + 1)).toNat < (τ2 22 0 1 0).toNat := s2.c (q := 1) (by omega) hL
  have a1 := hs.at s2 (ox_w ((p : Int) + 1)).toNat
  have c2' : 0 ≤ ox_w ((p : Int) + 2) ∧ (ox_w ((p : Int) + 2)).toNat < (τ2 22 0 1 0).toNat := s2.c (q := 2) (by omega) hL
  have a2 := hs.at s2 (ox_w ((p : Int) + 2)).toNat
  refine ⟨b - 2, σ2, ?_, oz_bb (by decide), oz_end ((sp_sign_t hT).1) (hd) (hn) C1 f2 f3 R3 s2⟩
  unfold oz_br1
  rw [if_pos c1, if_pos c2, if_pos (show 2 ≤ b from Nat.le_trans (by decide) hb), e2, Option.bind_some]
  dsimp only
  rw [if_pos c1', if_pos c2', a1, a2, e3, Option.bind_some]
  dsimp only
  rw [oz_fin q3 (oz_h2 f3 v2 w3)]
  unfold J_Law_law_287 J_Law_law_1771
  rw [w5 0]
theorem oz_c2 (hR : oy_Rx L xs N σ) (hN : N ≤ 1000) (hp : p + 5 ≤ L) (hL : L ≤ 2560) (hb : 6 ≤ b) : oz_Ok L xs N p b (oz_br2 (p : Int) b σ) := by
  obtain ⟨⟨T, A, d, n, K, hT, hd, hn, hC, hr⟩, hs⟩ := hR
  have c1 : 0 ≤ ox_w ((p : Int) + 1) ∧ (ox_w ((p : Int) + 1)).toNat < (σ 22 0 1 0).toNat := hs.c (q := 1) (by omega) hL
  have w5 : Nat → ox_w ((p : Int) + 5) = ((p + 5 : Nat) : Int) := fun _ => by
    rw [oy_w (by omega) (by omega)]
    omega
  obtain ⟨τ, e1, f1, C1⟩ := cc_rub hT hC hN (a := (σ 22 0 0 (ox_w ((p : Int) + 1)).toNat))
  obtain ⟨τ2, e2, f2, v2⟩ := ol_rub e1 ((sp_rub_t hT).2)
  obtain ⟨R2, s2⟩ := oz_mid hr hs f1 f2
  obtain ⟨σ2, y, e3, f3, R3, q3, w3⟩ := cr_rub hT R2 (a := (σ 22 0 0 (ox_w ((p : Int) + 1)).toNat))
  have c1' : 0 ≤ ox_w ((p : Int) + 1) ∧ (ox_w ((p : Int) + 1)).toNat < (τ2 22 0 1 0).toNat := s2.c (q := 1) (by omega) hL
  have a1 := hs.at s2 (ox_w ((p : Int) + 1)).toNat
  refine ⟨b - 1, σ2, ?_, oz_bb (by decide), oz_end ((sp_rub_t hT).1) (hd) (hn) C1 f2 f3 R3 s2⟩
  unfold oz_br2
  rw [if_pos c1, if_pos (show 1 ≤ b from Nat.le_trans (by decide) hb), e2, Option.bind_some]
  dsimp only
  rw [if_pos c1', a1, e3, Option.bind_some]
  dsimp only
  rw [oz_fin q3 (oz_h2 f3 v2 w3)]
  unfold J_Law_law_343 J_Law_law_1771
  rw [w5 0]
theorem oz_c4 (hR : oy_Rx L xs N σ) (hN : N ≤ 1000) (hp : p + 5 ≤ L) (hL : L ≤ 2560) (hb : 6 ≤ b) : oz_Ok L xs N p b (oz_br4 (p : Int) b σ) := by
  obtain ⟨⟨T, A, d, n, K, hT, hd, hn, hC, hr⟩, hs⟩ := hR
  have c1 : 0 ≤ ox_w ((p : Int) + 1) ∧ (ox_w ((p : Int) + 1)).toNat < (σ 22 0 1 0).toNat := hs.c (q := 1) (by omega) hL
  have c2 : 0 ≤ ox_w ((p : Int) + 2) ∧ (ox_w ((p : Int) + 2)).toNat < (σ 22 0 1 0).toNat := hs.c (q := 2) (by omega) hL
  have w5 : Nat → ox_w ((p : Int) + 5) = ((p + 5 : Nat) : Int) := fun _ => by
    rw [oy_w (by omega) (by omega)]
    omega
  have e1 := oc_signAt hT hC.1.1 (a := (σ 22 0 0 (ox_w ((p : Int) + 1)).toNat)) (p := (σ 22 0 0 (ox_w ((p : Int) + 2)).toNat))
  have C1 := hC.same
  have f1 : oy_fs oy_lt σ σ := oy_fs.rf
  obtain ⟨τ2, e2, f2, v2⟩ := ol_signAt e1 (oz_e1)
  obtain ⟨R2, s2⟩ := oz_mid hr hs f1 f2
  obtain ⟨σ2, y, e3, f3, R3, q3, w3⟩ := cr_signAt hT R2 (a := (σ 22 0 0 (ox_w ((p : Int) + 1)).toNat)) (p := (σ 22 0 0 (ox_w ((p : Int) + 2)).toNat))
  have c1' : 0 ≤ ox_w ((p : Int) + 1) ∧ (ox_w ((p : Int) + 1)).toNat < (τ2 22 0 1 0).toNat := s2.c (q := 1) (by omega) hL
  have a1 := hs.at s2 (ox_w ((p : Int) + 1)).toNat
  have c2' : 0 ≤ ox_w ((p : Int) + 2) ∧ (ox_w ((p : Int) + 2)).toNat < (τ2 22 0 1 0).toNat := s2.c (q := 2) (by omega) hL
  have a2 := hs.at s2 (ox_w ((p : Int) + 2)).toNat
  refine ⟨b - 2, σ2, ?_, oz_bb (by decide), oz_end (hT) (hd) (hn) C1 f2 f3 R3 s2⟩
  unfold oz_br4
  rw [if_pos c1, if_pos c2, if_pos (show 2 ≤ b from Nat.le_trans (by decide) hb), e2, Option.bind_some]
  dsimp only
  rw [if_pos c1', if_pos c2', a1, a2, e3, Option.bind_some]
  dsimp only
  rw [oz_fin q3 (oz_h2 f3 v2 w3)]
  unfold J_Law_law_424 J_Law_law_1771
  rw [w5 0]
theorem oz_c5 (hR : oy_Rx L xs N σ) (hN : N ≤ 1000) (hp : p + 5 ≤ L) (hL : L ≤ 2560) (hb : 6 ≤ b) : oz_Ok L xs N p b (oz_br5 (p : Int) b σ) := by
  obtain ⟨⟨T, A, d, n, K, hT, hd, hn, hC, hr⟩, hs⟩ := hR
  have c1 : 0 ≤ ox_w ((p : Int) + 1) ∧ (ox_w ((p : Int) + 1)).toNat < (σ 22 0 1 0).toNat := hs.c (q := 1) (by omega) hL
  have w5 : Nat → ox_w ((p : Int) + 5) = ((p + 5 : Nat) : Int) := fun _ => by
    rw [oy_w (by omega) (by omega)]
    omega
  obtain ⟨τ, e1, f1, C1⟩ := cc_kind hT hC (a := (σ 22 0 0 (ox_w ((p : Int) + 1)).toNat))
  obtain ⟨τ2, e2, f2, v2⟩ := ol_kind e1 (oz_e1)
  obtain ⟨R2, s2⟩ := oz_mid hr hs f1 f2
  obtain ⟨σ2, y, e3, f3, R3, q3, w3⟩ := cr_kind hT R2 (a := (σ 22 0 0 (ox_w ((p : Int) + 1)).toNat))
  have c1' : 0 ≤ ox_w ((p : Int) + 1) ∧ (ox_w ((p : Int) + 1)).toNat < (τ2 22 0 1 0).toNat := s2.c (q := 1) (by omega) hL
  have a1 := hs.at s2 (ox_w ((p : Int) + 1)).toNat
  refine ⟨b - 1, σ2, ?_, oz_bb (by decide), oz_end (hT) (hd) (hn) C1 f2 f3 R3 s2⟩
  unfold oz_br5
  rw [if_pos c1, if_pos (show 1 ≤ b from Nat.le_trans (by decide) hb), e2, Option.bind_some]
  dsimp only
  rw [if_pos c1', a1, e3, Option.bind_some]
  dsimp only
  rw [oz_fin q3 (oz_h2 f3 v2 w3)]
  unfold J_Law_law_480 J_Law_law_1771
  rw [w5 0]
theorem oz_c7 (hR : oy_Rx L xs N σ) (hN : N ≤ 1000) (hp : p + 5 ≤ L) (hL : L ≤ 2560) (hb : 6 ≤ b) : oz_Ok L xs N p b (oz_br7 (p : Int) b σ) := by
  obtain ⟨⟨T, A, d, n, K, hT, hd, hn, hC, hr⟩, hs⟩ := hR
  have c1 : 0 ≤ ox_w ((p : Int) + 1) ∧ (ox_w ((p : Int) + 1)).toNat < (σ 22 0 1 0).toNat := hs.c (q := 1) (by omega) hL
  have c2 : 0 ≤ ox_w ((p : Int) + 2) ∧ (ox_w ((p : Int) + 2)).toNat < (σ 22 0 1 0).toNat := hs.c (q := 2) (by omega) hL
  have w5 : Nat → ox_w ((p : Int) + 5) = ((p + 5 : Nat) : Int) := fun _ => by
    rw [oy_w (by omega) (by omega)]
    omega
  obtain ⟨τ, e1, f1, C1⟩ := cc_entry hT hC (a := (σ 22 0 0 (ox_w ((p : Int) + 1)).toNat)) (k := (σ 22 0 0 (ox_w ((p : Int) + 2)).toNat))
  obtain ⟨τ2, e2, f2, v2⟩ := ol_entry e1 (oz_e12)
  obtain ⟨R2, s2⟩ := oz_mid hr hs f1 f2
  obtain ⟨σ2, y, e3, f3, R3, q3, w3⟩ := cr_entry hT R2 (a := (σ 22 0 0 (ox_w ((p : Int) + 1)).toNat)) (k := (σ 22 0 0 (ox_w ((p : Int) + 2)).toNat))
  have c1' : 0 ≤ ox_w ((p : Int) + 1) ∧ (ox_w ((p : Int) + 1)).toNat < (τ2 22 0 1 0).toNat := s2.c (q := 1) (by omega) hL
  have a1 := hs.at s2 (ox_w ((p : Int) + 1)).toNat
  have c2' : 0 ≤ ox_w ((p : Int) + 2) ∧ (ox_w ((p : Int) + 2)).toNat < (τ2 22 0 1 0).toNat := s2.c (q := 2) (by omega) hL
  have a2 := hs.at s2 (ox_w ((p : Int) + 2)).toNat
  refine ⟨b - 2, σ2, ?_, oz_bb (by decide), oz_end (hT) (hd) (hn) C1 f2 f3 R3 s2⟩
  unfold oz_br7
  rw [if_pos c1, if_pos c2, if_pos (show 2 ≤ b from Nat.le_trans (by decide) hb), e2, Option.bind_some]
  dsimp only
  rw [if_pos c1', if_pos c2', a1, a2, e3, Option.bind_some]
  dsimp only
  rw [oz_fin q3 (oz_h2 f3 v2 w3)]
  unfold J_Law_law_561 J_Law_law_1771
  rw [w5 0]
theorem oz_c8 (hR : oy_Rx L xs N σ) (hN : N ≤ 1000) (hp : p + 5 ≤ L) (hL : L ≤ 2560) (hb : 6 ≤ b) : oz_Ok L xs N p b (oz_br8 (p : Int) b σ) := by
  obtain ⟨⟨T, A, d, n, K, hT, hd, hn, hC, hr⟩, hs⟩ := hR
  have c1 : 0 ≤ ox_w ((p : Int) + 1) ∧ (ox_w ((p : Int) + 1)).toNat < (σ 22 0 1 0).toNat := hs.c (q := 1) (by omega) hL
  have c2 : 0 ≤ ox_w ((p : Int) + 2) ∧ (ox_w ((p : Int) + 2)).toNat < (σ 22 0 1 0).toNat := hs.c (q := 2) (by omega) hL
  have c3 : 0 ≤ ox_w ((p : Int) + 3) ∧ (ox_w ((p : Int) + 3)).toNat < (σ 22 0 1 0).toNat := hs.c (q := 3) (by omega) hL
  have w5 : Nat → ox_w ((p : Int) + 5) = ((p + 5 : Nat) : Int) := fun _ => by
    rw [oy_w (by omega) (by omega)]
    omega
  by_cases z : σ 22 0 0 (ox_w ((p : Int) + 3)).toNat = 0
  · obtain ⟨τ, e1, f1, C1⟩ := cc_property hT hC (a := (σ 22 0 0 (ox_w ((p : Int) + 1)).toNat)) (x := (σ 22 0 0 (ox_w ((p : Int) + 2)).toNat)) (w := 0)
    obtain ⟨τ2, e2, f2, v2⟩ := ol_property e1 (oz_e12)
    obtain ⟨R2, s2⟩ := oz_mid hr hs f1 f2
    obtain ⟨σ2, y, e3, f3, R3, q3, w3⟩ := cr_property hT R2 (a := (σ 22 0 0 (ox_w ((p : Int) + 1)).toNat)) (x := (σ 22 0 0 (ox_w ((p : Int) + 2)).toNat)) (w := 0)
    have c1' : 0 ≤ ox_w ((p : Int) + 1) ∧ (ox_w ((p : Int) + 1)).toNat < (τ2 22 0 1 0).toNat := s2.c (q := 1) (by omega) hL
    have a1 := hs.at s2 (ox_w ((p : Int) + 1)).toNat
    have c2' : 0 ≤ ox_w ((p : Int) + 2) ∧ (ox_w ((p : Int) + 2)).toNat < (τ2 22 0 1 0).toNat := s2.c (q := 2) (by omega) hL
    have a2 := hs.at s2 (ox_w ((p : Int) + 2)).toNat
    have c3' : 0 ≤ ox_w ((p : Int) + 3) ∧ (ox_w ((p : Int) + 3)).toNat < (τ2 22 0 1 0).toNat := s2.c (q := 3) (by omega) hL
    have a3 := hs.at s2 (ox_w ((p : Int) + 3)).toNat
    refine ⟨b - 2, σ2, ?_, oz_bb (by decide), oz_end (hT) (hd) (hn) C1 f2 f3 R3 s2⟩
    unfold oz_br8
    unfold J_Law_law_591
    rw [if_pos c1, if_pos c2, if_pos c3, if_pos z, if_pos (show 2 ≤ b from Nat.le_trans (by decide) hb), e2, Option.bind_some]
    dsimp only
    rw [if_pos c1', if_pos c2', if_pos c3', if_pos (show (τ2 22 0 0 (ox_w ((p : Int) + 3)).toNat = 0) by rw [a3]; exact z), a1, a2]
    unfold J_Law_law_624
    rw [e3, Option.bind_some]
    dsimp only
    rw [oz_fin q3 (oz_h2 f3 v2 w3)]
    unfold J_Law_law_657 J_Law_law_1771
    rw [w5 0]
  · obtain ⟨τ, e1, f1, C1⟩ := cc_property hT hC (a := (σ 22 0 0 (ox_w ((p : Int) + 1)).toNat)) (x := (σ 22 0 0 (ox_w ((p : Int) + 2)).toNat)) (w := 1)
    obtain ⟨τ2, e2, f2, v2⟩ := ol_property e1 (oz_e12)
    obtain ⟨R2, s2⟩ := oz_mid hr hs f1 f2
    obtain ⟨σ2, y, e3, f3, R3, q3, w3⟩ := cr_property hT R2 (a := (σ 22 0 0 (ox_w ((p : Int) + 1)).toNat)) (x := (σ 22 0 0 (ox_w ((p : Int) + 2)).toNat)) (w := 1)
    have c1' : 0 ≤ ox_w ((p : Int) + 1) ∧ (ox_w ((p : Int) + 1)).toNat < (τ2 22 0 1 0).toNat := s2.c (q := 1) (by omega) hL
    have a1 := hs.at s2 (ox_w ((p : Int) + 1)).toNat
    have c2' : 0 ≤ ox_w ((p : Int) + 2) ∧ (ox_w ((p : Int) + 2)).toNat < (τ2 22 0 1 0).toNat := s2.c (q := 2) (by omega) hL
    have a2 := hs.at s2 (ox_w ((p : Int) + 2)).toNat
    have c3' : 0 ≤ ox_w ((p : Int) + 3) ∧ (ox_w ((p : Int) + 3)).toNat < (τ2 22 0 1 0).toNat := s2.c (q := 3) (by omega) hL
    have a3 := hs.at s2 (ox_w ((p : Int) + 3)).toNat
    refine ⟨b - 2, σ2, ?_, oz_bb (by decide), oz_end (hT) (hd) (hn) C1 f2 f3 R3 s2⟩
    unfold oz_br8
    unfold J_Law_law_591
    rw [if_pos c1, if_pos c2, if_pos c3, if_neg z, if_pos (show 2 ≤ b from Nat.le_trans (by decide) hb), e2, Option.bind_some]
    dsimp only
    rw [if_pos c1', if_pos c2', if_pos c3', if_neg (show ¬ (τ2 22 0 0 (ox_w ((p : Int) + 3)).toNat = 0) by rw [a3]; exact z), a1, a2]
    unfold J_Law_law_624
    rw [e3, Option.bind_some]
    dsimp only
    rw [oz_fin q3 (oz_h2 f3 v2 w3)]
    unfold J_Law_law_657 J_Law_law_1771
    rw [w5 0]
theorem oz_c9 (hR : oy_Rx L xs N σ) (hN : N ≤ 1000) (hp : p + 5 ≤ L) (hL : L ≤ 2560) (hb : 6 ≤ b) : oz_Ok L xs N p b (oz_br9 (p : Int) b σ) := by
  obtain ⟨⟨T, A, d, n, K, hT, hd, hn, hC, hr⟩, hs⟩ := hR
  have c1 : 0 ≤ ox_w ((p : Int) + 1) ∧ (ox_w ((p : Int) + 1)).toNat < (σ 22 0 1 0).toNat := hs.c (q := 1) (by omega) hL
  have c2 : 0 ≤ ox_w ((p : Int) + 2) ∧ (ox_w ((p : Int) + 2)).toNat < (σ 22 0 1 0).toNat := hs.c (q := 2) (by omega) hL
  have w5 : Nat → ox_w ((p : Int) + 5) = ((p + 5 : Nat) : Int) := fun _ => by
    rw [oy_w (by omega) (by omega)]
    omega
  by_cases z : σ 22 0 0 (ox_w ((p : Int) + 2)).toNat = 0
  · obtain ⟨τ, e1, f1, C1⟩ := cc_shift hT hC hN (a := (σ 22 0 0 (ox_w ((p : Int) + 1)).toNat)) (m := 0)
    obtain ⟨τ2, e2, f2, v2⟩ := ol_shift e1 ((sp_shift_t hT).2)
    obtain ⟨R2, s2⟩ := oz_mid hr hs f1 f2
    obtain ⟨σ2, y, e3, f3, R3, q3, w3⟩ := cr_shift hT R2 (a := (σ 22 0 0 (ox_w ((p : Int) + 1)).toNat)) (m := 0)
    have c1' : 0 ≤ ox_w ((p : Int) + 1) ∧ (ox_w ((p : Int) + 1)).toNat < (τ2 22 0 1 0).toNat := s2.c (q := 1) (by omega) hL
    have a1 := hs.at s2 (ox_w ((p : Int) + 1)).toNat
    have c2' : 0 ≤ ox_w ((p : Int) + 2) ∧ (ox_w ((p : Int) + 2)).toNat < (τ2 22 0 1 0).toNat := s2.c (q := 2) (by omega) hL
    have a2 := hs.at s2 (ox_w ((p : Int) + 2)).toNat
    refine ⟨b - 2, σ2, ?_, oz_bb (by decide), oz_end ((sp_shift_t hT).1) (hd) (hn) C1 f2 f3 R3 s2⟩
    unfold oz_br9
    unfold J_Law_law_681
    rw [if_pos c1, if_pos c2, if_pos z, if_pos (show 2 ≤ b from Nat.le_trans (by decide) hb), e2, Option.bind_some]
    dsimp only
    rw [if_pos c1', if_pos c2', if_pos (show (τ2 22 0 0 (ox_w ((p : Int) + 2)).toNat = 0) by rw [a2]; exact z), a1]
    unfold J_Law_law_708
    rw [e3, Option.bind_some]
    dsimp only
    rw [oz_fin q3 (oz_h2 f3 v2 w3)]
    unfold J_Law_law_741 J_Law_law_1771
    rw [w5 0]
  · obtain ⟨τ, e1, f1, C1⟩ := cc_shift hT hC hN (a := (σ 22 0 0 (ox_w ((p : Int) + 1)).toNat)) (m := 1)
    obtain ⟨τ2, e2, f2, v2⟩ := ol_shift e1 ((sp_shift_t hT).2)
    obtain ⟨R2, s2⟩ := oz_mid hr hs f1 f2
    obtain ⟨σ2, y, e3, f3, R3, q3, w3⟩ := cr_shift hT R2 (a := (σ 22 0 0 (ox_w ((p : Int) + 1)).toNat)) (m := 1)
    have c1' : 0 ≤ ox_w ((p : Int) + 1) ∧ (ox_w ((p : Int) + 1)).toNat < (τ2 22 0 1 0).toNat := s2.c (q := 1) (by omega) hL
    have a1 := hs.at s2 (ox_w ((p : Int) + 1)).toNat
    have c2' : 0 ≤ ox_w ((p : Int) + 2) ∧ (ox_w ((p : Int) + 2)).toNat < (τ2 22 0 1 0).toNat := s2.c (q := 2) (by omega) hL
    have a2 := hs.at s2 (ox_w ((p : Int) + 2)).toNat
    refine ⟨b - 2, σ2, ?_, oz_bb (by decide), oz_end ((sp_shift_t hT).1) (hd) (hn) C1 f2 f3 R3 s2⟩
    unfold oz_br9
    unfold J_Law_law_681
    rw [if_pos c1, if_pos c2, if_neg z, if_pos (show 2 ≤ b from Nat.le_trans (by decide) hb), e2, Option.bind_some]
    dsimp only
    rw [if_pos c1', if_pos c2', if_neg (show ¬ (τ2 22 0 0 (ox_w ((p : Int) + 2)).toNat = 0) by rw [a2]; exact z), a1]
    unfold J_Law_law_708
    rw [e3, Option.bind_some]
    dsimp only
    rw [oz_fin q3 (oz_h2 f3 v2 w3)]
    unfold J_Law_law_741 J_Law_law_1771
    rw [w5 0]
theorem oz_c10 (hR : oy_Rx L xs N σ) (hN : N ≤ 1000) (hp : p + 5 ≤ L) (hL : L ≤ 2560) (hb : 6 ≤ b) : oz_Ok L xs N p b (oz_br10 (p : Int) b σ) := by
  obtain ⟨⟨T, A, d, n, K, hT, hd, hn, hC, hr⟩, hs⟩ := hR
  have c1 : 0 ≤ ox_w ((p : Int) + 1) ∧ (ox_w ((p : Int) + 1)).toNat < (σ 22 0 1 0).toNat := hs.c (q := 1) (by omega) hL
  have c2 : 0 ≤ ox_w ((p : Int) + 2) ∧ (ox_w ((p : Int) + 2)).toNat < (σ 22 0 1 0).toNat := hs.c (q := 2) (by omega) hL
  have c3 : 0 ≤ ox_w ((p : Int) + 3) ∧ (ox_w ((p : Int) + 3)).toNat < (σ 22 0 1 0).toNat := hs.c (q := 3) (by omega) hL
  have w5 : Nat → ox_w ((p : Int) + 5) = ((p + 5 : Nat) : Int) := fun _ => by
    rw [oy_w (by omega) (by omega)]
    omega
  by_cases z : σ 22 0 0 (ox_w ((p : Int) + 3)).toNat = 0
  · obtain ⟨τ, e1, f1, C1⟩ := cc_refile hT hC hN (a := (σ 22 0 0 (ox_w ((p : Int) + 1)).toNat)) (c := (σ 22 0 0 (ox_w ((p : Int) + 2)).toNat)) (s := 0)
    obtain ⟨τ2, e2, f2, v2⟩ := ol_refile e1 ((sp_refile_t hT).2)
    obtain ⟨R2, s2⟩ := oz_mid hr hs f1 f2
    obtain ⟨σ2, y, e3, f3, R3, q3, w3⟩ := cr_refile hT R2 (a := (σ 22 0 0 (ox_w ((p : Int) + 1)).toNat)) (c := (σ 22 0 0 (ox_w ((p : Int) + 2)).toNat)) (s := 0)
    have c1' : 0 ≤ ox_w ((p : Int) + 1) ∧ (ox_w ((p : Int) + 1)).toNat < (τ2 22 0 1 0).toNat := s2.c (q := 1) (by omega) hL
    have a1 := hs.at s2 (ox_w ((p : Int) + 1)).toNat
    have c2' : 0 ≤ ox_w ((p : Int) + 2) ∧ (ox_w ((p : Int) + 2)).toNat < (τ2 22 0 1 0).toNat := s2.c (q := 2) (by omega) hL
    have a2 := hs.at s2 (ox_w ((p : Int) + 2)).toNat
    have c3' : 0 ≤ ox_w ((p : Int) + 3) ∧ (ox_w ((p : Int) + 3)).toNat < (τ2 22 0 1 0).toNat := s2.c (q := 3) (by omega) hL
    have a3 := hs.at s2 (ox_w ((p : Int) + 3)).toNat
    refine ⟨b - 5, σ2, ?_, oz_bb (by decide), oz_end ((sp_refile_t hT).1) (hd) (hn) C1 f2 f3 R3 s2⟩
    unfold oz_br10
    unfold J_Law_law_771
    rw [if_pos c1, if_pos c2, if_pos c3, if_pos z, if_pos (show 5 ≤ b from Nat.le_trans (by decide) hb), e2, Option.bind_some]
    dsimp only
    rw [if_pos c1', if_pos c2', if_pos c3', if_pos (show (τ2 22 0 0 (ox_w ((p : Int) + 3)).toNat = 0) by rw [a3]; exact z), a1, a2]
    unfold J_Law_law_804
    rw [e3, Option.bind_some]
    dsimp only
    rw [oz_fin q3 (oz_h2 f3 v2 w3)]
    unfold J_Law_law_837 J_Law_law_1771
    rw [w5 0]
  · obtain ⟨τ, e1, f1, C1⟩ := cc_refile hT hC hN (a := (σ 22 0 0 (ox_w ((p : Int) + 1)).toNat)) (c := (σ 22 0 0 (ox_w ((p : Int) + 2)).toNat)) (s := 1)
    obtain ⟨τ2, e2, f2, v2⟩ := ol_refile e1 ((sp_refile_t hT).2)
    obtain ⟨R2, s2⟩ := oz_mid hr hs f1 f2
    obtain ⟨σ2, y, e3, f3, R3, q3, w3⟩ := cr_refile hT R2 (a := (σ 22 0 0 (ox_w ((p : Int) + 1)).toNat)) (c := (σ 22 0 0 (ox_w ((p : Int) + 2)).toNat)) (s := 1)
    have c1' : 0 ≤ ox_w ((p : Int) + 1) ∧ (ox_w ((p : Int) + 1)).toNat < (τ2 22 0 1 0).toNat := s2.c (q := 1) (by omega) hL
    have a1 := hs.at s2 (ox_w ((p : Int) + 1)).toNat
    have c2' : 0 ≤ ox_w ((p : Int) + 2) ∧ (ox_w ((p : Int) + 2)).toNat < (τ2 22 0 1 0).toNat := s2.c (q := 2) (by omega) hL
    have a2 := hs.at s2 (ox_w ((p : Int) + 2)).toNat
    have c3' : 0 ≤ ox_w ((p : Int) + 3) ∧ (ox_w ((p : Int) + 3)).toNat < (τ2 22 0 1 0).toNat := s2.c (q := 3) (by omega) hL
    have a3 := hs.at s2 (ox_w ((p : Int) + 3)).toNat
    refine ⟨b - 5, σ2, ?_, oz_bb (by decide), oz_end ((sp_refile_t hT).1) (hd) (hn) C1 f2 f3 R3 s2⟩
    unfold oz_br10
    unfold J_Law_law_771
    rw [if_pos c1, if_pos c2, if_pos c3, if_neg z, if_pos (show 5 ≤ b from Nat.le_trans (by decide) hb), e2, Option.bind_some]
    dsimp only
    rw [if_pos c1', if_pos c2', if_pos c3', if_neg (show ¬ (τ2 22 0 0 (ox_w ((p : Int) + 3)).toNat = 0) by rw [a3]; exact z), a1, a2]
    unfold J_Law_law_804
    rw [e3, Option.bind_some]
    dsimp only
    rw [oz_fin q3 (oz_h2 f3 v2 w3)]
    unfold J_Law_law_837 J_Law_law_1771
    rw [w5 0]
theorem oz_c11 (hR : oy_Rx L xs N σ) (hN : N ≤ 1000) (hp : p + 5 ≤ L) (hL : L ≤ 2560) (hb : 6 ≤ b) : oz_Ok L xs N p b (oz_br11 (p : Int) b σ) := by
  obtain ⟨⟨T, A, d, n, K, hT, hd, hn, hC, hr⟩, hs⟩ := hR
  have c1 : 0 ≤ ox_w ((p : Int) + 1) ∧ (ox_w ((p : Int) + 1)).toNat < (σ 22 0 1 0).toNat := hs.c (q := 1) (by omega) hL
  have c2 : 0 ≤ ox_w ((p : Int) + 2) ∧ (ox_w ((p : Int) + 2)).toNat < (σ 22 0 1 0).toNat := hs.c (q := 2) (by omega) hL
  have w5 : Nat → ox_w ((p : Int) + 5) = ((p + 5 : Nat) : Int) := fun _ => by
    rw [oy_w (by omega) (by omega)]
    omega
  obtain ⟨τ, e1, f1, C1⟩ := cc_state hT hC hN hd (a := (σ 22 0 0 (ox_w ((p : Int) + 1)).toNat)) (s := (σ 22 0 0 (ox_w ((p : Int) + 2)).toNat))
  obtain ⟨τ2, e2, f2, v2⟩ := ol_state e1 ((sp_statec_t hT hd).2)
  obtain ⟨R2, s2⟩ := oz_mid hr hs f1 f2
  obtain ⟨σ2, y, e3, f3, R3, q3, w3⟩ := cr_state hT R2 hd (a := (σ 22 0 0 (ox_w ((p : Int) + 1)).toNat)) (s := (σ 22 0 0 (ox_w ((p : Int) + 2)).toNat))
  have c1' : 0 ≤ ox_w ((p : Int) + 1) ∧ (ox_w ((p : Int) + 1)).toNat < (τ2 22 0 1 0).toNat := s2.c (q := 1) (by omega) hL
  have a1 := hs.at s2 (ox_w ((p : Int) + 1)).toNat
  have c2' : 0 ≤ ox_w ((p : Int) + 2) ∧ (ox_w ((p : Int) + 2)).toNat < (τ2 22 0 1 0).toNat := s2.c (q := 2) (by omega) hL
  have a2 := hs.at s2 (ox_w ((p : Int) + 2)).toNat
  refine ⟨b - 6, σ2, ?_, oz_bb (by decide), oz_end ((sp_statec_t hT hd).1) (hd) (hn) C1 f2 f3 R3 s2⟩
  unfold oz_br11
  rw [if_pos c1, if_pos c2, if_pos (show 6 ≤ b from Nat.le_trans (by decide) hb), e2, Option.bind_some]
  dsimp only
  rw [if_pos c1', if_pos c2', a1, a2, e3, Option.bind_some]
  dsimp only
  rw [oz_fin q3 (oz_h2 f3 v2 w3)]
  unfold J_Law_law_905 J_Law_law_1771
  rw [w5 0]
theorem oz_c12 (hR : oy_Rx L xs N σ) (hN : N ≤ 1000) (hp : p + 5 ≤ L) (hL : L ≤ 2560) (hb : 6 ≤ b) : oz_Ok L xs N p b (oz_br12 (p : Int) b σ) := by
  obtain ⟨⟨T, A, d, n, K, hT, hd, hn, hC, hr⟩, hs⟩ := hR
  have c1 : 0 ≤ ox_w ((p : Int) + 1) ∧ (ox_w ((p : Int) + 1)).toNat < (σ 22 0 1 0).toNat := hs.c (q := 1) (by omega) hL
  have c2 : 0 ≤ ox_w ((p : Int) + 2) ∧ (ox_w ((p : Int) + 2)).toNat < (σ 22 0 1 0).toNat := hs.c (q := 2) (by omega) hL
  have w5 : Nat → ox_w ((p : Int) + 5) = ((p + 5 : Nat) : Int) := fun _ => by
    rw [oy_w (by omega) (by omega)]
    omega
  obtain ⟨τ, e1, f1, C1⟩ := cc_capture hT hC hN (u := (σ 22 0 0 (ox_w ((p : Int) + 1)).toNat)) (t := (σ 22 0 0 (ox_w ((p : Int) + 2)).toNat))
  obtain ⟨τ2, e2, f2, v2⟩ := ol_capture e1 ((sp_capture_t hT).2)
  obtain ⟨R2, s2⟩ := oz_mid hr hs f1 f2
  obtain ⟨σ2, y, e3, f3, R3, q3, w3⟩ := cr_capture hT R2 (u := (σ 22 0 0 (ox_w ((p : Int) + 1)).toNat)) (t := (σ 22 0 0 (ox_w ((p : Int) + 2)).toNat))
  have c1' : 0 ≤ ox_w ((p : Int) + 1) ∧ (ox_w ((p : Int) + 1)).toNat < (τ2 22 0 1 0).toNat := s2.c (q := 1) (by omega) hL
  have a1 := hs.at s2 (ox_w ((p : Int) + 1)).toNat
  have c2' : 0 ≤ ox_w ((p : Int) + 2) ∧ (ox_w ((p : Int) + 2)).toNat < (τ2 22 0 1 0).toNat := s2.c (q := 2) (by omega) hL
  have a2 := hs.at s2 (ox_w ((p : Int) + 2)).toNat
  refine ⟨b - 4, σ2, ?_, oz_bb (by decide), oz_end ((sp_capture_t hT).1) (hd) (hn) C1 f2 f3 R3 s2⟩
  unfold oz_br12
  rw [if_pos c1, if_pos c2, if_pos (show 4 ≤ b from Nat.le_trans (by decide) hb), e2, Option.bind_some]
  dsimp only
  rw [if_pos c1', if_pos c2', a1, a2, e3, Option.bind_some]
  dsimp only
  rw [oz_fin q3 (oz_h2 f3 v2 w3)]
  unfold J_Law_law_973 J_Law_law_1771
  rw [w5 0]
theorem oz_c13 (hR : oy_Rx L xs N σ) (hN : N ≤ 1000) (hp : p + 5 ≤ L) (hL : L ≤ 2560) (hb : 6 ≤ b) : oz_Ok L xs N p b (oz_br13 (p : Int) b σ) := by
  obtain ⟨⟨T, A, d, n, K, hT, hd, hn, hC, hr⟩, hs⟩ := hR
  have c1 : 0 ≤ ox_w ((p : Int) + 1) ∧ (ox_w ((p : Int) + 1)).toNat < (σ 22 0 1 0).toNat := hs.c (q := 1) (by omega) hL
  have w5 : Nat → ox_w ((p : Int) + 5) = ((p + 5 : Nat) : Int) := fun _ => by
    rw [oy_w (by omega) (by omega)]
    omega
  obtain ⟨τ, e1, f1, C1⟩ := cc_archive hT hC hN (a := (σ 22 0 0 (ox_w ((p : Int) + 1)).toNat))
  obtain ⟨τ2, e2, f2, v2⟩ := ol_archive e1 ((sp_arch_t hT).2)
  obtain ⟨R2, s2⟩ := oz_mid hr hs f1 f2
  obtain ⟨σ2, y, e3, f3, R3, q3, w3⟩ := cr_archive hT R2 (a := (σ 22 0 0 (ox_w ((p : Int) + 1)).toNat))
  have c1' : 0 ≤ ox_w ((p : Int) + 1) ∧ (ox_w ((p : Int) + 1)).toNat < (τ2 22 0 1 0).toNat := s2.c (q := 1) (by omega) hL
  have a1 := hs.at s2 (ox_w ((p : Int) + 1)).toNat
  refine ⟨b - 2, σ2, ?_, oz_bb (by decide), oz_end ((sp_arch_t hT).1) (hd) (hn) C1 f2 f3 R3 s2⟩
  unfold oz_br13
  rw [if_pos c1, if_pos (show 2 ≤ b from Nat.le_trans (by decide) hb), e2, Option.bind_some]
  dsimp only
  rw [if_pos c1', a1, e3, Option.bind_some]
  dsimp only
  rw [oz_fin q3 (oz_h2 f3 v2 w3)]
  unfold J_Law_law_1029 J_Law_law_1771
  rw [w5 0]
theorem oz_c14 (hR : oy_Rx L xs N σ) (hN : N ≤ 1000) (hp : p + 5 ≤ L) (hL : L ≤ 2560) (hb : 6 ≤ b) : oz_Ok L xs N p b (oz_br14 (p : Int) b σ) := by
  obtain ⟨⟨T, A, d, n, K, hT, hd, hn, hC, hr⟩, hs⟩ := hR
  have w5 : Nat → ox_w ((p : Int) + 5) = ((p + 5 : Nat) : Int) := fun _ => by
    rw [oy_w (by omega) (by omega)]
    omega
  obtain ⟨τ, e1, f1, C1⟩ := cc_back hT hC hN
  obtain ⟨τ2, e2, f2, v2⟩ := ol_bringBack e1 ((sp_back_t hT hC.2.2.2.2.1.1).2)
  obtain ⟨R2, s2⟩ := oz_mid hr hs f1 f2
  obtain ⟨σ2, y, e3, f3, R3, q3, w3⟩ := cr_back hT R2
  refine ⟨b - 2, σ2, ?_, oz_bb (by decide), oz_end ((sp_back_t hT hC.2.2.2.2.1.1).1) (hd) (hn) C1 f2 f3 R3 s2⟩
  unfold oz_br14
  rw [if_pos (show 2 ≤ b from Nat.le_trans (by decide) hb), e2, Option.bind_some]
  dsimp only
  rw [e3, Option.bind_some]
  dsimp only
  rw [oz_fin q3 (oz_h2 f3 v2 w3)]
  unfold J_Law_law_1073 J_Law_law_1771
  rw [w5 0]
theorem oz_c15 (hR : oy_Rx L xs N σ) (hN : N ≤ 1000) (hp : p + 5 ≤ L) (hL : L ≤ 2560) (hb : 6 ≤ b) : oz_Ok L xs N p b (oz_br15 (p : Int) b σ) := by
  obtain ⟨⟨T, A, d, n, K, hT, hd, hn, hC, hr⟩, hs⟩ := hR
  have c1 : 0 ≤ ox_w ((p : Int) + 1) ∧ (ox_w ((p : Int) + 1)).toNat < (σ 22 0 1 0).toNat := hs.c (q := 1) (by omega) hL
  have w5 : Nat → ox_w ((p : Int) + 5) = ((p + 5 : Nat) : Int) := fun _ => by
    rw [oy_w (by omega) (by omega)]
    omega
  obtain ⟨τ, e1, f1, C1⟩ := cc_today hC (a := (σ 22 0 0 (ox_w ((p : Int) + 1)).toNat))
  obtain ⟨τ2, e2, f2, v2⟩ := ol_today e1 ((sp_today_t hd).2)
  obtain ⟨R2, s2⟩ := oz_mid hr hs f1 f2
  obtain ⟨σ2, y, e3, f3, R3, q3, w3⟩ := cr_today R2 (a := (σ 22 0 0 (ox_w ((p : Int) + 1)).toNat))
  have c1' : 0 ≤ ox_w ((p : Int) + 1) ∧ (ox_w ((p : Int) + 1)).toNat < (τ2 22 0 1 0).toNat := s2.c (q := 1) (by omega) hL
  have a1 := hs.at s2 (ox_w ((p : Int) + 1)).toNat
  refine ⟨b - 1, σ2, ?_, oz_bb (by decide), oz_end (hT) ((sp_today_t hd).1) (hn) C1 f2 f3 R3 s2⟩
  unfold oz_br15
  rw [if_pos c1, if_pos (show 1 ≤ b from Nat.le_trans (by decide) hb), e2, Option.bind_some]
  dsimp only
  rw [if_pos c1', a1, e3, Option.bind_some]
  dsimp only
  rw [oz_fin q3 (oz_h2 f3 v2 w3)]
  unfold J_Law_law_1129 J_Law_law_1771
  rw [w5 0]
theorem oz_c16 (hR : oy_Rx L xs N σ) (hN : N ≤ 1000) (hp : p + 5 ≤ L) (hL : L ≤ 2560) (hb : 6 ≤ b) : oz_Ok L xs N p b (oz_br16 (p : Int) b σ) := by
  obtain ⟨⟨T, A, d, n, K, hT, hd, hn, hC, hr⟩, hs⟩ := hR
  have c1 : 0 ≤ ox_w ((p : Int) + 1) ∧ (ox_w ((p : Int) + 1)).toNat < (σ 22 0 1 0).toNat := hs.c (q := 1) (by omega) hL
  have c2 : 0 ≤ ox_w ((p : Int) + 2) ∧ (ox_w ((p : Int) + 2)).toNat < (σ 22 0 1 0).toNat := hs.c (q := 2) (by omega) hL
  have c3 : 0 ≤ ox_w ((p : Int) + 3) ∧ (ox_w ((p : Int) + 3)).toNat < (σ 22 0 1 0).toNat := hs.c (q := 3) (by omega) hL
  have c4 : 0 ≤ ox_w ((p : Int) + 4) ∧ (ox_w ((p : Int) + 4)).toNat < (σ 22 0 1 0).toNat := hs.c (q := 4) (by omega) hL
  have w5 : Nat → ox_w ((p : Int) + 5) = ((p + 5 : Nat) : Int) := fun _ => by
    rw [oy_w (by omega) (by omega)]
    omega
  obtain ⟨τ, e1, f1, C1⟩ := cc_agenda hT hC (x := (σ 22 0 0 (ox_w ((p : Int) + 1)).toNat)) (w := (σ 22 0 0 (ox_w ((p : Int) + 2)).toNat)) (b := (σ 22 0 0 (ox_w ((p : Int) + 3)).toNat)) (p := (σ 22 0 0 (ox_w ((p : Int) + 4)).toNat)) (oz_lt hs.rg)
  obtain ⟨τ2, e2, f2, v2⟩ := ol_agenda e1 (sp_ag_t)
  obtain ⟨R2, s2⟩ := oz_mid hr hs f1 f2
  obtain ⟨σ2, y, e3, f3, R3, q3, w3⟩ := cr_agenda hT R2 (x := (σ 22 0 0 (ox_w ((p : Int) + 1)).toNat)) (w := (σ 22 0 0 (ox_w ((p : Int) + 2)).toNat)) (b := (σ 22 0 0 (ox_w ((p : Int) + 3)).toNat)) (p := (σ 22 0 0 (ox_w ((p : Int) + 4)).toNat)) (oz_lt hs.rg)
  have c1' : 0 ≤ ox_w ((p : Int) + 1) ∧ (ox_w ((p : Int) + 1)).toNat < (τ2 22 0 1 0).toNat := s2.c (q := 1) (by omega) hL
  have a1 := hs.at s2 (ox_w ((p : Int) + 1)).toNat
  have c2' : 0 ≤ ox_w ((p : Int) + 2) ∧ (ox_w ((p : Int) + 2)).toNat < (τ2 22 0 1 0).toNat := s2.c (q := 2) (by omega) hL
  have a2 := hs.at s2 (ox_w ((p : Int) + 2)).toNat
  have c3' : 0 ≤ ox_w ((p : Int) + 3) ∧ (ox_w ((p : Int) + 3)).toNat < (τ2 22 0 1 0).toNat := s2.c (q := 3) (by omega) hL
  have a3 := hs.at s2 (ox_w ((p : Int) + 3)).toNat
  have c4' : 0 ≤ ox_w ((p : Int) + 4) ∧ (ox_w ((p : Int) + 4)).toNat < (τ2 22 0 1 0).toNat := s2.c (q := 4) (by omega) hL
  have a4 := hs.at s2 (ox_w ((p : Int) + 4)).toNat
  refine ⟨b - 4, σ2, ?_, oz_bb (by decide), oz_end (hT) (hd) (hn) C1 f2 f3 R3 s2⟩
  unfold oz_br16
  rw [if_pos c1, if_pos c2, if_pos c3, if_pos c4, if_pos (show 4 ≤ b from Nat.le_trans (by decide) hb), e2, Option.bind_some]
  dsimp only
  rw [if_pos c1', if_pos c2', if_pos c3', if_pos c4', a1, a2, a3, a4, e3, Option.bind_some]
  dsimp only
  rw [oz_fin q3 (oz_h2 f3 v2 w3)]
  unfold J_Law_law_1221 J_Law_law_1771
  rw [w5 0]
theorem oz_c17 (hR : oy_Rx L xs N σ) (hN : N ≤ 1000) (hp : p + 5 ≤ L) (hL : L ≤ 2560) (hb : 6 ≤ b) : oz_Ok L xs N p b (oz_br17 (p : Int) b σ) := by
  obtain ⟨⟨T, A, d, n, K, hT, hd, hn, hC, hr⟩, hs⟩ := hR
  have c1 : 0 ≤ ox_w ((p : Int) + 1) ∧ (ox_w ((p : Int) + 1)).toNat < (σ 22 0 1 0).toNat := hs.c (q := 1) (by omega) hL
  have w5 : Nat → ox_w ((p : Int) + 5) = ((p + 5 : Nat) : Int) := fun _ => by
    rw [oy_w (by omega) (by omega)]
    omega
  obtain ⟨τ, e1, f1, C1⟩ := cc_pass hC hn (a := (σ 22 0 0 (ox_w ((p : Int) + 1)).toNat))
  obtain ⟨τ2, e2, f2, v2⟩ := ol_pass e1 ((sp_pass_t hn).2)
  obtain ⟨R2, s2⟩ := oz_mid hr hs f1 f2
  obtain ⟨σ2, y, e3, f3, R3, q3, w3⟩ := cr_pass R2 hn (a := (σ 22 0 0 (ox_w ((p : Int) + 1)).toNat))
  have c1' : 0 ≤ ox_w ((p : Int) + 1) ∧ (ox_w ((p : Int) + 1)).toNat < (τ2 22 0 1 0).toNat := s2.c (q := 1) (by omega) hL
  have a1 := hs.at s2 (ox_w ((p : Int) + 1)).toNat
  refine ⟨b - 1, σ2, ?_, oz_bb (by decide), oz_end (hT) (hd) ((sp_pass_t hn).1) C1 f2 f3 R3 s2⟩
  unfold oz_br17
  rw [if_pos c1, if_pos (show 1 ≤ b from Nat.le_trans (by decide) hb), e2, Option.bind_some]
  dsimp only
  rw [if_pos c1', a1, e3, Option.bind_some]
  dsimp only
  rw [oz_fin q3 (oz_h2 f3 v2 w3)]
  unfold J_Law_law_1277 J_Law_law_1771
  rw [w5 0]
theorem oz_c18 (hR : oy_Rx L xs N σ) (hN : N ≤ 1000) (hp : p + 5 ≤ L) (hL : L ≤ 2560) (hb : 6 ≤ b) : oz_Ok L xs N p b (oz_br18 (p : Int) b σ) := by
  obtain ⟨⟨T, A, d, n, K, hT, hd, hn, hC, hr⟩, hs⟩ := hR
  have c1 : 0 ≤ ox_w ((p : Int) + 1) ∧ (ox_w ((p : Int) + 1)).toNat < (σ 22 0 1 0).toNat := hs.c (q := 1) (by omega) hL
  have w5 : Nat → ox_w ((p : Int) + 5) = ((p + 5 : Nat) : Int) := fun _ => by
    rw [oy_w (by omega) (by omega)]
    omega
  obtain ⟨τ, e1, f1, C1⟩ := cc_clockIn hT hC hN hn (a := (σ 22 0 0 (ox_w ((p : Int) + 1)).toNat))
  obtain ⟨τ2, e2, f2, v2⟩ := ol_clockIn e1 ((sp_clockIn_t hT hn).2)
  obtain ⟨R2, s2⟩ := oz_mid hr hs f1 f2
  obtain ⟨σ2, y, e3, f3, R3, q3, w3⟩ := cr_clockIn hT R2 hn (a := (σ 22 0 0 (ox_w ((p : Int) + 1)).toNat))
  have c1' : 0 ≤ ox_w ((p : Int) + 1) ∧ (ox_w ((p : Int) + 1)).toNat < (τ2 22 0 1 0).toNat := s2.c (q := 1) (by omega) hL
  have a1 := hs.at s2 (ox_w ((p : Int) + 1)).toNat
  refine ⟨b - 2, σ2, ?_, oz_bb (by decide), oz_end ((sp_clockIn_t hT hn).1) (hd) (hn) C1 f2 f3 R3 s2⟩
  unfold oz_br18
  rw [if_pos c1, if_pos (show 2 ≤ b from Nat.le_trans (by decide) hb), e2, Option.bind_some]
  dsimp only
  rw [if_pos c1', a1, e3, Option.bind_some]
  dsimp only
  rw [oz_fin q3 (oz_h2 f3 v2 w3)]
  unfold J_Law_law_1333 J_Law_law_1771
  rw [w5 0]
theorem oz_c19 (hR : oy_Rx L xs N σ) (hN : N ≤ 1000) (hp : p + 5 ≤ L) (hL : L ≤ 2560) (hb : 6 ≤ b) : oz_Ok L xs N p b (oz_br19 (p : Int) b σ) := by
  obtain ⟨⟨T, A, d, n, K, hT, hd, hn, hC, hr⟩, hs⟩ := hR
  have c1 : 0 ≤ ox_w ((p : Int) + 1) ∧ (ox_w ((p : Int) + 1)).toNat < (σ 22 0 1 0).toNat := hs.c (q := 1) (by omega) hL
  have w5 : Nat → ox_w ((p : Int) + 5) = ((p + 5 : Nat) : Int) := fun _ => by
    rw [oy_w (by omega) (by omega)]
    omega
  obtain ⟨τ, e1, f1, C1⟩ := cc_clockOut hT hC hN hn (a := (σ 22 0 0 (ox_w ((p : Int) + 1)).toNat))
  obtain ⟨τ2, e2, f2, v2⟩ := ol_clockOut e1 ((sp_clockOut_t hT hn).2)
  obtain ⟨R2, s2⟩ := oz_mid hr hs f1 f2
  obtain ⟨σ2, y, e3, f3, R3, q3, w3⟩ := cr_clockOut hT R2 hn (a := (σ 22 0 0 (ox_w ((p : Int) + 1)).toNat))
  have c1' : 0 ≤ ox_w ((p : Int) + 1) ∧ (ox_w ((p : Int) + 1)).toNat < (τ2 22 0 1 0).toNat := s2.c (q := 1) (by omega) hL
  have a1 := hs.at s2 (ox_w ((p : Int) + 1)).toNat
  refine ⟨b - 1, σ2, ?_, oz_bb (by decide), oz_end ((sp_clockOut_t hT hn).1) (hd) (hn) C1 f2 f3 R3 s2⟩
  unfold oz_br19
  rw [if_pos c1, if_pos (show 1 ≤ b from Nat.le_trans (by decide) hb), e2, Option.bind_some]
  dsimp only
  rw [if_pos c1', a1, e3, Option.bind_some]
  dsimp only
  rw [oz_fin q3 (oz_h2 f3 v2 w3)]
  unfold J_Law_law_1389 J_Law_law_1771
  rw [w5 0]
theorem oz_c20 (hR : oy_Rx L xs N σ) (hN : N ≤ 1000) (hp : p + 5 ≤ L) (hL : L ≤ 2560) (hb : 6 ≤ b) : oz_Ok L xs N p b (oz_br20 (p : Int) b σ) := by
  obtain ⟨⟨T, A, d, n, K, hT, hd, hn, hC, hr⟩, hs⟩ := hR
  have c1 : 0 ≤ ox_w ((p : Int) + 1) ∧ (ox_w ((p : Int) + 1)).toNat < (σ 22 0 1 0).toNat := hs.c (q := 1) (by omega) hL
  have w5 : Nat → ox_w ((p : Int) + 5) = ((p + 5 : Nat) : Int) := fun _ => by
    rw [oy_w (by omega) (by omega)]
    omega
  obtain ⟨τ, e1, f1, C1⟩ := cc_clocked hT hC (a := (σ 22 0 0 (ox_w ((p : Int) + 1)).toNat))
  obtain ⟨τ2, e2, f2, v2⟩ := ol_clocked e1 (oz_e1)
  obtain ⟨R2, s2⟩ := oz_mid hr hs f1 f2
  obtain ⟨σ2, y, e3, f3, R3, q3, w3⟩ := cr_clocked hT R2 (a := (σ 22 0 0 (ox_w ((p : Int) + 1)).toNat))
  have c1' : 0 ≤ ox_w ((p : Int) + 1) ∧ (ox_w ((p : Int) + 1)).toNat < (τ2 22 0 1 0).toNat := s2.c (q := 1) (by omega) hL
  have a1 := hs.at s2 (ox_w ((p : Int) + 1)).toNat
  refine ⟨b - 1, σ2, ?_, oz_bb (by decide), oz_end (hT) (hd) (hn) C1 f2 f3 R3 s2⟩
  unfold oz_br20
  rw [if_pos c1, if_pos (show 1 ≤ b from Nat.le_trans (by decide) hb), e2, Option.bind_some]
  dsimp only
  rw [if_pos c1', a1, e3, Option.bind_some]
  dsimp only
  rw [oz_fin q3 (oz_h2 f3 v2 w3)]
  unfold J_Law_law_1445 J_Law_law_1771
  rw [w5 0]
theorem oz_c21 (hR : oy_Rx L xs N σ) (hN : N ≤ 1000) (hp : p + 5 ≤ L) (hL : L ≤ 2560) (hb : 6 ≤ b) : oz_Ok L xs N p b (oz_br21 (p : Int) b σ) := by
  obtain ⟨⟨T, A, d, n, K, hT, hd, hn, hC, hr⟩, hs⟩ := hR
  have c1 : 0 ≤ ox_w ((p : Int) + 1) ∧ (ox_w ((p : Int) + 1)).toNat < (σ 22 0 1 0).toNat := hs.c (q := 1) (by omega) hL
  have c2 : 0 ≤ ox_w ((p : Int) + 2) ∧ (ox_w ((p : Int) + 2)).toNat < (σ 22 0 1 0).toNat := hs.c (q := 2) (by omega) hL
  have c3 : 0 ≤ ox_w ((p : Int) + 3) ∧ (ox_w ((p : Int) + 3)).toNat < (σ 22 0 1 0).toNat := hs.c (q := 3) (by omega) hL
  have c4 : 0 ≤ ox_w ((p : Int) + 4) ∧ (ox_w ((p : Int) + 4)).toNat < (σ 22 0 1 0).toNat := hs.c (q := 4) (by omega) hL
  have w5 : Nat → ox_w ((p : Int) + 5) = ((p + 5 : Nat) : Int) := fun _ => by
    rw [oy_w (by omega) (by omega)]
    omega
  obtain ⟨f, hfi⟩ := oz_fin_ex hT hC
  obtain ⟨τ, e1, f1, C1⟩ := cc_cell hT hC hfi (a := (σ 22 0 0 (ox_w ((p : Int) + 1)).toNat)) (b := (σ 22 0 0 (ox_w ((p : Int) + 2)).toNat)) (r := (σ 22 0 0 (ox_w ((p : Int) + 3)).toNat)) (c := (σ 22 0 0 (ox_w ((p : Int) + 4)).toNat)) hs.rg
  obtain ⟨τ2, e2, f2, v2⟩ := ol_cell e1 (sp_cell2_t)
  obtain ⟨R2, s2⟩ := oz_mid hr hs f1 f2
  obtain ⟨σ2, y, e3, f3, R3, q3, w3⟩ := cr_cell hT R2 hN hfi (a := (σ 22 0 0 (ox_w ((p : Int) + 1)).toNat)) (b := (σ 22 0 0 (ox_w ((p : Int) + 2)).toNat)) (r := (σ 22 0 0 (ox_w ((p : Int) + 3)).toNat)) (c := (σ 22 0 0 (ox_w ((p : Int) + 4)).toNat)) hs.rg.2
  have c1' : 0 ≤ ox_w ((p : Int) + 1) ∧ (ox_w ((p : Int) + 1)).toNat < (τ2 22 0 1 0).toNat := s2.c (q := 1) (by omega) hL
  have a1 := hs.at s2 (ox_w ((p : Int) + 1)).toNat
  have c2' : 0 ≤ ox_w ((p : Int) + 2) ∧ (ox_w ((p : Int) + 2)).toNat < (τ2 22 0 1 0).toNat := s2.c (q := 2) (by omega) hL
  have a2 := hs.at s2 (ox_w ((p : Int) + 2)).toNat
  have c3' : 0 ≤ ox_w ((p : Int) + 3) ∧ (ox_w ((p : Int) + 3)).toNat < (τ2 22 0 1 0).toNat := s2.c (q := 3) (by omega) hL
  have a3 := hs.at s2 (ox_w ((p : Int) + 3)).toNat
  have c4' : 0 ≤ ox_w ((p : Int) + 4) ∧ (ox_w ((p : Int) + 4)).toNat < (τ2 22 0 1 0).toNat := s2.c (q := 4) (by omega) hL
  have a4 := hs.at s2 (ox_w ((p : Int) + 4)).toNat
  refine ⟨b - 2, σ2, ?_, oz_bb (by decide), oz_end (hT) (hd) (hn) C1 f2 f3 R3 s2⟩
  unfold oz_br21
  rw [if_pos c1, if_pos c2, if_pos c3, if_pos c4, if_pos (show 2 ≤ b from Nat.le_trans (by decide) hb), e2, Option.bind_some]
  dsimp only
  rw [if_pos c1', if_pos c2', if_pos c3', if_pos c4', a1, a2, a3, a4, e3, Option.bind_some]
  dsimp only
  rw [oz_fin q3 (oz_h2 f3 v2 w3)]
  unfold J_Law_law_1537 J_Law_law_1771
  rw [w5 0]
theorem oz_c22 (hR : oy_Rx L xs N σ) (hN : N ≤ 1000) (hp : p + 5 ≤ L) (hL : L ≤ 2560) (hb : 6 ≤ b) : oz_Ok L xs N p b (oz_br22 (p : Int) b σ) := by
  obtain ⟨⟨T, A, d, n, K, hT, hd, hn, hC, hr⟩, hs⟩ := hR
  have c1 : 0 ≤ ox_w ((p : Int) + 1) ∧ (ox_w ((p : Int) + 1)).toNat < (σ 22 0 1 0).toNat := hs.c (q := 1) (by omega) hL
  have w5 : Nat → ox_w ((p : Int) + 5) = ((p + 5 : Nat) : Int) := fun _ => by
    rw [oy_w (by omega) (by omega)]
    omega
  obtain ⟨f, hfi⟩ := oz_fin_ex hT hC
  obtain ⟨τ, e1, f1, C1⟩ := cc_run hT hC hfi (a := (σ 22 0 0 (ox_w ((p : Int) + 1)).toNat))
  obtain ⟨τ2, e2, f2, v2⟩ := ol_run e1 (sp_run_t)
  obtain ⟨R2, s2⟩ := oz_mid hr hs f1 f2
  obtain ⟨σ2, y, e3, f3, R3, q3, w3⟩ := cr_run hT R2 hN hfi hC.2.2.2.2.2.1.1.1 (a := (σ 22 0 0 (ox_w ((p : Int) + 1)).toNat))
  have c1' : 0 ≤ ox_w ((p : Int) + 1) ∧ (ox_w ((p : Int) + 1)).toNat < (τ2 22 0 1 0).toNat := s2.c (q := 1) (by omega) hL
  have a1 := hs.at s2 (ox_w ((p : Int) + 1)).toNat
  refine ⟨b - 1, σ2, ?_, oz_bb (by decide), oz_end (hT) (hd) (hn) C1 f2 f3 R3 s2⟩
  unfold oz_br22
  rw [if_pos c1, if_pos (show 1 ≤ b from Nat.le_trans (by decide) hb), e2, Option.bind_some]
  dsimp only
  rw [if_pos c1', a1, e3, Option.bind_some]
  dsimp only
  rw [oz_fin q3 (oz_h2 f3 v2 w3)]
  unfold J_Law_law_1593 J_Law_law_1771
  rw [w5 0]
theorem oz_c24 (hR : oy_Rx L xs N σ) (hN : N ≤ 1000) (hp : p + 5 ≤ L) (hL : L ≤ 2560) (hb : 6 ≤ b) : oz_Ok L xs N p b (oz_br24 (p : Int) b σ) := by
  obtain ⟨⟨T, A, d, n, K, hT, hd, hn, hC, hr⟩, hs⟩ := hR
  have c1 : 0 ≤ ox_w ((p : Int) + 1) ∧ (ox_w ((p : Int) + 1)).toNat < (σ 22 0 1 0).toNat := hs.c (q := 1) (by omega) hL
  have c2 : 0 ≤ ox_w ((p : Int) + 2) ∧ (ox_w ((p : Int) + 2)).toNat < (σ 22 0 1 0).toNat := hs.c (q := 2) (by omega) hL
  have w5 : Nat → ox_w ((p : Int) + 5) = ((p + 5 : Nat) : Int) := fun _ => by
    rw [oy_w (by omega) (by omega)]
    omega
  obtain ⟨τ, e1, f1, C1⟩ := cc_link hT hC (a := (σ 22 0 0 (ox_w ((p : Int) + 1)).toNat)) (p := (σ 22 0 0 (ox_w ((p : Int) + 2)).toNat)) (oz_lt hs.rg)
  obtain ⟨τ2, e2, f2, v2⟩ := ol_link e1 (sp_link_t)
  obtain ⟨R2, s2⟩ := oz_mid hr hs f1 f2
  obtain ⟨σ2, y, e3, f3, R3, q3, w3⟩ := cr_link hT R2 (a := (σ 22 0 0 (ox_w ((p : Int) + 1)).toNat)) (p := (σ 22 0 0 (ox_w ((p : Int) + 2)).toNat)) (oz_lt hs.rg)
  have c1' : 0 ≤ ox_w ((p : Int) + 1) ∧ (ox_w ((p : Int) + 1)).toNat < (τ2 22 0 1 0).toNat := s2.c (q := 1) (by omega) hL
  have a1 := hs.at s2 (ox_w ((p : Int) + 1)).toNat
  have c2' : 0 ≤ ox_w ((p : Int) + 2) ∧ (ox_w ((p : Int) + 2)).toNat < (τ2 22 0 1 0).toNat := s2.c (q := 2) (by omega) hL
  have a2 := hs.at s2 (ox_w ((p : Int) + 2)).toNat
  refine ⟨b - 2, σ2, ?_, oz_bb (by decide), oz_end (hT) (hd) (hn) C1 f2 f3 R3 s2⟩
  unfold oz_br24
  rw [if_pos c1, if_pos c2, if_pos (show 2 ≤ b from Nat.le_trans (by decide) hb), e2, Option.bind_some]
  dsimp only
  rw [if_pos c1', if_pos c2', a1, a2, e3, Option.bind_some]
  dsimp only
  rw [oz_fin q3 (oz_h2 f3 v2 w3)]
  unfold J_Law_law_1674 J_Law_law_1771
  rw [w5 0]
theorem oz_c27 (hR : oy_Rx L xs N σ) (hN : N ≤ 1000) (hp : p + 5 ≤ L) (hL : L ≤ 2560) (hb : 6 ≤ b) : oz_Ok L xs N p b (oz_br27 (p : Int) b σ) := by
  obtain ⟨⟨T, A, d, n, K, hT, hd, hn, hC, hr⟩, hs⟩ := hR
  have c1 : 0 ≤ ox_w ((p : Int) + 1) ∧ (ox_w ((p : Int) + 1)).toNat < (σ 22 0 1 0).toNat := hs.c (q := 1) (by omega) hL
  have c2 : 0 ≤ ox_w ((p : Int) + 2) ∧ (ox_w ((p : Int) + 2)).toNat < (σ 22 0 1 0).toNat := hs.c (q := 2) (by omega) hL
  have w5 : Nat → ox_w ((p : Int) + 5) = ((p + 5 : Nat) : Int) := fun _ => by
    rw [oy_w (by omega) (by omega)]
    omega
  obtain ⟨f, hfi⟩ := oz_fin_ex hT hC
  obtain ⟨τ, e1, f1, C1⟩ := cc_exportedAt hT hC hfi (a := (σ 22 0 0 (ox_w ((p : Int) + 1)).toNat)) (p := (σ 22 0 0 (ox_w ((p : Int) + 2)).toNat))
  obtain ⟨τ2, e2, f2, v2⟩ := ol_exportedAt e1 (sp_xat_t)
  obtain ⟨R2, s2⟩ := oz_mid hr hs f1 f2
  obtain ⟨σ2, y, e3, f3, R3, q3, w3⟩ := cr_exportedAt hT R2 hN hfi (a := (σ 22 0 0 (ox_w ((p : Int) + 1)).toNat)) (p := (σ 22 0 0 (ox_w ((p : Int) + 2)).toNat))
  have c1' : 0 ≤ ox_w ((p : Int) + 1) ∧ (ox_w ((p : Int) + 1)).toNat < (τ2 22 0 1 0).toNat := s2.c (q := 1) (by omega) hL
  have a1 := hs.at s2 (ox_w ((p : Int) + 1)).toNat
  have c2' : 0 ≤ ox_w ((p : Int) + 2) ∧ (ox_w ((p : Int) + 2)).toNat < (τ2 22 0 1 0).toNat := s2.c (q := 2) (by omega) hL
  have a2 := hs.at s2 (ox_w ((p : Int) + 2)).toNat
  refine ⟨b - 2, σ2, ?_, oz_bb (by decide), oz_end (hT) (hd) (hn) C1 f2 f3 R3 s2⟩
  unfold oz_br27
  rw [if_pos c1, if_pos c2, if_pos (show 2 ≤ b from Nat.le_trans (by decide) hb), e2, Option.bind_some]
  dsimp only
  rw [if_pos c1', if_pos c2', a1, a2, e3, Option.bind_some]
  dsimp only
  rw [oz_fin q3 (oz_h2 f3 v2 w3)]
  unfold J_Law_law_1768 J_Law_law_1771
  rw [w5 0]
theorem oz_c3 (hR : oy_Rx L xs N σ) (hN : N ≤ 1000) (hp : p + 5 ≤ L) (hL : L ≤ 2560) (hb : 6 ≤ b) : oz_Ok L xs N p b (oz_br3 (p : Int) b σ) := by
  obtain ⟨⟨T, A, d, n, K, hT, hd, hn, hC, hr⟩, hs⟩ := hR
  have w5 : Nat → ox_w ((p : Int) + 5) = ((p + 5 : Nat) : Int) := fun _ => by
    rw [oy_w (by omega) (by omega)]
    omega
  have e1 := oc_lines hC.1.1
  have C1 := hC.same
  have f1 : oy_fs oy_lt σ σ := oy_fs.rf
  obtain ⟨R2, s2⟩ := oz_mid hr hs f1 oy_fs.rf
  obtain ⟨σ2, y, e3, f3, R3, q3, w3⟩ := cr_lines R2
  have hy := w3 _ rfl
  refine ⟨b - 0, σ2, ?_, oz_bb (by decide), oz_end (hT) hd hn C1 oy_fs.rf f3 R3 s2⟩
  unfold oz_br3
  rw [e1, Option.bind_some]
  rw [e3, Option.bind_some]
  dsimp only
  rw [if_pos hy.symm]
  unfold J_Law_law_1771
  rw [w5 0]
  rfl
theorem oz_c6 (hR : oy_Rx L xs N σ) (hN : N ≤ 1000) (hp : p + 5 ≤ L) (hL : L ≤ 2560) (hb : 6 ≤ b) : oz_Ok L xs N p b (oz_br6 (p : Int) b σ) := by
  obtain ⟨⟨T, A, d, n, K, hT, hd, hn, hC, hr⟩, hs⟩ := hR
  have w5 : Nat → ox_w ((p : Int) + 5) = ((p + 5 : Nat) : Int) := fun _ => by
    rw [oy_w (by omega) (by omega)]
    omega
  obtain ⟨τ, e1, f1, C1⟩ := cc_entries hT hC
  obtain ⟨R2, s2⟩ := oz_mid hr hs f1 oy_fs.rf
  obtain ⟨σ2, y, e3, f3, R3, q3, w3⟩ := cr_entries hT R2
  have hy := w3 _ rfl
  refine ⟨b - 0, σ2, ?_, oz_bb (by decide), oz_end (hT) hd hn C1 oy_fs.rf f3 R3 s2⟩
  unfold oz_br6
  rw [e1, Option.bind_some]
  dsimp only
  rw [e3, Option.bind_some]
  dsimp only
  rw [if_pos hy.symm]
  unfold J_Law_law_1771
  rw [w5 0]
  rfl
theorem oz_c23 (hR : oy_Rx L xs N σ) (hN : N ≤ 1000) (hp : p + 5 ≤ L) (hL : L ≤ 2560) (hb : 6 ≤ b) : oz_Ok L xs N p b (oz_br23 (p : Int) b σ) := by
  obtain ⟨⟨T, A, d, n, K, hT, hd, hn, hC, hr⟩, hs⟩ := hR
  have w5 : Nat → ox_w ((p : Int) + 5) = ((p + 5 : Nat) : Int) := fun _ => by
    rw [oy_w (by omega) (by omega)]
    omega
  have e1 := oc_runs hC.2.2.2.2.2.1
  have C1 := hC.same
  have f1 : oy_fs oy_lt σ σ := oy_fs.rf
  obtain ⟨R2, s2⟩ := oz_mid hr hs f1 oy_fs.rf
  obtain ⟨σ2, y, e3, f3, R3, q3, w3⟩ := cr_runs R2
  have hy := w3 _ rfl
  refine ⟨b - 0, σ2, ?_, oz_bb (by decide), oz_end (hT) hd hn C1 oy_fs.rf f3 R3 s2⟩
  unfold oz_br23
  rw [e1, Option.bind_some]
  rw [e3, Option.bind_some]
  dsimp only
  rw [if_pos hy.symm]
  unfold J_Law_law_1771
  rw [w5 0]
  rfl
theorem oz_c25 (hR : oy_Rx L xs N σ) (hN : N ≤ 1000) (hp : p + 5 ≤ L) (hL : L ≤ 2560) (hb : 6 ≤ b) : oz_Ok L xs N p b (oz_br25 (p : Int) b σ) := by
  obtain ⟨⟨T, A, d, n, K, hT, hd, hn, hC, hr⟩, hs⟩ := hR
  have w5 : Nat → ox_w ((p : Int) + 5) = ((p + 5 : Nat) : Int) := fun _ => by
    rw [oy_w (by omega) (by omega)]
    omega
  obtain ⟨⟨τ, e1, f1, C1⟩, ok⟩ := cc_renum hT hC hN
  obtain ⟨R2, s2⟩ := oz_mid hr hs f1 oy_fs.rf
  obtain ⟨σ2, y, e3, f3, R3, q3, w3⟩ := cr_renum hT R2
  have hy := w3 _ rfl
  refine ⟨b - 1, σ2, ?_, oz_bb (by decide), oz_end (ok) hd hn C1 oy_fs.rf f3 R3 s2⟩
  unfold oz_br25
  rw [if_pos (show 1 ≤ b from Nat.le_trans (by decide) hb), e1, Option.bind_some]
  dsimp only
  rw [e3, Option.bind_some]
  dsimp only
  rw [if_pos hy.symm]
  unfold J_Law_law_1771
  rw [w5 0]
theorem oz_c26 (hR : oy_Rx L xs N σ) (hN : N ≤ 1000) (hp : p + 5 ≤ L) (hL : L ≤ 2560) (hb : 6 ≤ b) : oz_Ok L xs N p b (oz_br26 (p : Int) b σ) := by
  obtain ⟨⟨T, A, d, n, K, hT, hd, hn, hC, hr⟩, hs⟩ := hR
  have w5 : Nat → ox_w ((p : Int) + 5) = ((p + 5 : Nat) : Int) := fun _ => by
    rw [oy_w (by omega) (by omega)]
    omega
  obtain ⟨f, hfi⟩ := oz_fin_ex hT hC
  obtain ⟨τ, e1, f1, C1⟩ := cc_exported hT hC hfi
  obtain ⟨R2, s2⟩ := oz_mid hr hs f1 oy_fs.rf
  obtain ⟨σ2, y, e3, f3, R3, q3, w3⟩ := cr_exported hT R2 hN hfi
  have hy := w3 _ rfl
  refine ⟨b - 0, σ2, ?_, oz_bb (by decide), oz_end (hT) hd hn C1 oy_fs.rf f3 R3 s2⟩
  unfold oz_br26
  rw [e1, Option.bind_some]
  dsimp only
  rw [e3, Option.bind_some]
  dsimp only
  rw [if_pos hy.symm]
  unfold J_Law_law_1771
  rw [w5 0]
  rfl
end OYO5
