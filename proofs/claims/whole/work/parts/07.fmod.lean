/-! ===== functions over whole numbers, by program out of the bytecode ===== -/
def F_Mod_thrown  (σ : ox_H) : Option (Int) := some (σ 10 0 46 0)
theorem L_Mod_thrown  (σ : ox_H) (n tl : Nat) : ox_R (fun r => some ((fun r : Int => ((.inl (some (.inl r)), σ) : ox_O)) r)) (F_Mod_thrown σ) (ox_zz ox_ms (n + 1) 42 tl [.inr (.inr (10, 0, 0))] σ) := by
  unfold F_Mod_thrown
  refine ox_R_of (Y := ox_ev m_Mod_thrown (ox_zz ox_ms (n + 0)) 0 0 tl [.inr (.inr (10, 0, 0))] [] σ) rfl ?_
  refine ox_R_to 3 (Y := some (.inl (some (.inl (σ 10 0 46 0))), σ)) rfl ?_
  exact ox_R_ret rfl
def J_Mod_holds_14  (s0 : Int) (σ : ox_H) : Option (Int × ox_H) := some (s0 % 2, σ)
theorem L_Mod_holds_14  (s0 : Int) (σ : ox_H) (n tl : Nat) : ox_R (fun r => some ((fun r : Int × ox_H => ((.inl (some (.inl r.1)), r.2) : ox_O)) r)) (J_Mod_holds_14 s0 σ) (ox_ev m_Mod_holds (ox_zz ox_ms (n + 0)) 14 0 tl [ox_d, ox_d] [.inl (s0)] σ) := by
  unfold J_Mod_holds_14
  refine ox_R_to 1 (Y := some (.inl (some (.inl (s0 % 2))), σ)) rfl ?_
  exact ox_R_ret rfl
def F_Mod_holds  (a1 : Int) (σ : ox_H) : Option (Int × ox_H) := if a1 ≤ 0 then (J_Mod_holds_14 0 (ox_up σ 10 0 46 0 a1)) else (J_Mod_holds_14 1 (ox_up σ 10 0 46 0 a1))
theorem L_Mod_holds  (a1 : Int) (σ : ox_H) (n tl : Nat) : ox_R (fun r => some ((fun r : Int × ox_H => ((.inl (some (.inl r.1)), r.2) : ox_O)) r)) (F_Mod_holds a1 σ) (ox_zz ox_ms (n + 1) 43 tl [.inr (.inr (10, 0, 0)), .inl (a1)] σ) := by
  unfold F_Mod_holds
  refine ox_R_of (Y := ox_ev m_Mod_holds (ox_zz ox_ms (n + 0)) 0 0 tl [.inr (.inr (10, 0, 0)), .inl (a1)] [] σ) rfl ?_
  refine ox_R_to 5 (Y := if a1 ≤ 0 then ox_ev m_Mod_holds (ox_zz ox_ms (n + 0)) 13 0 tl [.inr (.inr (10, 0, 0)), .inl (a1)] [] (ox_up σ 10 0 46 0 a1) else ox_ev m_Mod_holds (ox_zz ox_ms (n + 0)) 9 0 tl [.inr (.inr (10, 0, 0)), .inl (a1)] [] (ox_up σ 10 0 46 0 a1)) rfl ?_
  refine ox_R_if (fun _ => ?_) (fun _ => ?_)
  · refine ox_R_to 1 (Y := ox_ev m_Mod_holds (ox_zz ox_ms (n + 0)) 14 0 tl [ox_d, ox_d] [.inl (0)] (ox_up σ 10 0 46 0 a1)) rfl ?_
    exact (L_Mod_holds_14 0 (ox_up σ 10 0 46 0 a1) n tl)
  · refine ox_R_to 2 (Y := ox_ev m_Mod_holds (ox_zz ox_ms (n + 0)) 14 0 tl [ox_d, ox_d] [.inl (1)] (ox_up σ 10 0 46 0 a1)) rfl ?_
    exact (L_Mod_holds_14 1 (ox_up σ 10 0 46 0 a1) n tl)
def J_Mod_in_15  (s0 : Int) (σ : ox_H) : Option Int := some (s0 % 2)
theorem L_Mod_in_15  (s0 : Int) (σ : ox_H) (n tl : Nat) : ox_R (fun r => some ((fun r : Int => ((.inl (some (.inl r)), σ) : ox_O)) r)) (J_Mod_in_15 s0 σ) (ox_ev m_Mod_in (ox_zz ox_ms (n + 0)) 15 0 tl [ox_d, ox_d, ox_d, ox_d] [.inl (s0)] σ) := by
  unfold J_Mod_in_15
  refine ox_R_to 1 (Y := some (.inl (some (.inl (s0 % 2))), σ)) rfl ?_
  exact ox_R_ret rfl
def J_Mod_in_14  (σ : ox_H) : Option Int := (J_Mod_in_15 0 σ)
theorem L_Mod_in_14  (σ : ox_H) (n tl : Nat) : ox_R (fun r => some ((fun r : Int => ((.inl (some (.inl r)), σ) : ox_O)) r)) (J_Mod_in_14 σ) (ox_ev m_Mod_in (ox_zz ox_ms (n + 0)) 14 0 tl [ox_d, ox_d, ox_d, ox_d] [] σ) := by
  unfold J_Mod_in_14
  refine ox_R_to 1 (Y := ox_ev m_Mod_in (ox_zz ox_ms (n + 0)) 15 0 tl [ox_d, ox_d, ox_d, ox_d] [.inl (0)] σ) rfl ?_
  exact (L_Mod_in_15 0 σ n tl)
def F_Mod_in  (a1 : Int) (a2 : Int) (a3 : Int) (σ : ox_H) : Option (Int) := if a1 < a2 then (J_Mod_in_14 σ) else (if a3 < a1 then (J_Mod_in_14 σ) else (J_Mod_in_15 1 σ))
theorem L_Mod_in  (a1 : Int) (a2 : Int) (a3 : Int) (σ : ox_H) (n tl : Nat) : ox_R (fun r => some ((fun r : Int => ((.inl (some (.inl r)), σ) : ox_O)) r)) (F_Mod_in a1 a2 a3 σ) (ox_zz ox_ms (n + 1) 44 tl [.inr (.inr (10, 0, 0)), .inl (a1), .inl (a2), .inl (a3)] σ) := by
  unfold F_Mod_in
  refine ox_R_of (Y := ox_ev m_Mod_in (ox_zz ox_ms (n + 0)) 0 0 tl [.inr (.inr (10, 0, 0)), .inl (a1), .inl (a2), .inl (a3)] [] σ) rfl ?_
  refine ox_R_to 3 (Y := if a1 < a2 then ox_ev m_Mod_in (ox_zz ox_ms (n + 0)) 14 0 tl [ox_d, ox_d, ox_d, ox_d] [] σ else ox_ev m_Mod_in (ox_zz ox_ms (n + 0)) 5 0 tl [.inr (.inr (10, 0, 0)), .inl (a1), .inl (a2), .inl (a3)] [] σ) rfl ?_
  refine ox_R_if (fun _ => ?_) (fun _ => ?_)
  · exact (L_Mod_in_14 σ n tl)
  · refine ox_R_to 3 (Y := if a3 < a1 then ox_ev m_Mod_in (ox_zz ox_ms (n + 0)) 14 0 tl [ox_d, ox_d, ox_d, ox_d] [] σ else ox_ev m_Mod_in (ox_zz ox_ms (n + 0)) 10 0 tl [.inr (.inr (10, 0, 0)), .inl (a1), .inl (a2), .inl (a3)] [] σ) rfl ?_
    refine ox_R_if (fun _ => ?_) (fun _ => ?_)
    · exact (L_Mod_in_14 σ n tl)
    · refine ox_R_to 2 (Y := ox_ev m_Mod_in (ox_zz ox_ms (n + 0)) 15 0 tl [ox_d, ox_d, ox_d, ox_d] [.inl (1)] σ) rfl ?_
      exact (L_Mod_in_15 1 σ n tl)
def F_Mod_isLine  (a1 : Int) (σ : ox_H) : Option (Int) := (F_Mod_in a1 0 (ox_w ((σ 10 0 2 0) - 1)) σ).bind fun r1 => (some (r1 % 2))
theorem L_Mod_isLine  (a1 : Int) (σ : ox_H) (n tl : Nat) : ox_R (fun r => some ((fun r : Int => ((.inl (some (.inl r)), σ) : ox_O)) r)) (F_Mod_isLine a1 σ) (ox_zz ox_ms (n + 2) 45 tl [.inr (.inr (10, 0, 0)), .inl (a1)] σ) := by
  unfold F_Mod_isLine
  refine ox_R_of (Y := ox_ev m_Mod_isLine (ox_zz ox_ms (n + 1)) 0 0 tl [.inr (.inr (10, 0, 0)), .inl (a1)] [] σ) rfl ?_
  refine ox_R_to 8 (Y := ox_back m_Mod_isLine 9 1 [] ((ox_zz ox_ms (n + 1)) 44 tl [.inr (.inr (10, 0, 0)), .inl (a1), .inl (0), .inl (ox_w ((σ 10 0 2 0) - 1))] σ) (fun pc9 x9 st9 σ9 => ox_ev m_Mod_isLine (ox_zz ox_ms (n + 1)) pc9 0 tl (ox_kl (m_Mod_isLine.2.2.1 pc9) (ox_xl x9 [.inr (.inr (10, 0, 0)), .inl (a1)])) st9 σ9)) rfl ?_
  refine ox_R_call (fc := (fun r : Int => ((.inl (some (.inl r)), σ) : ox_O))) (L_Mod_in a1 0 (ox_w ((σ 10 0 2 0) - 1)) σ (n + 0) tl) (fun r1 => ?_)
  refine ox_R_of (Y := ox_ev m_Mod_isLine (ox_zz ox_ms (n + 1)) 12 0 tl [.inr (.inr (10, 0, 0)), .inl (a1)] [.inl (r1)] σ) rfl ?_
  refine ox_R_to 1 (Y := some (.inl (some (.inl (r1 % 2))), σ)) rfl ?_
  exact ox_R_ret rfl
def J_Mod_look_25  (s0 : Int) (σ : ox_H) : Option Int := some s0
theorem L_Mod_look_25  (s0 : Int) (σ : ox_H) (n tl : Nat) : ox_R (fun r => some ((fun r : Int => ((.inl (some (.inl r)), σ) : ox_O)) r)) (J_Mod_look_25 s0 σ) (ox_ev m_Mod_look (ox_zz ox_ms (n + 0)) 25 0 tl [ox_d, ox_d, ox_d] [.inl (s0)] σ) := by
  unfold J_Mod_look_25
  refine ox_R_to 1 (Y := some (.inl (some (.inl (s0))), σ)) rfl ?_
  exact ox_R_ret rfl
def F_Mod_look  (a1 : Int) (a2 : Int) (σ : ox_H) : Option (Int) := if 0 ≤ a1 ∧ a1.toNat < 60 then (if (σ 10 0 1 a1.toNat) ≤ a2 then (J_Mod_look_25 0 σ) else (if 0 ≤ (ox_w ((ox_w (24 * a1)) + a2)) ∧ (ox_w ((ox_w (24 * a1)) + a2)).toNat < 1440 then (J_Mod_look_25 (σ 10 0 0 ((ox_w ((ox_w (24 * a1)) + a2)).toNat)) σ) else none)) else none
theorem L_Mod_look  (a1 : Int) (a2 : Int) (σ : ox_H) (n tl : Nat) : ox_R (fun r => some ((fun r : Int => ((.inl (some (.inl r)), σ) : ox_O)) r)) (F_Mod_look a1 a2 σ) (ox_zz ox_ms (n + 1) 46 tl [.inr (.inr (10, 0, 0)), .inl (a1), .inl (a2)] σ) := by
  unfold F_Mod_look
  refine ox_R_of (Y := ox_ev m_Mod_look (ox_zz ox_ms (n + 0)) 0 0 tl [.inr (.inr (10, 0, 0)), .inl (a1), .inl (a2)] [] σ) rfl ?_
  refine ox_R_to 5 (Y := if 0 ≤ a1 ∧ a1.toNat < 60 then ox_ev m_Mod_look (ox_zz ox_ms (n + 0)) 7 0 tl [.inr (.inr (10, 0, 0)), .inl (a1), .inl (a2)] [.inl (σ 10 0 1 a1.toNat), .inl (a2)] σ else none) rfl ?_
  refine ox_R_if (fun _ => ?_) (fun _ => ox_R_none)
  refine ox_R_to 1 (Y := if (σ 10 0 1 a1.toNat) ≤ a2 then ox_ev m_Mod_look (ox_zz ox_ms (n + 0)) 24 0 tl [.inr (.inr (10, 0, 0)), .inl (a1), .inl (a2)] [] σ else ox_ev m_Mod_look (ox_zz ox_ms (n + 0)) 10 0 tl [.inr (.inr (10, 0, 0)), .inl (a1), .inl (a2)] [] σ) rfl ?_
  refine ox_R_if (fun _ => ?_) (fun _ => ?_)
  · refine ox_R_to 1 (Y := ox_ev m_Mod_look (ox_zz ox_ms (n + 0)) 25 0 tl [ox_d, ox_d, ox_d] [.inl (0)] σ) rfl ?_
    exact (L_Mod_look_25 0 σ n tl)
  · refine ox_R_to 8 (Y := if 0 ≤ (ox_w ((ox_w (24 * a1)) + a2)) ∧ (ox_w ((ox_w (24 * a1)) + a2)).toNat < 1440 then ox_ev m_Mod_look (ox_zz ox_ms (n + 0)) 21 0 tl [.inr (.inr (10, 0, 0)), .inl (a1), .inl (a2)] [.inl (σ 10 0 0 ((ox_w ((ox_w (24 * a1)) + a2)).toNat))] σ else none) rfl ?_
    refine ox_R_if (fun _ => ?_) (fun _ => ox_R_none)
    refine ox_R_to 1 (Y := ox_ev m_Mod_look (ox_zz ox_ms (n + 0)) 25 0 tl [ox_d, ox_d, ox_d] [.inl (σ 10 0 0 ((ox_w ((ox_w (24 * a1)) + a2)).toNat))] σ) rfl ?_
    exact (L_Mod_look_25 (σ 10 0 0 ((ox_w ((ox_w (24 * a1)) + a2)).toNat)) σ n tl)
def F_Mod_isLetter  (a1 : Int) (σ : ox_H) : Option (Int) := (F_Mod_in a1 97 122 σ).bind fun r1 => (some (r1 % 2))
theorem L_Mod_isLetter  (a1 : Int) (σ : ox_H) (n tl : Nat) : ox_R (fun r => some ((fun r : Int => ((.inl (some (.inl r)), σ) : ox_O)) r)) (F_Mod_isLetter a1 σ) (ox_zz ox_ms (n + 2) 47 tl [.inr (.inr (10, 0, 0)), .inl (a1)] σ) := by
  unfold F_Mod_isLetter
  refine ox_R_of (Y := ox_ev m_Mod_isLetter (ox_zz ox_ms (n + 1)) 0 0 tl [.inr (.inr (10, 0, 0)), .inl (a1)] [] σ) rfl ?_
  refine ox_R_to 5 (Y := ox_back m_Mod_isLetter 6 1 [] ((ox_zz ox_ms (n + 1)) 44 tl [.inr (.inr (10, 0, 0)), .inl (a1), .inl (97), .inl (122)] σ) (fun pc9 x9 st9 σ9 => ox_ev m_Mod_isLetter (ox_zz ox_ms (n + 1)) pc9 0 tl (ox_kl (m_Mod_isLetter.2.2.1 pc9) (ox_xl x9 [.inr (.inr (10, 0, 0)), .inl (a1)])) st9 σ9)) rfl ?_
  refine ox_R_call (fc := (fun r : Int => ((.inl (some (.inl r)), σ) : ox_O))) (L_Mod_in a1 97 122 σ (n + 0) tl) (fun r1 => ?_)
  refine ox_R_of (Y := ox_ev m_Mod_isLetter (ox_zz ox_ms (n + 1)) 9 0 tl [.inr (.inr (10, 0, 0)), .inl (a1)] [.inl (r1)] σ) rfl ?_
  refine ox_R_to 1 (Y := some (.inl (some (.inl (r1 % 2))), σ)) rfl ?_
  exact ox_R_ret rfl
def F_Mod_isDigit  (a1 : Int) (σ : ox_H) : Option (Int) := (F_Mod_in a1 48 57 σ).bind fun r1 => (some (r1 % 2))
theorem L_Mod_isDigit  (a1 : Int) (σ : ox_H) (n tl : Nat) : ox_R (fun r => some ((fun r : Int => ((.inl (some (.inl r)), σ) : ox_O)) r)) (F_Mod_isDigit a1 σ) (ox_zz ox_ms (n + 2) 48 tl [.inr (.inr (10, 0, 0)), .inl (a1)] σ) := by
  unfold F_Mod_isDigit
  refine ox_R_of (Y := ox_ev m_Mod_isDigit (ox_zz ox_ms (n + 1)) 0 0 tl [.inr (.inr (10, 0, 0)), .inl (a1)] [] σ) rfl ?_
  refine ox_R_to 5 (Y := ox_back m_Mod_isDigit 6 1 [] ((ox_zz ox_ms (n + 1)) 44 tl [.inr (.inr (10, 0, 0)), .inl (a1), .inl (48), .inl (57)] σ) (fun pc9 x9 st9 σ9 => ox_ev m_Mod_isDigit (ox_zz ox_ms (n + 1)) pc9 0 tl (ox_kl (m_Mod_isDigit.2.2.1 pc9) (ox_xl x9 [.inr (.inr (10, 0, 0)), .inl (a1)])) st9 σ9)) rfl ?_
  refine ox_R_call (fc := (fun r : Int => ((.inl (some (.inl r)), σ) : ox_O))) (L_Mod_in a1 48 57 σ (n + 0) tl) (fun r1 => ?_)
  refine ox_R_of (Y := ox_ev m_Mod_isDigit (ox_zz ox_ms (n + 1)) 9 0 tl [.inr (.inr (10, 0, 0)), .inl (a1)] [.inl (r1)] σ) rfl ?_
  refine ox_R_to 1 (Y := some (.inl (some (.inl (r1 % 2))), σ)) rfl ?_
  exact ox_R_ret rfl
def J_Mod_number_96  (s0 : Int) (σ : ox_H) : Option (Int × ox_H) := some (s0, σ)
theorem L_Mod_number_96  (s0 : Int) (σ : ox_H) (n tl : Nat) : ox_R (fun r => some ((fun r : Int × ox_H => ((.inl (some (.inl r.1)), r.2) : ox_O)) r)) (J_Mod_number_96 s0 σ) (ox_ev m_Mod_number (ox_zz ox_ms (n + 2)) 96 0 tl [ox_d, ox_d, ox_d, ox_d] [.inl (s0)] σ) := by
  unfold J_Mod_number_96
  refine ox_R_to 1 (Y := some (.inl (some (.inl (s0))), σ)) rfl ?_
  exact ox_R_ret rfl
def J_Mod_number_83  (v2 : Int) (v3 : Int) (σ : ox_H) : Option (Int × ox_H) := if (σ 10 0 11 0) = v2 then (J_Mod_number_96 (-1) σ) else (J_Mod_number_96 v3 σ)
theorem L_Mod_number_83  (v2 : Int) (v3 : Int) (σ : ox_H) (n tl : Nat) : ox_R (fun r => some ((fun r : Int × ox_H => ((.inl (some (.inl r.1)), r.2) : ox_O)) r)) (J_Mod_number_83 v2 v3 σ) (ox_ev m_Mod_number (ox_zz ox_ms (n + 2)) 83 0 tl [.inr (.inr (10, 0, 0)), ox_d, .inl (v2), .inl (v3)] [] σ) := by
  unfold J_Mod_number_83
  refine ox_R_to 4 (Y := if (σ 10 0 11 0) = v2 then ox_ev m_Mod_number (ox_zz ox_ms (n + 2)) 91 0 tl [.inr (.inr (10, 0, 0)), ox_d, .inl (v2), .inl (v3)] [] σ else ox_ev m_Mod_number (ox_zz ox_ms (n + 2)) 95 0 tl [.inr (.inr (10, 0, 0)), ox_d, .inl (v2), .inl (v3)] [] σ) rfl ?_
  refine ox_R_if (fun _ => ?_) (fun _ => ?_)
  · refine ox_R_to 2 (Y := ox_ev m_Mod_number (ox_zz ox_ms (n + 2)) 96 0 tl [ox_d, ox_d, ox_d, ox_d] [.inl ((-1))] σ) rfl ?_
    exact (L_Mod_number_96 (-1) σ n tl)
  · refine ox_R_to 1 (Y := ox_ev m_Mod_number (ox_zz ox_ms (n + 2)) 96 0 tl [ox_d, ox_d, ox_d, ox_d] [.inl (v3)] σ) rfl ?_
    exact (L_Mod_number_96 v3 σ n tl)
def J_Mod_number_52  (v1 : Int) (v2 : Int) (v3 : Int) (σ : ox_H) : Option (((Int × ox_H) ⊕ Int × ox_H)) := (F_Mod_look v1 (σ 10 0 11 0) σ).bind fun r1 => (some (.inl (ox_w ((ox_w ((ox_w (10 * v3)) + r1)) - 48), (ox_up σ 10 0 11 0 (ox_w ((σ 10 0 11 0) + 1))))))
theorem L_Mod_number_52  (v1 : Int) (v2 : Int) (v3 : Int) (σ : ox_H) (n tl : Nat) : ox_R (Sum.elim (fun (s : Int × ox_H) => match s with | (v3, σ) => ox_ev m_Mod_number (ox_zz ox_ms (n + 2)) 7 0 tl [.inr (.inr (10, 0, 0)), .inl (v1), .inl (v2), .inl (v3)] [] σ) (fun r => some ((fun r : Int × ox_H => ((.inl (some (.inl r.1)), r.2) : ox_O)) r))) (J_Mod_number_52 v1 v2 v3 σ) (ox_ev m_Mod_number (ox_zz ox_ms (n + 2)) 52 0 tl [.inr (.inr (10, 0, 0)), .inl (v1), .inl (v2), .inl (v3)] [] σ) := by
  unfold J_Mod_number_52
  refine ox_R_to 8 (Y := ox_back m_Mod_number 62 1 [.inl (ox_w (10 * v3))] ((ox_zz ox_ms (n + 2)) 46 tl [.inr (.inr (10, 0, 0)), .inl (v1), .inl (σ 10 0 11 0)] σ) (fun pc9 x9 st9 σ9 => ox_ev m_Mod_number (ox_zz ox_ms (n + 2)) pc9 0 tl (ox_kl (m_Mod_number.2.2.1 pc9) (ox_xl x9 [.inr (.inr (10, 0, 0)), .inl (v1), .inl (v2), .inl (v3)])) st9 σ9)) rfl ?_
  refine ox_R_call (fc := (fun r : Int => ((.inl (some (.inl r)), σ) : ox_O))) (L_Mod_look v1 (σ 10 0 11 0) σ (n + 1) tl) (fun r1 => ?_)
  refine ox_R_of (Y := ox_ev m_Mod_number (ox_zz ox_ms (n + 2)) 65 0 tl [.inr (.inr (10, 0, 0)), .inl (v1), .inl (v2), .inl (v3)] [.inl (r1), .inl (ox_w (10 * v3))] σ) rfl ?_
  refine ox_R_to 11 (Y := ox_ev m_Mod_number (ox_zz ox_ms (n + 2)) 7 0 tl [.inr (.inr (10, 0, 0)), .inl (v1), .inl (v2), .inl (ox_w ((ox_w ((ox_w (10 * v3)) + r1)) - 48))] [] (ox_up σ 10 0 11 0 (ox_w ((σ 10 0 11 0) + 1)))) rfl ?_
  exact ox_R_ret rfl
def B_Mod_number_7  (v1 : Int) (v2 : Int) : (Int × ox_H) → Option (((Int × ox_H) ⊕ Int × ox_H)) := fun (v3, σ) => if (ox_w (v2 + 4)) ≤ (σ 10 0 11 0) then ((J_Mod_number_83 v2 v3 σ).map .inr) else ((F_Mod_look v1 (σ 10 0 11 0) σ).bind fun r2 => ((F_Mod_isDigit r2 σ).bind fun r3 => (if r3 = 0 then ((J_Mod_number_83 v2 v3 σ).map .inr) else (if (σ 10 0 11 0) = v2 then (J_Mod_number_52 v1 v2 v3 σ) else ((F_Mod_look v1 v2 σ).bind fun r4 => (if r4 = 48 then ((J_Mod_number_83 v2 v3 σ).map .inr) else (J_Mod_number_52 v1 v2 v3 σ)))))))
def J_Mod_number_7  (v1 : Int) (v2 : Int) (v3 : Int) (σ : ox_H) : Option (Int × ox_H) := ox_lp (B_Mod_number_7 v1 v2) ox_fu (v3, σ)
theorem L_Mod_number_7  (v1 : Int) (v2 : Int) (v3 : Int) (σ : ox_H) (n tl : Nat) : ox_R (fun r => some ((fun r : Int × ox_H => ((.inl (some (.inl r.1)), r.2) : ox_O)) r)) (J_Mod_number_7 v1 v2 v3 σ) (ox_ev m_Mod_number (ox_zz ox_ms (n + 2)) 7 0 tl [.inr (.inr (10, 0, 0)), .inl (v1), .inl (v2), .inl (v3)] [] σ) := by
  unfold J_Mod_number_7
  refine ox_R_lp (ψ := (fun (s : Int × ox_H) => match s with | (v3, σ) => ox_ev m_Mod_number (ox_zz ox_ms (n + 2)) 7 0 tl [.inr (.inr (10, 0, 0)), .inl (v1), .inl (v2), .inl (v3)] [] σ)) ?_ ox_fu (v3, σ)
  intro s
  obtain ⟨v3, σ⟩ := s
  unfold B_Mod_number_7
  refine ox_R_to 6 (Y := if (ox_w (v2 + 4)) ≤ (σ 10 0 11 0) then ox_ev m_Mod_number (ox_zz ox_ms (n + 2)) 83 0 tl [.inr (.inr (10, 0, 0)), ox_d, .inl (v2), .inl (v3)] [] σ else ox_ev m_Mod_number (ox_zz ox_ms (n + 2)) 17 0 tl [.inr (.inr (10, 0, 0)), .inl (v1), .inl (v2), .inl (v3)] [] σ) rfl ?_
  refine ox_R_if (fun _ => ?_) (fun _ => ?_)
  · exact ox_R_map ((L_Mod_number_83 v2 v3 σ n tl))
  · refine ox_R_to 6 (Y := ox_back m_Mod_number 24 1 [.inr (.inr (10, 0, 0))] ((ox_zz ox_ms (n + 2)) 46 tl [.inr (.inr (10, 0, 0)), .inl (v1), .inl (σ 10 0 11 0)] σ) (fun pc9 x9 st9 σ9 => ox_ev m_Mod_number (ox_zz ox_ms (n + 2)) pc9 0 tl (ox_kl (m_Mod_number.2.2.1 pc9) (ox_xl x9 [.inr (.inr (10, 0, 0)), .inl (v1), .inl (v2), .inl (v3)])) st9 σ9)) rfl ?_
    refine ox_R_call (fc := (fun r : Int => ((.inl (some (.inl r)), σ) : ox_O))) (L_Mod_look v1 (σ 10 0 11 0) σ (n + 1) tl) (fun r2 => ?_)
    refine ox_R_of (Y := ox_ev m_Mod_number (ox_zz ox_ms (n + 2)) 27 0 tl [.inr (.inr (10, 0, 0)), .inl (v1), .inl (v2), .inl (v3)] [.inl (r2), .inr (.inr (10, 0, 0))] σ) rfl ?_
    refine ox_R_to 1 (Y := ox_back m_Mod_number 27 1 [] ((ox_zz ox_ms (n + 2)) 48 tl [.inr (.inr (10, 0, 0)), .inl (r2)] σ) (fun pc9 x9 st9 σ9 => ox_ev m_Mod_number (ox_zz ox_ms (n + 2)) pc9 0 tl (ox_kl (m_Mod_number.2.2.1 pc9) (ox_xl x9 [.inr (.inr (10, 0, 0)), .inl (v1), .inl (v2), .inl (v3)])) st9 σ9)) rfl ?_
    refine ox_R_call (fc := (fun r : Int => ((.inl (some (.inl r)), σ) : ox_O))) (L_Mod_isDigit r2 σ (n + 0) tl) (fun r3 => ?_)
    refine ox_R_of (Y := ox_ev m_Mod_number (ox_zz ox_ms (n + 2)) 30 0 tl [.inr (.inr (10, 0, 0)), .inl (v1), .inl (v2), .inl (v3)] [.inl (r3)] σ) rfl ?_
    refine ox_R_to 1 (Y := if r3 = 0 then ox_ev m_Mod_number (ox_zz ox_ms (n + 2)) 83 0 tl [.inr (.inr (10, 0, 0)), ox_d, .inl (v2), .inl (v3)] [] σ else ox_ev m_Mod_number (ox_zz ox_ms (n + 2)) 33 0 tl [.inr (.inr (10, 0, 0)), .inl (v1), .inl (v2), .inl (v3)] [] σ) rfl ?_
    refine ox_R_if (fun _ => ?_) (fun _ => ?_)
    · exact ox_R_map ((L_Mod_number_83 v2 v3 σ n tl))
    · refine ox_R_to 4 (Y := if (σ 10 0 11 0) = v2 then ox_ev m_Mod_number (ox_zz ox_ms (n + 2)) 52 0 tl [.inr (.inr (10, 0, 0)), .inl (v1), .inl (v2), .inl (v3)] [] σ else ox_ev m_Mod_number (ox_zz ox_ms (n + 2)) 41 0 tl [.inr (.inr (10, 0, 0)), .inl (v1), .inl (v2), .inl (v3)] [] σ) rfl ?_
      refine ox_R_if (fun _ => ?_) (fun _ => ?_)
      · exact (L_Mod_number_52 v1 v2 v3 σ n tl)
      · refine ox_R_to 4 (Y := ox_back m_Mod_number 44 1 [] ((ox_zz ox_ms (n + 2)) 46 tl [.inr (.inr (10, 0, 0)), .inl (v1), .inl (v2)] σ) (fun pc9 x9 st9 σ9 => ox_ev m_Mod_number (ox_zz ox_ms (n + 2)) pc9 0 tl (ox_kl (m_Mod_number.2.2.1 pc9) (ox_xl x9 [.inr (.inr (10, 0, 0)), .inl (v1), .inl (v2), .inl (v3)])) st9 σ9)) rfl ?_
        refine ox_R_call (fc := (fun r : Int => ((.inl (some (.inl r)), σ) : ox_O))) (L_Mod_look v1 v2 σ (n + 1) tl) (fun r4 => ?_)
        refine ox_R_of (Y := ox_ev m_Mod_number (ox_zz ox_ms (n + 2)) 47 0 tl [.inr (.inr (10, 0, 0)), .inl (v1), .inl (v2), .inl (v3)] [.inl (r4)] σ) rfl ?_
        refine ox_R_to 2 (Y := if r4 = 48 then ox_ev m_Mod_number (ox_zz ox_ms (n + 2)) 83 0 tl [.inr (.inr (10, 0, 0)), ox_d, .inl (v2), .inl (v3)] [] σ else ox_ev m_Mod_number (ox_zz ox_ms (n + 2)) 52 0 tl [.inr (.inr (10, 0, 0)), .inl (v1), .inl (v2), .inl (v3)] [] σ) rfl ?_
        refine ox_R_if (fun _ => ?_) (fun _ => ?_)
        · exact ox_R_map ((L_Mod_number_83 v2 v3 σ n tl))
        · exact (L_Mod_number_52 v1 v2 v3 σ n tl)
def F_Mod_number  (a1 : Int) (σ : ox_H) : Option (Int × ox_H) := (J_Mod_number_7 a1 (σ 10 0 11 0) 0 σ)
theorem L_Mod_number  (a1 : Int) (σ : ox_H) (n tl : Nat) : ox_R (fun r => some ((fun r : Int × ox_H => ((.inl (some (.inl r.1)), r.2) : ox_O)) r)) (F_Mod_number a1 σ) (ox_zz ox_ms (n + 3) 49 tl [.inr (.inr (10, 0, 0)), .inl (a1)] σ) := by
  unfold F_Mod_number
  refine ox_R_of (Y := ox_ev m_Mod_number (ox_zz ox_ms (n + 2)) 0 0 tl [.inr (.inr (10, 0, 0)), .inl (a1), ox_d, ox_d] [] σ) rfl ?_
  refine ox_R_to 5 (Y := ox_ev m_Mod_number (ox_zz ox_ms (n + 2)) 7 0 tl [.inr (.inr (10, 0, 0)), .inl (a1), .inl (σ 10 0 11 0), .inl (0)] [] σ) rfl ?_
  exact (L_Mod_number_7 a1 (σ 10 0 11 0) 0 σ n tl)
def J_Mod_takes_33  (v3 : Int) (s0 : Int) (s1 : Int) (σ : ox_H) : Option (Int × ox_H) := some (v3 % 2, (ox_up σ 10 0 11 0 (ox_w (s1 + s0))))
theorem L_Mod_takes_33  (v3 : Int) (s0 : Int) (s1 : Int) (σ : ox_H) (n tl : Nat) : ox_R (fun r => some ((fun r : Int × ox_H => ((.inl (some (.inl r.1)), r.2) : ox_O)) r)) (J_Mod_takes_33 v3 s0 s1 σ) (ox_ev m_Mod_takes (ox_zz ox_ms (n + 1)) 33 0 tl [ox_d, ox_d, ox_d, .inl (v3)] [.inl (s0), .inl (s1), .inr (.inr (10, 0, 0))] σ) := by
  unfold J_Mod_takes_33
  refine ox_R_to 4 (Y := some (.inl (some (.inl (v3 % 2))), (ox_up σ 10 0 11 0 (ox_w (s1 + s0))))) rfl ?_
  exact ox_R_ret rfl
def J_Mod_takes_18  (s0 : Int) (σ : ox_H) : Option (Int × ox_H) := if s0 = 0 then (J_Mod_takes_33 s0 0 (σ 10 0 11 0) σ) else (J_Mod_takes_33 s0 1 (σ 10 0 11 0) σ)
theorem L_Mod_takes_18  (s0 : Int) (σ : ox_H) (n tl : Nat) : ox_R (fun r => some ((fun r : Int × ox_H => ((.inl (some (.inl r.1)), r.2) : ox_O)) r)) (J_Mod_takes_18 s0 σ) (ox_ev m_Mod_takes (ox_zz ox_ms (n + 1)) 18 0 tl [.inr (.inr (10, 0, 0)), ox_d, ox_d, ox_d] [.inl (s0)] σ) := by
  unfold J_Mod_takes_18
  refine ox_R_to 6 (Y := if s0 = 0 then ox_ev m_Mod_takes (ox_zz ox_ms (n + 1)) 32 0 tl [.inr (.inr (10, 0, 0)), ox_d, ox_d, .inl (s0)] [.inl (σ 10 0 11 0), .inr (.inr (10, 0, 0))] σ else ox_ev m_Mod_takes (ox_zz ox_ms (n + 1)) 28 0 tl [.inr (.inr (10, 0, 0)), ox_d, ox_d, .inl (s0)] [.inl (σ 10 0 11 0), .inr (.inr (10, 0, 0))] σ) rfl ?_
  refine ox_R_if (fun _ => ?_) (fun _ => ?_)
  · refine ox_R_to 1 (Y := ox_ev m_Mod_takes (ox_zz ox_ms (n + 1)) 33 0 tl [ox_d, ox_d, ox_d, .inl (s0)] [.inl (0), .inl (σ 10 0 11 0), .inr (.inr (10, 0, 0))] σ) rfl ?_
    exact (L_Mod_takes_33 s0 0 (σ 10 0 11 0) σ n tl)
  · refine ox_R_to 2 (Y := ox_ev m_Mod_takes (ox_zz ox_ms (n + 1)) 33 0 tl [ox_d, ox_d, ox_d, .inl (s0)] [.inl (1), .inl (σ 10 0 11 0), .inr (.inr (10, 0, 0))] σ) rfl ?_
    exact (L_Mod_takes_33 s0 1 (σ 10 0 11 0) σ n tl)
def F_Mod_takes  (a1 : Int) (a2 : Int) (σ : ox_H) : Option (Int × ox_H) := (F_Mod_look a1 (σ 10 0 11 0) σ).bind fun r1 => (if r1 = a2 then (J_Mod_takes_18 1 σ) else (J_Mod_takes_18 0 σ))
theorem L_Mod_takes  (a1 : Int) (a2 : Int) (σ : ox_H) (n tl : Nat) : ox_R (fun r => some ((fun r : Int × ox_H => ((.inl (some (.inl r.1)), r.2) : ox_O)) r)) (F_Mod_takes a1 a2 σ) (ox_zz ox_ms (n + 2) 50 tl [.inr (.inr (10, 0, 0)), .inl (a1), .inl (a2)] σ) := by
  unfold F_Mod_takes
  refine ox_R_of (Y := ox_ev m_Mod_takes (ox_zz ox_ms (n + 1)) 0 0 tl [.inr (.inr (10, 0, 0)), .inl (a1), .inl (a2), ox_d] [] σ) rfl ?_
  refine ox_R_to 5 (Y := ox_back m_Mod_takes 6 1 [] ((ox_zz ox_ms (n + 1)) 46 tl [.inr (.inr (10, 0, 0)), .inl (a1), .inl (σ 10 0 11 0)] σ) (fun pc9 x9 st9 σ9 => ox_ev m_Mod_takes (ox_zz ox_ms (n + 1)) pc9 0 tl (ox_kl (m_Mod_takes.2.2.1 pc9) (ox_xl x9 [.inr (.inr (10, 0, 0)), .inl (a1), .inl (a2), ox_d])) st9 σ9)) rfl ?_
  refine ox_R_call (fc := (fun r : Int => ((.inl (some (.inl r)), σ) : ox_O))) (L_Mod_look a1 (σ 10 0 11 0) σ (n + 0) tl) (fun r1 => ?_)
  refine ox_R_of (Y := ox_ev m_Mod_takes (ox_zz ox_ms (n + 1)) 9 0 tl [.inr (.inr (10, 0, 0)), .inl (a1), .inl (a2), ox_d] [.inl (r1)] σ) rfl ?_
  refine ox_R_to 2 (Y := if r1 = a2 then ox_ev m_Mod_takes (ox_zz ox_ms (n + 1)) 13 0 tl [.inr (.inr (10, 0, 0)), .inl (a1), .inl (a2), ox_d] [] σ else ox_ev m_Mod_takes (ox_zz ox_ms (n + 1)) 17 0 tl [.inr (.inr (10, 0, 0)), .inl (a1), .inl (a2), ox_d] [] σ) rfl ?_
  refine ox_R_if (fun _ => ?_) (fun _ => ?_)
  · refine ox_R_to 2 (Y := ox_ev m_Mod_takes (ox_zz ox_ms (n + 1)) 18 0 tl [.inr (.inr (10, 0, 0)), ox_d, ox_d, ox_d] [.inl (1)] σ) rfl ?_
    exact (L_Mod_takes_18 1 σ n tl)
  · refine ox_R_to 1 (Y := ox_ev m_Mod_takes (ox_zz ox_ms (n + 1)) 18 0 tl [.inr (.inr (10, 0, 0)), ox_d, ox_d, ox_d] [.inl (0)] σ) rfl ?_
    exact (L_Mod_takes_18 0 σ n tl)
def J_Mod_letter_28  (v2 : Int) (s0 : Int) (s1 : Int) (σ : ox_H) : Option (Int × ox_H) := some (v2 % 2, (ox_up σ 10 0 11 0 (ox_w (s1 + s0))))
theorem L_Mod_letter_28  (v2 : Int) (s0 : Int) (s1 : Int) (σ : ox_H) (n tl : Nat) : ox_R (fun r => some ((fun r : Int × ox_H => ((.inl (some (.inl r.1)), r.2) : ox_O)) r)) (J_Mod_letter_28 v2 s0 s1 σ) (ox_ev m_Mod_letter (ox_zz ox_ms (n + 2)) 28 0 tl [ox_d, ox_d, .inl (v2)] [.inl (s0), .inl (s1), .inr (.inr (10, 0, 0))] σ) := by
  unfold J_Mod_letter_28
  refine ox_R_to 4 (Y := some (.inl (some (.inl (v2 % 2))), (ox_up σ 10 0 11 0 (ox_w (s1 + s0))))) rfl ?_
  exact ox_R_ret rfl
def F_Mod_letter  (a1 : Int) (σ : ox_H) : Option (Int × ox_H) := (F_Mod_look a1 (σ 10 0 11 0) σ).bind fun r1 => ((F_Mod_isLetter r1 σ).bind fun r2 => (if r2 = 0 then (J_Mod_letter_28 r2 0 (σ 10 0 11 0) σ) else (J_Mod_letter_28 r2 1 (σ 10 0 11 0) σ)))
theorem L_Mod_letter  (a1 : Int) (σ : ox_H) (n tl : Nat) : ox_R (fun r => some ((fun r : Int × ox_H => ((.inl (some (.inl r.1)), r.2) : ox_O)) r)) (F_Mod_letter a1 σ) (ox_zz ox_ms (n + 3) 51 tl [.inr (.inr (10, 0, 0)), .inl (a1)] σ) := by
  unfold F_Mod_letter
  refine ox_R_of (Y := ox_ev m_Mod_letter (ox_zz ox_ms (n + 2)) 0 0 tl [.inr (.inr (10, 0, 0)), .inl (a1), ox_d] [] σ) rfl ?_
  refine ox_R_to 6 (Y := ox_back m_Mod_letter 7 1 [.inr (.inr (10, 0, 0))] ((ox_zz ox_ms (n + 2)) 46 tl [.inr (.inr (10, 0, 0)), .inl (a1), .inl (σ 10 0 11 0)] σ) (fun pc9 x9 st9 σ9 => ox_ev m_Mod_letter (ox_zz ox_ms (n + 2)) pc9 0 tl (ox_kl (m_Mod_letter.2.2.1 pc9) (ox_xl x9 [.inr (.inr (10, 0, 0)), .inl (a1), ox_d])) st9 σ9)) rfl ?_
  refine ox_R_call (fc := (fun r : Int => ((.inl (some (.inl r)), σ) : ox_O))) (L_Mod_look a1 (σ 10 0 11 0) σ (n + 1) tl) (fun r1 => ?_)
  refine ox_R_of (Y := ox_ev m_Mod_letter (ox_zz ox_ms (n + 2)) 10 0 tl [.inr (.inr (10, 0, 0)), .inl (a1), ox_d] [.inl (r1), .inr (.inr (10, 0, 0))] σ) rfl ?_
  refine ox_R_to 1 (Y := ox_back m_Mod_letter 10 1 [] ((ox_zz ox_ms (n + 2)) 47 tl [.inr (.inr (10, 0, 0)), .inl (r1)] σ) (fun pc9 x9 st9 σ9 => ox_ev m_Mod_letter (ox_zz ox_ms (n + 2)) pc9 0 tl (ox_kl (m_Mod_letter.2.2.1 pc9) (ox_xl x9 [.inr (.inr (10, 0, 0)), .inl (a1), ox_d])) st9 σ9)) rfl ?_
  refine ox_R_call (fc := (fun r : Int => ((.inl (some (.inl r)), σ) : ox_O))) (L_Mod_isLetter r1 σ (n + 0) tl) (fun r2 => ?_)
  refine ox_R_of (Y := ox_ev m_Mod_letter (ox_zz ox_ms (n + 2)) 13 0 tl [.inr (.inr (10, 0, 0)), .inl (a1), ox_d] [.inl (r2)] σ) rfl ?_
  refine ox_R_to 6 (Y := if r2 = 0 then ox_ev m_Mod_letter (ox_zz ox_ms (n + 2)) 27 0 tl [.inr (.inr (10, 0, 0)), .inl (a1), .inl (r2)] [.inl (σ 10 0 11 0), .inr (.inr (10, 0, 0))] σ else ox_ev m_Mod_letter (ox_zz ox_ms (n + 2)) 23 0 tl [.inr (.inr (10, 0, 0)), .inl (a1), .inl (r2)] [.inl (σ 10 0 11 0), .inr (.inr (10, 0, 0))] σ) rfl ?_
  refine ox_R_if (fun _ => ?_) (fun _ => ?_)
  · refine ox_R_to 1 (Y := ox_ev m_Mod_letter (ox_zz ox_ms (n + 2)) 28 0 tl [ox_d, ox_d, .inl (r2)] [.inl (0), .inl (σ 10 0 11 0), .inr (.inr (10, 0, 0))] σ) rfl ?_
    exact (L_Mod_letter_28 r2 0 (σ 10 0 11 0) σ n tl)
  · refine ox_R_to 2 (Y := ox_ev m_Mod_letter (ox_zz ox_ms (n + 2)) 28 0 tl [ox_d, ox_d, .inl (r2)] [.inl (1), .inl (σ 10 0 11 0), .inr (.inr (10, 0, 0))] σ) rfl ?_
    exact (L_Mod_letter_28 r2 1 (σ 10 0 11 0) σ n tl)
def J_Mod_ends_18  (s0 : Int) (σ : ox_H) : Option Int := some (s0 % 2)
theorem L_Mod_ends_18  (s0 : Int) (σ : ox_H) (n tl : Nat) : ox_R (fun r => some ((fun r : Int => ((.inl (some (.inl r)), σ) : ox_O)) r)) (J_Mod_ends_18 s0 σ) (ox_ev m_Mod_ends (ox_zz ox_ms (n + 0)) 18 0 tl [ox_d, ox_d] [.inl (s0)] σ) := by
  unfold J_Mod_ends_18
  refine ox_R_to 1 (Y := some (.inl (some (.inl (s0 % 2))), σ)) rfl ?_
  exact ox_R_ret rfl
def F_Mod_ends  (a1 : Int) (σ : ox_H) : Option (Int) := if 0 ≤ a1 ∧ a1.toNat < 60 then (if (σ 10 0 11 0) = (σ 10 0 1 a1.toNat) then (J_Mod_ends_18 1 σ) else (J_Mod_ends_18 0 σ)) else none
theorem L_Mod_ends  (a1 : Int) (σ : ox_H) (n tl : Nat) : ox_R (fun r => some ((fun r : Int => ((.inl (some (.inl r)), σ) : ox_O)) r)) (F_Mod_ends a1 σ) (ox_zz ox_ms (n + 1) 52 tl [.inr (.inr (10, 0, 0)), .inl (a1)] σ) := by
  unfold F_Mod_ends
  refine ox_R_of (Y := ox_ev m_Mod_ends (ox_zz ox_ms (n + 0)) 0 0 tl [.inr (.inr (10, 0, 0)), .inl (a1)] [] σ) rfl ?_
  refine ox_R_to 6 (Y := if 0 ≤ a1 ∧ a1.toNat < 60 then ox_ev m_Mod_ends (ox_zz ox_ms (n + 0)) 10 0 tl [.inr (.inr (10, 0, 0)), .inl (a1)] [.inl (σ 10 0 1 a1.toNat), .inl (σ 10 0 11 0)] σ else none) rfl ?_
  refine ox_R_if (fun _ => ?_) (fun _ => ox_R_none)
  refine ox_R_to 1 (Y := if (σ 10 0 11 0) = (σ 10 0 1 a1.toNat) then ox_ev m_Mod_ends (ox_zz ox_ms (n + 0)) 13 0 tl [.inr (.inr (10, 0, 0)), .inl (a1)] [] σ else ox_ev m_Mod_ends (ox_zz ox_ms (n + 0)) 17 0 tl [.inr (.inr (10, 0, 0)), .inl (a1)] [] σ) rfl ?_
  refine ox_R_if (fun _ => ?_) (fun _ => ?_)
  · refine ox_R_to 2 (Y := ox_ev m_Mod_ends (ox_zz ox_ms (n + 0)) 18 0 tl [ox_d, ox_d] [.inl (1)] σ) rfl ?_
    exact (L_Mod_ends_18 1 σ n tl)
  · refine ox_R_to 1 (Y := ox_ev m_Mod_ends (ox_zz ox_ms (n + 0)) 18 0 tl [ox_d, ox_d] [.inl (0)] σ) rfl ?_
    exact (L_Mod_ends_18 0 σ n tl)
def J_Mod_isWord_190  (s0 : Int) (σ : ox_H) : Option Int := some (s0 % 2)
theorem L_Mod_isWord_190  (s0 : Int) (σ : ox_H) (n tl : Nat) : ox_R (fun r => some ((fun r : Int => ((.inl (some (.inl r)), σ) : ox_O)) r)) (J_Mod_isWord_190 s0 σ) (ox_ev m_Mod_isWord (ox_zz ox_ms (n + 1)) 190 0 tl [ox_d, ox_d, ox_d, ox_d, ox_d, ox_d, ox_d, ox_d] [.inl (s0)] σ) := by
  unfold J_Mod_isWord_190
  refine ox_R_to 1 (Y := some (.inl (some (.inl (s0 % 2))), σ)) rfl ?_
  exact ox_R_ret rfl
def J_Mod_isWord_189  (σ : ox_H) : Option Int := (J_Mod_isWord_190 0 σ)
theorem L_Mod_isWord_189  (σ : ox_H) (n tl : Nat) : ox_R (fun r => some ((fun r : Int => ((.inl (some (.inl r)), σ) : ox_O)) r)) (J_Mod_isWord_189 σ) (ox_ev m_Mod_isWord (ox_zz ox_ms (n + 1)) 189 0 tl [ox_d, ox_d, ox_d, ox_d, ox_d, ox_d, ox_d, ox_d] [] σ) := by
  unfold J_Mod_isWord_189
  refine ox_R_to 1 (Y := ox_ev m_Mod_isWord (ox_zz ox_ms (n + 1)) 190 0 tl [ox_d, ox_d, ox_d, ox_d, ox_d, ox_d, ox_d, ox_d] [.inl (0)] σ) rfl ?_
  exact (L_Mod_isWord_190 0 σ n tl)
def J_Mod_isWord_120  (v1 : Int) (v2 : Int) (v4 : Int) (v5 : Int) (v6 : Int) (s0 : Int) (σ : ox_H) : Option Int := (F_Mod_look v1 v2 σ).bind fun r1 => (if r1 = v4 then ((F_Mod_look v1 (ox_w (v2 + 1)) σ).bind fun r2 => (if r2 = v5 then ((F_Mod_look v1 (ox_w (v2 + 2)) σ).bind fun r3 => (if r3 = v6 then ((F_Mod_look v1 (ox_w (v2 + 3)) σ).bind fun r4 => (if r4 = s0 then ((F_Mod_look v1 (ox_w (v2 + 4)) σ).bind fun r5 => (if r5 = 32 then (J_Mod_isWord_190 1 σ) else (J_Mod_isWord_189 σ))) else (J_Mod_isWord_189 σ))) else (J_Mod_isWord_189 σ))) else (J_Mod_isWord_189 σ))) else (J_Mod_isWord_189 σ))
theorem L_Mod_isWord_120  (v1 : Int) (v2 : Int) (v4 : Int) (v5 : Int) (v6 : Int) (s0 : Int) (σ : ox_H) (n tl : Nat) : ox_R (fun r => some ((fun r : Int => ((.inl (some (.inl r)), σ) : ox_O)) r)) (J_Mod_isWord_120 v1 v2 v4 v5 v6 s0 σ) (ox_ev m_Mod_isWord (ox_zz ox_ms (n + 1)) 120 0 tl [.inr (.inr (10, 0, 0)), .inl (v1), .inl (v2), ox_d, .inl (v4), .inl (v5), .inl (v6), ox_d] [.inl (s0)] σ) := by
  unfold J_Mod_isWord_120
  refine ox_R_to 5 (Y := ox_back m_Mod_isWord 125 1 [] ((ox_zz ox_ms (n + 1)) 46 tl [.inr (.inr (10, 0, 0)), .inl (v1), .inl (v2)] σ) (fun pc9 x9 st9 σ9 => ox_ev m_Mod_isWord (ox_zz ox_ms (n + 1)) pc9 0 tl (ox_kl (m_Mod_isWord.2.2.1 pc9) (ox_xl x9 [.inr (.inr (10, 0, 0)), .inl (v1), .inl (v2), ox_d, .inl (v4), .inl (v5), .inl (v6), .inl (s0)])) st9 σ9)) rfl ?_
  refine ox_R_call (fc := (fun r : Int => ((.inl (some (.inl r)), σ) : ox_O))) (L_Mod_look v1 v2 σ (n + 0) tl) (fun r1 => ?_)
  refine ox_R_of (Y := ox_ev m_Mod_isWord (ox_zz ox_ms (n + 1)) 128 0 tl [.inr (.inr (10, 0, 0)), .inl (v1), .inl (v2), ox_d, .inl (v4), .inl (v5), .inl (v6), .inl (s0)] [.inl (r1)] σ) rfl ?_
  refine ox_R_to 2 (Y := if r1 = v4 then ox_ev m_Mod_isWord (ox_zz ox_ms (n + 1)) 133 0 tl [.inr (.inr (10, 0, 0)), .inl (v1), .inl (v2), ox_d, .inl (v4), .inl (v5), .inl (v6), .inl (s0)] [] σ else ox_ev m_Mod_isWord (ox_zz ox_ms (n + 1)) 189 0 tl [ox_d, ox_d, ox_d, ox_d, ox_d, ox_d, ox_d, ox_d] [] σ) rfl ?_
  refine ox_R_if (fun _ => ?_) (fun _ => ?_)
  · refine ox_R_to 6 (Y := ox_back m_Mod_isWord 138 1 [] ((ox_zz ox_ms (n + 1)) 46 tl [.inr (.inr (10, 0, 0)), .inl (v1), .inl (ox_w (v2 + 1))] σ) (fun pc9 x9 st9 σ9 => ox_ev m_Mod_isWord (ox_zz ox_ms (n + 1)) pc9 0 tl (ox_kl (m_Mod_isWord.2.2.1 pc9) (ox_xl x9 [.inr (.inr (10, 0, 0)), .inl (v1), .inl (v2), ox_d, .inl (v4), .inl (v5), .inl (v6), .inl (s0)])) st9 σ9)) rfl ?_
    refine ox_R_call (fc := (fun r : Int => ((.inl (some (.inl r)), σ) : ox_O))) (L_Mod_look v1 (ox_w (v2 + 1)) σ (n + 0) tl) (fun r2 => ?_)
    refine ox_R_of (Y := ox_ev m_Mod_isWord (ox_zz ox_ms (n + 1)) 141 0 tl [.inr (.inr (10, 0, 0)), .inl (v1), .inl (v2), ox_d, .inl (v4), .inl (v5), .inl (v6), .inl (s0)] [.inl (r2)] σ) rfl ?_
    refine ox_R_to 2 (Y := if r2 = v5 then ox_ev m_Mod_isWord (ox_zz ox_ms (n + 1)) 146 0 tl [.inr (.inr (10, 0, 0)), .inl (v1), .inl (v2), ox_d, .inl (v4), .inl (v5), .inl (v6), .inl (s0)] [] σ else ox_ev m_Mod_isWord (ox_zz ox_ms (n + 1)) 189 0 tl [ox_d, ox_d, ox_d, ox_d, ox_d, ox_d, ox_d, ox_d] [] σ) rfl ?_
    refine ox_R_if (fun _ => ?_) (fun _ => ?_)
    · refine ox_R_to 6 (Y := ox_back m_Mod_isWord 151 1 [] ((ox_zz ox_ms (n + 1)) 46 tl [.inr (.inr (10, 0, 0)), .inl (v1), .inl (ox_w (v2 + 2))] σ) (fun pc9 x9 st9 σ9 => ox_ev m_Mod_isWord (ox_zz ox_ms (n + 1)) pc9 0 tl (ox_kl (m_Mod_isWord.2.2.1 pc9) (ox_xl x9 [.inr (.inr (10, 0, 0)), .inl (v1), .inl (v2), ox_d, .inl (v4), .inl (v5), .inl (v6), .inl (s0)])) st9 σ9)) rfl ?_
      refine ox_R_call (fc := (fun r : Int => ((.inl (some (.inl r)), σ) : ox_O))) (L_Mod_look v1 (ox_w (v2 + 2)) σ (n + 0) tl) (fun r3 => ?_)
      refine ox_R_of (Y := ox_ev m_Mod_isWord (ox_zz ox_ms (n + 1)) 154 0 tl [.inr (.inr (10, 0, 0)), .inl (v1), .inl (v2), ox_d, .inl (v4), .inl (v5), .inl (v6), .inl (s0)] [.inl (r3)] σ) rfl ?_
      refine ox_R_to 2 (Y := if r3 = v6 then ox_ev m_Mod_isWord (ox_zz ox_ms (n + 1)) 159 0 tl [.inr (.inr (10, 0, 0)), .inl (v1), .inl (v2), ox_d, .inl (v4), .inl (v5), .inl (v6), .inl (s0)] [] σ else ox_ev m_Mod_isWord (ox_zz ox_ms (n + 1)) 189 0 tl [ox_d, ox_d, ox_d, ox_d, ox_d, ox_d, ox_d, ox_d] [] σ) rfl ?_
      refine ox_R_if (fun _ => ?_) (fun _ => ?_)
      · refine ox_R_to 6 (Y := ox_back m_Mod_isWord 164 1 [] ((ox_zz ox_ms (n + 1)) 46 tl [.inr (.inr (10, 0, 0)), .inl (v1), .inl (ox_w (v2 + 3))] σ) (fun pc9 x9 st9 σ9 => ox_ev m_Mod_isWord (ox_zz ox_ms (n + 1)) pc9 0 tl (ox_kl (m_Mod_isWord.2.2.1 pc9) (ox_xl x9 [.inr (.inr (10, 0, 0)), .inl (v1), .inl (v2), ox_d, .inl (v4), .inl (v5), .inl (v6), .inl (s0)])) st9 σ9)) rfl ?_
        refine ox_R_call (fc := (fun r : Int => ((.inl (some (.inl r)), σ) : ox_O))) (L_Mod_look v1 (ox_w (v2 + 3)) σ (n + 0) tl) (fun r4 => ?_)
        refine ox_R_of (Y := ox_ev m_Mod_isWord (ox_zz ox_ms (n + 1)) 167 0 tl [.inr (.inr (10, 0, 0)), .inl (v1), .inl (v2), ox_d, .inl (v4), .inl (v5), .inl (v6), .inl (s0)] [.inl (r4)] σ) rfl ?_
        refine ox_R_to 2 (Y := if r4 = s0 then ox_ev m_Mod_isWord (ox_zz ox_ms (n + 1)) 172 0 tl [.inr (.inr (10, 0, 0)), .inl (v1), .inl (v2), ox_d, .inl (v4), .inl (v5), .inl (v6), .inl (s0)] [] σ else ox_ev m_Mod_isWord (ox_zz ox_ms (n + 1)) 189 0 tl [ox_d, ox_d, ox_d, ox_d, ox_d, ox_d, ox_d, ox_d] [] σ) rfl ?_
        refine ox_R_if (fun _ => ?_) (fun _ => ?_)
        · refine ox_R_to 6 (Y := ox_back m_Mod_isWord 177 1 [] ((ox_zz ox_ms (n + 1)) 46 tl [.inr (.inr (10, 0, 0)), .inl (v1), .inl (ox_w (v2 + 4))] σ) (fun pc9 x9 st9 σ9 => ox_ev m_Mod_isWord (ox_zz ox_ms (n + 1)) pc9 0 tl (ox_kl (m_Mod_isWord.2.2.1 pc9) (ox_xl x9 [.inr (.inr (10, 0, 0)), .inl (v1), .inl (v2), ox_d, .inl (v4), .inl (v5), .inl (v6), .inl (s0)])) st9 σ9)) rfl ?_
          refine ox_R_call (fc := (fun r : Int => ((.inl (some (.inl r)), σ) : ox_O))) (L_Mod_look v1 (ox_w (v2 + 4)) σ (n + 0) tl) (fun r5 => ?_)
          refine ox_R_of (Y := ox_ev m_Mod_isWord (ox_zz ox_ms (n + 1)) 180 0 tl [.inr (.inr (10, 0, 0)), .inl (v1), .inl (v2), ox_d, .inl (v4), .inl (v5), .inl (v6), .inl (s0)] [.inl (r5)] σ) rfl ?_
          refine ox_R_to 2 (Y := if r5 = 32 then ox_ev m_Mod_isWord (ox_zz ox_ms (n + 1)) 185 0 tl [.inr (.inr (10, 0, 0)), .inl (v1), .inl (v2), ox_d, .inl (v4), .inl (v5), .inl (v6), .inl (s0)] [] σ else ox_ev m_Mod_isWord (ox_zz ox_ms (n + 1)) 189 0 tl [ox_d, ox_d, ox_d, ox_d, ox_d, ox_d, ox_d, ox_d] [] σ) rfl ?_
          refine ox_R_if (fun _ => ?_) (fun _ => ?_)
          · refine ox_R_to 2 (Y := ox_ev m_Mod_isWord (ox_zz ox_ms (n + 1)) 190 0 tl [ox_d, ox_d, ox_d, ox_d, ox_d, ox_d, ox_d, ox_d] [.inl (1)] σ) rfl ?_
            exact (L_Mod_isWord_190 1 σ n tl)
          · exact (L_Mod_isWord_189 σ n tl)
        · exact (L_Mod_isWord_189 σ n tl)
      · exact (L_Mod_isWord_189 σ n tl)
    · exact (L_Mod_isWord_189 σ n tl)
  · exact (L_Mod_isWord_189 σ n tl)
def J_Mod_isWord_87  (v1 : Int) (v2 : Int) (v3 : Int) (v4 : Int) (v5 : Int) (s0 : Int) (σ : ox_H) : Option Int := if v3 = 0 then (J_Mod_isWord_120 v1 v2 v4 v5 s0 79 σ) else (if v3 = 1 then (J_Mod_isWord_120 v1 v2 v4 v5 s0 84 σ) else (if v3 = 2 then (J_Mod_isWord_120 v1 v2 v4 v5 s0 69 σ) else (J_Mod_isWord_120 v1 v2 v4 v5 s0 80 σ)))
theorem L_Mod_isWord_87  (v1 : Int) (v2 : Int) (v3 : Int) (v4 : Int) (v5 : Int) (s0 : Int) (σ : ox_H) (n tl : Nat) : ox_R (fun r => some ((fun r : Int => ((.inl (some (.inl r)), σ) : ox_O)) r)) (J_Mod_isWord_87 v1 v2 v3 v4 v5 s0 σ) (ox_ev m_Mod_isWord (ox_zz ox_ms (n + 1)) 87 0 tl [.inr (.inr (10, 0, 0)), .inl (v1), .inl (v2), .inl (v3), .inl (v4), .inl (v5), ox_d, ox_d] [.inl (s0)] σ) := by
  unfold J_Mod_isWord_87
  refine ox_R_to 3 (Y := if v3 = 0 then ox_ev m_Mod_isWord (ox_zz ox_ms (n + 1)) 93 0 tl [.inr (.inr (10, 0, 0)), .inl (v1), .inl (v2), .inl (v3), .inl (v4), .inl (v5), .inl (s0), ox_d] [] σ else ox_ev m_Mod_isWord (ox_zz ox_ms (n + 1)) 98 0 tl [.inr (.inr (10, 0, 0)), .inl (v1), .inl (v2), .inl (v3), .inl (v4), .inl (v5), .inl (s0), ox_d] [] σ) rfl ?_
  refine ox_R_if (fun _ => ?_) (fun _ => ?_)
  · refine ox_R_to 2 (Y := ox_ev m_Mod_isWord (ox_zz ox_ms (n + 1)) 120 0 tl [.inr (.inr (10, 0, 0)), .inl (v1), .inl (v2), ox_d, .inl (v4), .inl (v5), .inl (s0), ox_d] [.inl (79)] σ) rfl ?_
    exact (L_Mod_isWord_120 v1 v2 v4 v5 s0 79 σ n tl)
  · refine ox_R_to 3 (Y := if v3 = 1 then ox_ev m_Mod_isWord (ox_zz ox_ms (n + 1)) 103 0 tl [.inr (.inr (10, 0, 0)), .inl (v1), .inl (v2), .inl (v3), .inl (v4), .inl (v5), .inl (s0), ox_d] [] σ else ox_ev m_Mod_isWord (ox_zz ox_ms (n + 1)) 108 0 tl [.inr (.inr (10, 0, 0)), .inl (v1), .inl (v2), .inl (v3), .inl (v4), .inl (v5), .inl (s0), ox_d] [] σ) rfl ?_
    refine ox_R_if (fun _ => ?_) (fun _ => ?_)
    · refine ox_R_to 2 (Y := ox_ev m_Mod_isWord (ox_zz ox_ms (n + 1)) 120 0 tl [.inr (.inr (10, 0, 0)), .inl (v1), .inl (v2), ox_d, .inl (v4), .inl (v5), .inl (s0), ox_d] [.inl (84)] σ) rfl ?_
      exact (L_Mod_isWord_120 v1 v2 v4 v5 s0 84 σ n tl)
    · refine ox_R_to 3 (Y := if v3 = 2 then ox_ev m_Mod_isWord (ox_zz ox_ms (n + 1)) 113 0 tl [.inr (.inr (10, 0, 0)), .inl (v1), .inl (v2), .inl (v3), .inl (v4), .inl (v5), .inl (s0), ox_d] [] σ else ox_ev m_Mod_isWord (ox_zz ox_ms (n + 1)) 118 0 tl [.inr (.inr (10, 0, 0)), .inl (v1), .inl (v2), .inl (v3), .inl (v4), .inl (v5), .inl (s0), ox_d] [] σ) rfl ?_
      refine ox_R_if (fun _ => ?_) (fun _ => ?_)
      · refine ox_R_to 2 (Y := ox_ev m_Mod_isWord (ox_zz ox_ms (n + 1)) 120 0 tl [.inr (.inr (10, 0, 0)), .inl (v1), .inl (v2), ox_d, .inl (v4), .inl (v5), .inl (s0), ox_d] [.inl (69)] σ) rfl ?_
        exact (L_Mod_isWord_120 v1 v2 v4 v5 s0 69 σ n tl)
      · refine ox_R_to 1 (Y := ox_ev m_Mod_isWord (ox_zz ox_ms (n + 1)) 120 0 tl [.inr (.inr (10, 0, 0)), .inl (v1), .inl (v2), ox_d, .inl (v4), .inl (v5), .inl (s0), ox_d] [.inl (80)] σ) rfl ?_
        exact (L_Mod_isWord_120 v1 v2 v4 v5 s0 80 σ n tl)
def J_Mod_isWord_54  (v1 : Int) (v2 : Int) (v3 : Int) (v4 : Int) (s0 : Int) (σ : ox_H) : Option Int := if v3 = 0 then (J_Mod_isWord_87 v1 v2 v3 v4 s0 68 σ) else (if v3 = 1 then (J_Mod_isWord_87 v1 v2 v3 v4 s0 73 σ) else (if v3 = 2 then (J_Mod_isWord_87 v1 v2 v3 v4 s0 78 σ) else (J_Mod_isWord_87 v1 v2 v3 v4 s0 79 σ)))
theorem L_Mod_isWord_54  (v1 : Int) (v2 : Int) (v3 : Int) (v4 : Int) (s0 : Int) (σ : ox_H) (n tl : Nat) : ox_R (fun r => some ((fun r : Int => ((.inl (some (.inl r)), σ) : ox_O)) r)) (J_Mod_isWord_54 v1 v2 v3 v4 s0 σ) (ox_ev m_Mod_isWord (ox_zz ox_ms (n + 1)) 54 0 tl [.inr (.inr (10, 0, 0)), .inl (v1), .inl (v2), .inl (v3), .inl (v4), ox_d, ox_d, ox_d] [.inl (s0)] σ) := by
  unfold J_Mod_isWord_54
  refine ox_R_to 3 (Y := if v3 = 0 then ox_ev m_Mod_isWord (ox_zz ox_ms (n + 1)) 60 0 tl [.inr (.inr (10, 0, 0)), .inl (v1), .inl (v2), .inl (v3), .inl (v4), .inl (s0), ox_d, ox_d] [] σ else ox_ev m_Mod_isWord (ox_zz ox_ms (n + 1)) 65 0 tl [.inr (.inr (10, 0, 0)), .inl (v1), .inl (v2), .inl (v3), .inl (v4), .inl (s0), ox_d, ox_d] [] σ) rfl ?_
  refine ox_R_if (fun _ => ?_) (fun _ => ?_)
  · refine ox_R_to 2 (Y := ox_ev m_Mod_isWord (ox_zz ox_ms (n + 1)) 87 0 tl [.inr (.inr (10, 0, 0)), .inl (v1), .inl (v2), .inl (v3), .inl (v4), .inl (s0), ox_d, ox_d] [.inl (68)] σ) rfl ?_
    exact (L_Mod_isWord_87 v1 v2 v3 v4 s0 68 σ n tl)
  · refine ox_R_to 3 (Y := if v3 = 1 then ox_ev m_Mod_isWord (ox_zz ox_ms (n + 1)) 70 0 tl [.inr (.inr (10, 0, 0)), .inl (v1), .inl (v2), .inl (v3), .inl (v4), .inl (s0), ox_d, ox_d] [] σ else ox_ev m_Mod_isWord (ox_zz ox_ms (n + 1)) 75 0 tl [.inr (.inr (10, 0, 0)), .inl (v1), .inl (v2), .inl (v3), .inl (v4), .inl (s0), ox_d, ox_d] [] σ) rfl ?_
    refine ox_R_if (fun _ => ?_) (fun _ => ?_)
    · refine ox_R_to 2 (Y := ox_ev m_Mod_isWord (ox_zz ox_ms (n + 1)) 87 0 tl [.inr (.inr (10, 0, 0)), .inl (v1), .inl (v2), .inl (v3), .inl (v4), .inl (s0), ox_d, ox_d] [.inl (73)] σ) rfl ?_
      exact (L_Mod_isWord_87 v1 v2 v3 v4 s0 73 σ n tl)
    · refine ox_R_to 3 (Y := if v3 = 2 then ox_ev m_Mod_isWord (ox_zz ox_ms (n + 1)) 80 0 tl [.inr (.inr (10, 0, 0)), .inl (v1), .inl (v2), .inl (v3), .inl (v4), .inl (s0), ox_d, ox_d] [] σ else ox_ev m_Mod_isWord (ox_zz ox_ms (n + 1)) 85 0 tl [.inr (.inr (10, 0, 0)), .inl (v1), .inl (v2), .inl (v3), .inl (v4), .inl (s0), ox_d, ox_d] [] σ) rfl ?_
      refine ox_R_if (fun _ => ?_) (fun _ => ?_)
      · refine ox_R_to 2 (Y := ox_ev m_Mod_isWord (ox_zz ox_ms (n + 1)) 87 0 tl [.inr (.inr (10, 0, 0)), .inl (v1), .inl (v2), .inl (v3), .inl (v4), .inl (s0), ox_d, ox_d] [.inl (78)] σ) rfl ?_
        exact (L_Mod_isWord_87 v1 v2 v3 v4 s0 78 σ n tl)
      · refine ox_R_to 1 (Y := ox_ev m_Mod_isWord (ox_zz ox_ms (n + 1)) 87 0 tl [.inr (.inr (10, 0, 0)), .inl (v1), .inl (v2), .inl (v3), .inl (v4), .inl (s0), ox_d, ox_d] [.inl (79)] σ) rfl ?_
        exact (L_Mod_isWord_87 v1 v2 v3 v4 s0 79 σ n tl)
def J_Mod_isWord_21  (v1 : Int) (v2 : Int) (v3 : Int) (s0 : Int) (σ : ox_H) : Option Int := if v3 = 0 then (J_Mod_isWord_54 v1 v2 v3 s0 79 σ) else (if v3 = 1 then (J_Mod_isWord_54 v1 v2 v3 s0 65 σ) else (if v3 = 2 then (J_Mod_isWord_54 v1 v2 v3 s0 79 σ) else (J_Mod_isWord_54 v1 v2 v3 s0 82 σ)))
theorem L_Mod_isWord_21  (v1 : Int) (v2 : Int) (v3 : Int) (s0 : Int) (σ : ox_H) (n tl : Nat) : ox_R (fun r => some ((fun r : Int => ((.inl (some (.inl r)), σ) : ox_O)) r)) (J_Mod_isWord_21 v1 v2 v3 s0 σ) (ox_ev m_Mod_isWord (ox_zz ox_ms (n + 1)) 21 0 tl [.inr (.inr (10, 0, 0)), .inl (v1), .inl (v2), .inl (v3), ox_d, ox_d, ox_d, ox_d] [.inl (s0)] σ) := by
  unfold J_Mod_isWord_21
  refine ox_R_to 3 (Y := if v3 = 0 then ox_ev m_Mod_isWord (ox_zz ox_ms (n + 1)) 27 0 tl [.inr (.inr (10, 0, 0)), .inl (v1), .inl (v2), .inl (v3), .inl (s0), ox_d, ox_d, ox_d] [] σ else ox_ev m_Mod_isWord (ox_zz ox_ms (n + 1)) 32 0 tl [.inr (.inr (10, 0, 0)), .inl (v1), .inl (v2), .inl (v3), .inl (s0), ox_d, ox_d, ox_d] [] σ) rfl ?_
  refine ox_R_if (fun _ => ?_) (fun _ => ?_)
  · refine ox_R_to 2 (Y := ox_ev m_Mod_isWord (ox_zz ox_ms (n + 1)) 54 0 tl [.inr (.inr (10, 0, 0)), .inl (v1), .inl (v2), .inl (v3), .inl (s0), ox_d, ox_d, ox_d] [.inl (79)] σ) rfl ?_
    exact (L_Mod_isWord_54 v1 v2 v3 s0 79 σ n tl)
  · refine ox_R_to 3 (Y := if v3 = 1 then ox_ev m_Mod_isWord (ox_zz ox_ms (n + 1)) 37 0 tl [.inr (.inr (10, 0, 0)), .inl (v1), .inl (v2), .inl (v3), .inl (s0), ox_d, ox_d, ox_d] [] σ else ox_ev m_Mod_isWord (ox_zz ox_ms (n + 1)) 42 0 tl [.inr (.inr (10, 0, 0)), .inl (v1), .inl (v2), .inl (v3), .inl (s0), ox_d, ox_d, ox_d] [] σ) rfl ?_
    refine ox_R_if (fun _ => ?_) (fun _ => ?_)
    · refine ox_R_to 2 (Y := ox_ev m_Mod_isWord (ox_zz ox_ms (n + 1)) 54 0 tl [.inr (.inr (10, 0, 0)), .inl (v1), .inl (v2), .inl (v3), .inl (s0), ox_d, ox_d, ox_d] [.inl (65)] σ) rfl ?_
      exact (L_Mod_isWord_54 v1 v2 v3 s0 65 σ n tl)
    · refine ox_R_to 3 (Y := if v3 = 2 then ox_ev m_Mod_isWord (ox_zz ox_ms (n + 1)) 47 0 tl [.inr (.inr (10, 0, 0)), .inl (v1), .inl (v2), .inl (v3), .inl (s0), ox_d, ox_d, ox_d] [] σ else ox_ev m_Mod_isWord (ox_zz ox_ms (n + 1)) 52 0 tl [.inr (.inr (10, 0, 0)), .inl (v1), .inl (v2), .inl (v3), .inl (s0), ox_d, ox_d, ox_d] [] σ) rfl ?_
      refine ox_R_if (fun _ => ?_) (fun _ => ?_)
      · refine ox_R_to 2 (Y := ox_ev m_Mod_isWord (ox_zz ox_ms (n + 1)) 54 0 tl [.inr (.inr (10, 0, 0)), .inl (v1), .inl (v2), .inl (v3), .inl (s0), ox_d, ox_d, ox_d] [.inl (79)] σ) rfl ?_
        exact (L_Mod_isWord_54 v1 v2 v3 s0 79 σ n tl)
      · refine ox_R_to 1 (Y := ox_ev m_Mod_isWord (ox_zz ox_ms (n + 1)) 54 0 tl [.inr (.inr (10, 0, 0)), .inl (v1), .inl (v2), .inl (v3), .inl (s0), ox_d, ox_d, ox_d] [.inl (82)] σ) rfl ?_
        exact (L_Mod_isWord_54 v1 v2 v3 s0 82 σ n tl)
def F_Mod_isWord  (a1 : Int) (a2 : Int) (a3 : Int) (σ : ox_H) : Option (Int) := if a3 = 0 then (J_Mod_isWord_21 a1 a2 a3 84 σ) else (if a3 = 1 then (J_Mod_isWord_21 a1 a2 a3 87 σ) else (J_Mod_isWord_21 a1 a2 a3 68 σ))
theorem L_Mod_isWord  (a1 : Int) (a2 : Int) (a3 : Int) (σ : ox_H) (n tl : Nat) : ox_R (fun r => some ((fun r : Int => ((.inl (some (.inl r)), σ) : ox_O)) r)) (F_Mod_isWord a1 a2 a3 σ) (ox_zz ox_ms (n + 2) 53 tl [.inr (.inr (10, 0, 0)), .inl (a1), .inl (a2), .inl (a3)] σ) := by
  unfold F_Mod_isWord
  refine ox_R_of (Y := ox_ev m_Mod_isWord (ox_zz ox_ms (n + 1)) 0 0 tl [.inr (.inr (10, 0, 0)), .inl (a1), .inl (a2), .inl (a3), ox_d, ox_d, ox_d, ox_d] [] σ) rfl ?_
  refine ox_R_to 2 (Y := if a3 = 0 then ox_ev m_Mod_isWord (ox_zz ox_ms (n + 1)) 4 0 tl [.inr (.inr (10, 0, 0)), .inl (a1), .inl (a2), .inl (a3), ox_d, ox_d, ox_d, ox_d] [] σ else ox_ev m_Mod_isWord (ox_zz ox_ms (n + 1)) 9 0 tl [.inr (.inr (10, 0, 0)), .inl (a1), .inl (a2), .inl (a3), ox_d, ox_d, ox_d, ox_d] [] σ) rfl ?_
  refine ox_R_if (fun _ => ?_) (fun _ => ?_)
  · refine ox_R_to 2 (Y := ox_ev m_Mod_isWord (ox_zz ox_ms (n + 1)) 21 0 tl [.inr (.inr (10, 0, 0)), .inl (a1), .inl (a2), .inl (a3), ox_d, ox_d, ox_d, ox_d] [.inl (84)] σ) rfl ?_
    exact (L_Mod_isWord_21 a1 a2 a3 84 σ n tl)
  · refine ox_R_to 3 (Y := if a3 = 1 then ox_ev m_Mod_isWord (ox_zz ox_ms (n + 1)) 14 0 tl [.inr (.inr (10, 0, 0)), .inl (a1), .inl (a2), .inl (a3), ox_d, ox_d, ox_d, ox_d] [] σ else ox_ev m_Mod_isWord (ox_zz ox_ms (n + 1)) 19 0 tl [.inr (.inr (10, 0, 0)), .inl (a1), .inl (a2), .inl (a3), ox_d, ox_d, ox_d, ox_d] [] σ) rfl ?_
    refine ox_R_if (fun _ => ?_) (fun _ => ?_)
    · refine ox_R_to 2 (Y := ox_ev m_Mod_isWord (ox_zz ox_ms (n + 1)) 21 0 tl [.inr (.inr (10, 0, 0)), .inl (a1), .inl (a2), .inl (a3), ox_d, ox_d, ox_d, ox_d] [.inl (87)] σ) rfl ?_
      exact (L_Mod_isWord_21 a1 a2 a3 87 σ n tl)
    · refine ox_R_to 1 (Y := ox_ev m_Mod_isWord (ox_zz ox_ms (n + 1)) 21 0 tl [.inr (.inr (10, 0, 0)), .inl (a1), .inl (a2), .inl (a3), ox_d, ox_d, ox_d, ox_d] [.inl (68)] σ) rfl ?_
      exact (L_Mod_isWord_21 a1 a2 a3 68 σ n tl)
def J_Mod_tagsFrom_140  (s0 : Int) (σ : ox_H) : Option Int := some s0
theorem L_Mod_tagsFrom_140  (s0 : Int) (σ : ox_H) (n tl : Nat) : ox_R (fun r => some ((fun r : Int => ((.inl (some (.inl r)), σ) : ox_O)) r)) (J_Mod_tagsFrom_140 s0 σ) (ox_ev m_Mod_tagsFrom (ox_zz ox_ms (n + 2)) 140 0 tl [ox_d, ox_d, ox_d, ox_d, ox_d, ox_d] [.inl (s0)] σ) := by
  unfold J_Mod_tagsFrom_140
  refine ox_R_to 1 (Y := some (.inl (some (.inl (s0))), σ)) rfl ?_
  exact ox_R_ret rfl
def J_Mod_tagsFrom_130  (v3 : Int) (v4 : Int) (σ : ox_H) : Option Int := if v4 = 0 then (J_Mod_tagsFrom_140 0 σ) else (J_Mod_tagsFrom_140 v3 σ)
theorem L_Mod_tagsFrom_130  (v3 : Int) (v4 : Int) (σ : ox_H) (n tl : Nat) : ox_R (fun r => some ((fun r : Int => ((.inl (some (.inl r)), σ) : ox_O)) r)) (J_Mod_tagsFrom_130 v3 v4 σ) (ox_ev m_Mod_tagsFrom (ox_zz ox_ms (n + 2)) 130 0 tl [ox_d, ox_d, ox_d, .inl (v3), .inl (v4), ox_d] [] σ) := by
  unfold J_Mod_tagsFrom_130
  refine ox_R_to 2 (Y := if v4 = 0 then ox_ev m_Mod_tagsFrom (ox_zz ox_ms (n + 2)) 139 0 tl [ox_d, ox_d, ox_d, .inl (v3), .inl (v4), ox_d] [] σ else ox_ev m_Mod_tagsFrom (ox_zz ox_ms (n + 2)) 135 0 tl [ox_d, ox_d, ox_d, .inl (v3), .inl (v4), ox_d] [] σ) rfl ?_
  refine ox_R_if (fun _ => ?_) (fun _ => ?_)
  · refine ox_R_to 1 (Y := ox_ev m_Mod_tagsFrom (ox_zz ox_ms (n + 2)) 140 0 tl [ox_d, ox_d, ox_d, ox_d, ox_d, ox_d] [.inl (0)] σ) rfl ?_
    exact (L_Mod_tagsFrom_140 0 σ n tl)
  · refine ox_R_to 2 (Y := ox_ev m_Mod_tagsFrom (ox_zz ox_ms (n + 2)) 140 0 tl [ox_d, ox_d, ox_d, ox_d, ox_d, ox_d] [.inl (v3)] σ) rfl ?_
    exact (L_Mod_tagsFrom_140 v3 σ n tl)
def J_Mod_tagsFrom_122  (v1 : Int) (v4 : Int) (v5 : Int) (s0 : Int) (s1 : Int) (σ : ox_H) : Option (((Int × Int × Int) ⊕ Int)) := some (.inl (ox_or s1 s0, v4, ox_w (v5 + 2)))
theorem L_Mod_tagsFrom_122  (v1 : Int) (v4 : Int) (v5 : Int) (s0 : Int) (s1 : Int) (σ : ox_H) (n tl : Nat) : ox_R (Sum.elim (fun (s : Int × Int × Int) => match s with | (v3, v4, v5) => ox_ev m_Mod_tagsFrom (ox_zz ox_ms (n + 2)) 51 0 tl [.inr (.inr (10, 0, 0)), .inl (v1), ox_d, .inl (v3), .inl (v4), .inl (v5)] [] σ) (fun r => some ((fun r : Int => ((.inl (some (.inl r)), σ) : ox_O)) r))) (J_Mod_tagsFrom_122 v1 v4 v5 s0 s1 σ) (ox_ev m_Mod_tagsFrom (ox_zz ox_ms (n + 2)) 122 0 tl [.inr (.inr (10, 0, 0)), .inl (v1), ox_d, ox_d, .inl (v4), .inl (v5)] [.inl (s0), .inl (s1)] σ) := by
  unfold J_Mod_tagsFrom_122
  refine ox_R_to 4 (Y := ox_ev m_Mod_tagsFrom (ox_zz ox_ms (n + 2)) 51 0 tl [.inr (.inr (10, 0, 0)), .inl (v1), ox_d, .inl (ox_or s1 s0), .inl (v4), .inl (ox_w (v5 + 2))] [] σ) rfl ?_
  exact ox_R_ret rfl
def J_Mod_tagsFrom_97  (v1 : Int) (v3 : Int) (v5 : Int) (s0 : Int) (s1 : Int) (σ : ox_H) : Option (((Int × Int × Int) ⊕ Int)) := if (ox_and s1 s0) = 0 then (J_Mod_tagsFrom_122 v1 (ox_and s1 s0) v5 0 v3 σ) else ((F_Mod_look v1 v5 σ).bind fun r1 => (J_Mod_tagsFrom_122 v1 (ox_and s1 s0) v5 (ox_shl 1 (ox_w (r1 - 97))) v3 σ))
theorem L_Mod_tagsFrom_97  (v1 : Int) (v3 : Int) (v5 : Int) (s0 : Int) (s1 : Int) (σ : ox_H) (n tl : Nat) : ox_R (Sum.elim (fun (s : Int × Int × Int) => match s with | (v3, v4, v5) => ox_ev m_Mod_tagsFrom (ox_zz ox_ms (n + 2)) 51 0 tl [.inr (.inr (10, 0, 0)), .inl (v1), ox_d, .inl (v3), .inl (v4), .inl (v5)] [] σ) (fun r => some ((fun r : Int => ((.inl (some (.inl r)), σ) : ox_O)) r))) (J_Mod_tagsFrom_97 v1 v3 v5 s0 s1 σ) (ox_ev m_Mod_tagsFrom (ox_zz ox_ms (n + 2)) 97 0 tl [.inr (.inr (10, 0, 0)), .inl (v1), ox_d, .inl (v3), ox_d, .inl (v5)] [.inl (s0), .inl (s1)] σ) := by
  unfold J_Mod_tagsFrom_97
  refine ox_R_to 5 (Y := if (ox_and s1 s0) = 0 then ox_ev m_Mod_tagsFrom (ox_zz ox_ms (n + 2)) 121 0 tl [.inr (.inr (10, 0, 0)), .inl (v1), ox_d, .inl (v3), .inl (ox_and s1 s0), .inl (v5)] [.inl (v3)] σ else ox_ev m_Mod_tagsFrom (ox_zz ox_ms (n + 2)) 106 0 tl [.inr (.inr (10, 0, 0)), .inl (v1), ox_d, .inl (v3), .inl (ox_and s1 s0), .inl (v5)] [.inl (v3)] σ) rfl ?_
  refine ox_R_if (fun _ => ?_) (fun _ => ?_)
  · refine ox_R_to 1 (Y := ox_ev m_Mod_tagsFrom (ox_zz ox_ms (n + 2)) 122 0 tl [.inr (.inr (10, 0, 0)), .inl (v1), ox_d, ox_d, .inl (ox_and s1 s0), .inl (v5)] [.inl (0), .inl (v3)] σ) rfl ?_
    exact (L_Mod_tagsFrom_122 v1 (ox_and s1 s0) v5 0 v3 σ n tl)
  · refine ox_R_to 5 (Y := ox_back m_Mod_tagsFrom 111 1 [.inl (1), .inl (v3)] ((ox_zz ox_ms (n + 2)) 46 tl [.inr (.inr (10, 0, 0)), .inl (v1), .inl (v5)] σ) (fun pc9 x9 st9 σ9 => ox_ev m_Mod_tagsFrom (ox_zz ox_ms (n + 2)) pc9 0 tl (ox_kl (m_Mod_tagsFrom.2.2.1 pc9) (ox_xl x9 [.inr (.inr (10, 0, 0)), .inl (v1), ox_d, .inl (v3), .inl (ox_and s1 s0), .inl (v5)])) st9 σ9)) rfl ?_
    refine ox_R_call (fc := (fun r : Int => ((.inl (some (.inl r)), σ) : ox_O))) (L_Mod_look v1 v5 σ (n + 1) tl) (fun r1 => ?_)
    refine ox_R_of (Y := ox_ev m_Mod_tagsFrom (ox_zz ox_ms (n + 2)) 114 0 tl [.inr (.inr (10, 0, 0)), .inl (v1), ox_d, .inl (v3), .inl (ox_and s1 s0), .inl (v5)] [.inl (r1), .inl (1), .inl (v3)] σ) rfl ?_
    refine ox_R_to 4 (Y := ox_ev m_Mod_tagsFrom (ox_zz ox_ms (n + 2)) 122 0 tl [.inr (.inr (10, 0, 0)), .inl (v1), ox_d, ox_d, .inl (ox_and s1 s0), .inl (v5)] [.inl (ox_shl 1 (ox_w (r1 - 97))), .inl (v3)] σ) rfl ?_
    exact (L_Mod_tagsFrom_122 v1 (ox_and s1 s0) v5 (ox_shl 1 (ox_w (r1 - 97))) v3 σ n tl)
def J_Mod_tagsFrom_96  (v1 : Int) (v3 : Int) (v5 : Int) (s0 : Int) (σ : ox_H) : Option (((Int × Int × Int) ⊕ Int)) := (J_Mod_tagsFrom_97 v1 v3 v5 0 s0 σ)
theorem L_Mod_tagsFrom_96  (v1 : Int) (v3 : Int) (v5 : Int) (s0 : Int) (σ : ox_H) (n tl : Nat) : ox_R (Sum.elim (fun (s : Int × Int × Int) => match s with | (v3, v4, v5) => ox_ev m_Mod_tagsFrom (ox_zz ox_ms (n + 2)) 51 0 tl [.inr (.inr (10, 0, 0)), .inl (v1), ox_d, .inl (v3), .inl (v4), .inl (v5)] [] σ) (fun r => some ((fun r : Int => ((.inl (some (.inl r)), σ) : ox_O)) r))) (J_Mod_tagsFrom_96 v1 v3 v5 s0 σ) (ox_ev m_Mod_tagsFrom (ox_zz ox_ms (n + 2)) 96 0 tl [.inr (.inr (10, 0, 0)), .inl (v1), ox_d, .inl (v3), ox_d, .inl (v5)] [.inl (s0)] σ) := by
  unfold J_Mod_tagsFrom_96
  refine ox_R_to 1 (Y := ox_ev m_Mod_tagsFrom (ox_zz ox_ms (n + 2)) 97 0 tl [.inr (.inr (10, 0, 0)), .inl (v1), ox_d, .inl (v3), ox_d, .inl (v5)] [.inl (0), .inl (s0)] σ) rfl ?_
  exact (L_Mod_tagsFrom_97 v1 v3 v5 0 s0 σ n tl)
def B_Mod_tagsFrom_51  (v1 : Int) (σ : ox_H) : (Int × Int × Int) → Option (((Int × Int × Int) ⊕ Int)) := fun (v3, v4, v5) => if 0 ≤ v1 ∧ v1.toNat < 60 then (if (σ 10 0 1 v1.toNat) ≤ v5 then ((J_Mod_tagsFrom_130 v3 v4 σ).map .inr) else ((F_Mod_look v1 v5 σ).bind fun r2 => ((F_Mod_isLetter r2 σ).bind fun r3 => (if r3 = 0 then (J_Mod_tagsFrom_96 v1 v3 v5 v4 σ) else ((F_Mod_look v1 (ox_w (v5 + 1)) σ).bind fun r4 => (if r4 = 58 then (J_Mod_tagsFrom_97 v1 v3 v5 1 v4 σ) else (J_Mod_tagsFrom_96 v1 v3 v5 v4 σ))))))) else none
def J_Mod_tagsFrom_51  (v1 : Int) (v3 : Int) (v4 : Int) (v5 : Int) (σ : ox_H) : Option (Int) := ox_lp (B_Mod_tagsFrom_51 v1 σ) ox_fu (v3, v4, v5)
theorem L_Mod_tagsFrom_51  (v1 : Int) (v3 : Int) (v4 : Int) (v5 : Int) (σ : ox_H) (n tl : Nat) : ox_R (fun r => some ((fun r : Int => ((.inl (some (.inl r)), σ) : ox_O)) r)) (J_Mod_tagsFrom_51 v1 v3 v4 v5 σ) (ox_ev m_Mod_tagsFrom (ox_zz ox_ms (n + 2)) 51 0 tl [.inr (.inr (10, 0, 0)), .inl (v1), ox_d, .inl (v3), .inl (v4), .inl (v5)] [] σ) := by
  unfold J_Mod_tagsFrom_51
  refine ox_R_lp (ψ := (fun (s : Int × Int × Int) => match s with | (v3, v4, v5) => ox_ev m_Mod_tagsFrom (ox_zz ox_ms (n + 2)) 51 0 tl [.inr (.inr (10, 0, 0)), .inl (v1), ox_d, .inl (v3), .inl (v4), .inl (v5)] [] σ)) ?_ ox_fu (v3, v4, v5)
  intro s
  obtain ⟨v3, v4, v5⟩ := s
  unfold B_Mod_tagsFrom_51
  refine ox_R_to 5 (Y := if 0 ≤ v1 ∧ v1.toNat < 60 then ox_ev m_Mod_tagsFrom (ox_zz ox_ms (n + 2)) 59 0 tl [.inr (.inr (10, 0, 0)), .inl (v1), ox_d, .inl (v3), .inl (v4), .inl (v5)] [.inl (σ 10 0 1 v1.toNat), .inl (v5)] σ else none) rfl ?_
  refine ox_R_if (fun _ => ?_) (fun _ => ox_R_none)
  refine ox_R_to 1 (Y := if (σ 10 0 1 v1.toNat) ≤ v5 then ox_ev m_Mod_tagsFrom (ox_zz ox_ms (n + 2)) 130 0 tl [ox_d, ox_d, ox_d, .inl (v3), .inl (v4), ox_d] [] σ else ox_ev m_Mod_tagsFrom (ox_zz ox_ms (n + 2)) 62 0 tl [.inr (.inr (10, 0, 0)), .inl (v1), ox_d, .inl (v3), .inl (v4), .inl (v5)] [] σ) rfl ?_
  refine ox_R_if (fun _ => ?_) (fun _ => ?_)
  · exact ox_R_map ((L_Mod_tagsFrom_130 v3 v4 σ n tl))
  · refine ox_R_to 6 (Y := ox_back m_Mod_tagsFrom 69 1 [.inr (.inr (10, 0, 0)), .inl (v4)] ((ox_zz ox_ms (n + 2)) 46 tl [.inr (.inr (10, 0, 0)), .inl (v1), .inl (v5)] σ) (fun pc9 x9 st9 σ9 => ox_ev m_Mod_tagsFrom (ox_zz ox_ms (n + 2)) pc9 0 tl (ox_kl (m_Mod_tagsFrom.2.2.1 pc9) (ox_xl x9 [.inr (.inr (10, 0, 0)), .inl (v1), ox_d, .inl (v3), .inl (v4), .inl (v5)])) st9 σ9)) rfl ?_
    refine ox_R_call (fc := (fun r : Int => ((.inl (some (.inl r)), σ) : ox_O))) (L_Mod_look v1 v5 σ (n + 1) tl) (fun r2 => ?_)
    refine ox_R_of (Y := ox_ev m_Mod_tagsFrom (ox_zz ox_ms (n + 2)) 72 0 tl [.inr (.inr (10, 0, 0)), .inl (v1), ox_d, .inl (v3), .inl (v4), .inl (v5)] [.inl (r2), .inr (.inr (10, 0, 0)), .inl (v4)] σ) rfl ?_
    refine ox_R_to 1 (Y := ox_back m_Mod_tagsFrom 72 1 [.inl (v4)] ((ox_zz ox_ms (n + 2)) 47 tl [.inr (.inr (10, 0, 0)), .inl (r2)] σ) (fun pc9 x9 st9 σ9 => ox_ev m_Mod_tagsFrom (ox_zz ox_ms (n + 2)) pc9 0 tl (ox_kl (m_Mod_tagsFrom.2.2.1 pc9) (ox_xl x9 [.inr (.inr (10, 0, 0)), .inl (v1), ox_d, .inl (v3), .inl (v4), .inl (v5)])) st9 σ9)) rfl ?_
    refine ox_R_call (fc := (fun r : Int => ((.inl (some (.inl r)), σ) : ox_O))) (L_Mod_isLetter r2 σ (n + 0) tl) (fun r3 => ?_)
    refine ox_R_of (Y := ox_ev m_Mod_tagsFrom (ox_zz ox_ms (n + 2)) 75 0 tl [.inr (.inr (10, 0, 0)), .inl (v1), ox_d, .inl (v3), .inl (v4), .inl (v5)] [.inl (r3), .inl (v4)] σ) rfl ?_
    refine ox_R_to 1 (Y := if r3 = 0 then ox_ev m_Mod_tagsFrom (ox_zz ox_ms (n + 2)) 96 0 tl [.inr (.inr (10, 0, 0)), .inl (v1), ox_d, .inl (v3), ox_d, .inl (v5)] [.inl (v4)] σ else ox_ev m_Mod_tagsFrom (ox_zz ox_ms (n + 2)) 78 0 tl [.inr (.inr (10, 0, 0)), .inl (v1), ox_d, .inl (v3), .inl (v4), .inl (v5)] [.inl (v4)] σ) rfl ?_
    refine ox_R_if (fun _ => ?_) (fun _ => ?_)
    · exact (L_Mod_tagsFrom_96 v1 v3 v5 v4 σ n tl)
    · refine ox_R_to 6 (Y := ox_back m_Mod_tagsFrom 84 1 [.inl (v4)] ((ox_zz ox_ms (n + 2)) 46 tl [.inr (.inr (10, 0, 0)), .inl (v1), .inl (ox_w (v5 + 1))] σ) (fun pc9 x9 st9 σ9 => ox_ev m_Mod_tagsFrom (ox_zz ox_ms (n + 2)) pc9 0 tl (ox_kl (m_Mod_tagsFrom.2.2.1 pc9) (ox_xl x9 [.inr (.inr (10, 0, 0)), .inl (v1), ox_d, .inl (v3), .inl (v4), .inl (v5)])) st9 σ9)) rfl ?_
      refine ox_R_call (fc := (fun r : Int => ((.inl (some (.inl r)), σ) : ox_O))) (L_Mod_look v1 (ox_w (v5 + 1)) σ (n + 1) tl) (fun r4 => ?_)
      refine ox_R_of (Y := ox_ev m_Mod_tagsFrom (ox_zz ox_ms (n + 2)) 87 0 tl [.inr (.inr (10, 0, 0)), .inl (v1), ox_d, .inl (v3), .inl (v4), .inl (v5)] [.inl (r4), .inl (v4)] σ) rfl ?_
      refine ox_R_to 2 (Y := if r4 = 58 then ox_ev m_Mod_tagsFrom (ox_zz ox_ms (n + 2)) 92 0 tl [.inr (.inr (10, 0, 0)), .inl (v1), ox_d, .inl (v3), .inl (v4), .inl (v5)] [.inl (v4)] σ else ox_ev m_Mod_tagsFrom (ox_zz ox_ms (n + 2)) 96 0 tl [.inr (.inr (10, 0, 0)), .inl (v1), ox_d, .inl (v3), ox_d, .inl (v5)] [.inl (v4)] σ) rfl ?_
      refine ox_R_if (fun _ => ?_) (fun _ => ?_)
      · refine ox_R_to 2 (Y := ox_ev m_Mod_tagsFrom (ox_zz ox_ms (n + 2)) 97 0 tl [.inr (.inr (10, 0, 0)), .inl (v1), ox_d, .inl (v3), ox_d, .inl (v5)] [.inl (1), .inl (v4)] σ) rfl ?_
        exact (L_Mod_tagsFrom_97 v1 v3 v5 1 v4 σ n tl)
      · exact (L_Mod_tagsFrom_96 v1 v3 v5 v4 σ n tl)
def J_Mod_tagsFrom_44  (v1 : Int) (v2 : Int) (v3 : Int) (s0 : Int) (σ : ox_H) : Option Int := (J_Mod_tagsFrom_51 v1 v3 s0 (ox_w (v2 + 1)) σ)
theorem L_Mod_tagsFrom_44  (v1 : Int) (v2 : Int) (v3 : Int) (s0 : Int) (σ : ox_H) (n tl : Nat) : ox_R (fun r => some ((fun r : Int => ((.inl (some (.inl r)), σ) : ox_O)) r)) (J_Mod_tagsFrom_44 v1 v2 v3 s0 σ) (ox_ev m_Mod_tagsFrom (ox_zz ox_ms (n + 2)) 44 0 tl [.inr (.inr (10, 0, 0)), .inl (v1), .inl (v2), .inl (v3), ox_d, ox_d] [.inl (s0)] σ) := by
  unfold J_Mod_tagsFrom_44
  refine ox_R_to 5 (Y := ox_ev m_Mod_tagsFrom (ox_zz ox_ms (n + 2)) 51 0 tl [.inr (.inr (10, 0, 0)), .inl (v1), ox_d, .inl (v3), .inl (s0), .inl (ox_w (v2 + 1))] [] σ) rfl ?_
  exact (L_Mod_tagsFrom_51 v1 v3 s0 (ox_w (v2 + 1)) σ n tl)
def J_Mod_tagsFrom_43  (v1 : Int) (v2 : Int) (v3 : Int) (σ : ox_H) : Option Int := (J_Mod_tagsFrom_44 v1 v2 v3 0 σ)
theorem L_Mod_tagsFrom_43  (v1 : Int) (v2 : Int) (v3 : Int) (σ : ox_H) (n tl : Nat) : ox_R (fun r => some ((fun r : Int => ((.inl (some (.inl r)), σ) : ox_O)) r)) (J_Mod_tagsFrom_43 v1 v2 v3 σ) (ox_ev m_Mod_tagsFrom (ox_zz ox_ms (n + 2)) 43 0 tl [.inr (.inr (10, 0, 0)), .inl (v1), .inl (v2), .inl (v3), ox_d, ox_d] [] σ) := by
  unfold J_Mod_tagsFrom_43
  refine ox_R_to 1 (Y := ox_ev m_Mod_tagsFrom (ox_zz ox_ms (n + 2)) 44 0 tl [.inr (.inr (10, 0, 0)), .inl (v1), .inl (v2), .inl (v3), ox_d, ox_d] [.inl (0)] σ) rfl ?_
  exact (L_Mod_tagsFrom_44 v1 v2 v3 0 σ n tl)
def F_Mod_tagsFrom  (a1 : Int) (a2 : Int) (σ : ox_H) : Option (Int) := (F_Mod_look a1 a2 σ).bind fun r5 => (if r5 = 58 then (if 0 ≤ a1 ∧ a1.toNat < 60 then (if (ox_w ((σ 10 0 1 a1.toNat) - a2)) < 3 then (J_Mod_tagsFrom_43 a1 a2 0 σ) else (if 0 ≤ a1 ∧ a1.toNat < 60 then (if (Int.tmod (ox_w ((σ 10 0 1 a1.toNat) - a2)) 2) = 1 then (J_Mod_tagsFrom_44 a1 a2 0 1 σ) else (J_Mod_tagsFrom_43 a1 a2 0 σ)) else none)) else none) else (J_Mod_tagsFrom_43 a1 a2 0 σ))
theorem L_Mod_tagsFrom  (a1 : Int) (a2 : Int) (σ : ox_H) (n tl : Nat) : ox_R (fun r => some ((fun r : Int => ((.inl (some (.inl r)), σ) : ox_O)) r)) (F_Mod_tagsFrom a1 a2 σ) (ox_zz ox_ms (n + 3) 54 tl [.inr (.inr (10, 0, 0)), .inl (a1), .inl (a2)] σ) := by
  unfold F_Mod_tagsFrom
  refine ox_R_of (Y := ox_ev m_Mod_tagsFrom (ox_zz ox_ms (n + 2)) 0 0 tl [.inr (.inr (10, 0, 0)), .inl (a1), .inl (a2), ox_d, ox_d, ox_d] [] σ) rfl ?_
  refine ox_R_to 6 (Y := ox_back m_Mod_tagsFrom 5 1 [] ((ox_zz ox_ms (n + 2)) 46 tl [.inr (.inr (10, 0, 0)), .inl (a1), .inl (a2)] σ) (fun pc9 x9 st9 σ9 => ox_ev m_Mod_tagsFrom (ox_zz ox_ms (n + 2)) pc9 0 tl (ox_kl (m_Mod_tagsFrom.2.2.1 pc9) (ox_xl x9 [.inr (.inr (10, 0, 0)), .inl (a1), .inl (a2), .inl (0), ox_d, ox_d])) st9 σ9)) rfl ?_
  refine ox_R_call (fc := (fun r : Int => ((.inl (some (.inl r)), σ) : ox_O))) (L_Mod_look a1 a2 σ (n + 1) tl) (fun r5 => ?_)
  refine ox_R_of (Y := ox_ev m_Mod_tagsFrom (ox_zz ox_ms (n + 2)) 8 0 tl [.inr (.inr (10, 0, 0)), .inl (a1), .inl (a2), .inl (0), ox_d, ox_d] [.inl (r5)] σ) rfl ?_
  refine ox_R_to 2 (Y := if r5 = 58 then ox_ev m_Mod_tagsFrom (ox_zz ox_ms (n + 2)) 13 0 tl [.inr (.inr (10, 0, 0)), .inl (a1), .inl (a2), .inl (0), ox_d, ox_d] [] σ else ox_ev m_Mod_tagsFrom (ox_zz ox_ms (n + 2)) 43 0 tl [.inr (.inr (10, 0, 0)), .inl (a1), .inl (a2), .inl (0), ox_d, ox_d] [] σ) rfl ?_
  refine ox_R_if (fun _ => ?_) (fun _ => ?_)
  · refine ox_R_to 4 (Y := if 0 ≤ a1 ∧ a1.toNat < 60 then ox_ev m_Mod_tagsFrom (ox_zz ox_ms (n + 2)) 19 0 tl [.inr (.inr (10, 0, 0)), .inl (a1), .inl (a2), .inl (0), ox_d, ox_d] [.inl (σ 10 0 1 a1.toNat)] σ else none) rfl ?_
    refine ox_R_if (fun _ => ?_) (fun _ => ox_R_none)
    refine ox_R_to 4 (Y := if (ox_w ((σ 10 0 1 a1.toNat) - a2)) < 3 then ox_ev m_Mod_tagsFrom (ox_zz ox_ms (n + 2)) 43 0 tl [.inr (.inr (10, 0, 0)), .inl (a1), .inl (a2), .inl (0), ox_d, ox_d] [] σ else ox_ev m_Mod_tagsFrom (ox_zz ox_ms (n + 2)) 25 0 tl [.inr (.inr (10, 0, 0)), .inl (a1), .inl (a2), .inl (0), ox_d, ox_d] [] σ) rfl ?_
    refine ox_R_if (fun _ => ?_) (fun _ => ?_)
    · exact (L_Mod_tagsFrom_43 a1 a2 0 σ n tl)
    · refine ox_R_to 4 (Y := if 0 ≤ a1 ∧ a1.toNat < 60 then ox_ev m_Mod_tagsFrom (ox_zz ox_ms (n + 2)) 31 0 tl [.inr (.inr (10, 0, 0)), .inl (a1), .inl (a2), .inl (0), ox_d, ox_d] [.inl (σ 10 0 1 a1.toNat)] σ else none) rfl ?_
      refine ox_R_if (fun _ => ?_) (fun _ => ox_R_none)
      refine ox_R_to 6 (Y := if (Int.tmod (ox_w ((σ 10 0 1 a1.toNat) - a2)) 2) = 1 then ox_ev m_Mod_tagsFrom (ox_zz ox_ms (n + 2)) 39 0 tl [.inr (.inr (10, 0, 0)), .inl (a1), .inl (a2), .inl (0), ox_d, ox_d] [] σ else ox_ev m_Mod_tagsFrom (ox_zz ox_ms (n + 2)) 43 0 tl [.inr (.inr (10, 0, 0)), .inl (a1), .inl (a2), .inl (0), ox_d, ox_d] [] σ) rfl ?_
      refine ox_R_if (fun _ => ?_) (fun _ => ?_)
      · refine ox_R_to 2 (Y := ox_ev m_Mod_tagsFrom (ox_zz ox_ms (n + 2)) 44 0 tl [.inr (.inr (10, 0, 0)), .inl (a1), .inl (a2), .inl (0), ox_d, ox_d] [.inl (1)] σ) rfl ?_
        exact (L_Mod_tagsFrom_44 a1 a2 0 1 σ n tl)
      · exact (L_Mod_tagsFrom_43 a1 a2 0 σ n tl)
  · exact (L_Mod_tagsFrom_43 a1 a2 0 σ n tl)
def J_Mod_heading_59  (σ : ox_H) : Option (Int × ox_H) := some (0, σ)
theorem L_Mod_heading_59  (σ : ox_H) (n tl : Nat) : ox_R (fun r => some ((fun r : Int × ox_H => ((.inl (some (.inl r.1)), r.2) : ox_O)) r)) (J_Mod_heading_59 σ) (ox_ev m_Mod_heading (ox_zz ox_ms (n + 3)) 59 0 tl [ox_d, ox_d, ox_d] [] σ) := by
  unfold J_Mod_heading_59
  refine ox_R_to 2 (Y := some (.inl (some (.inl (0))), σ)) rfl ?_
  exact ox_R_ret rfl
def J_Mod_heading_211  (s0 : Int) (σ : ox_H) : Option (Int × ox_H) := some (1, (ox_up σ 10 0 15 0 s0))
theorem L_Mod_heading_211  (s0 : Int) (σ : ox_H) (n tl : Nat) : ox_R (fun r => some ((fun r : Int × ox_H => ((.inl (some (.inl r.1)), r.2) : ox_O)) r)) (J_Mod_heading_211 s0 σ) (ox_ev m_Mod_heading (ox_zz ox_ms (n + 3)) 211 0 tl [ox_d, ox_d, ox_d] [.inl (s0), .inr (.inr (10, 0, 0))] σ) := by
  unfold J_Mod_heading_211
  refine ox_R_to 3 (Y := some (.inl (some (.inl (1))), (ox_up σ 10 0 15 0 s0))) rfl ?_
  exact ox_R_ret rfl
def J_Mod_heading_190  (v1 : Int) (v2 : Int) (s0 : Int) (σ : ox_H) : Option (Int × ox_H) := if s0 = 0 then (if 0 ≤ v1 ∧ v1.toNat < 60 then (J_Mod_heading_211 (σ 10 0 1 v1.toNat) (ox_up σ 10 0 16 0 s0)) else none) else (J_Mod_heading_211 v2 (ox_up σ 10 0 16 0 s0))
theorem L_Mod_heading_190  (v1 : Int) (v2 : Int) (s0 : Int) (σ : ox_H) (n tl : Nat) : ox_R (fun r => some ((fun r : Int × ox_H => ((.inl (some (.inl r.1)), r.2) : ox_O)) r)) (J_Mod_heading_190 v1 v2 s0 σ) (ox_ev m_Mod_heading (ox_zz ox_ms (n + 3)) 190 0 tl [.inr (.inr (10, 0, 0)), .inl (v1), .inl (v2)] [.inl (s0), .inr (.inr (10, 0, 0))] σ) := by
  unfold J_Mod_heading_190
  refine ox_R_to 5 (Y := if s0 = 0 then ox_ev m_Mod_heading (ox_zz ox_ms (n + 3)) 201 0 tl [.inr (.inr (10, 0, 0)), .inl (v1), .inl (v2)] [.inr (.inr (10, 0, 0))] (ox_up σ 10 0 16 0 s0) else ox_ev m_Mod_heading (ox_zz ox_ms (n + 3)) 210 0 tl [.inr (.inr (10, 0, 0)), .inl (v1), .inl (v2)] [.inr (.inr (10, 0, 0))] (ox_up σ 10 0 16 0 s0)) rfl ?_
  refine ox_R_if (fun _ => ?_) (fun _ => ?_)
  · refine ox_R_to 4 (Y := if 0 ≤ v1 ∧ v1.toNat < 60 then ox_ev m_Mod_heading (ox_zz ox_ms (n + 3)) 207 0 tl [.inr (.inr (10, 0, 0)), .inl (v1), .inl (v2)] [.inl (σ 10 0 1 v1.toNat), .inr (.inr (10, 0, 0))] (ox_up σ 10 0 16 0 s0) else none) rfl ?_
    refine ox_R_if (fun _ => ?_) (fun _ => ox_R_none)
    refine ox_R_to 1 (Y := ox_ev m_Mod_heading (ox_zz ox_ms (n + 3)) 211 0 tl [ox_d, ox_d, ox_d] [.inl (σ 10 0 1 v1.toNat), .inr (.inr (10, 0, 0))] (ox_up σ 10 0 16 0 s0)) rfl ?_
    exact (L_Mod_heading_211 (σ 10 0 1 v1.toNat) (ox_up σ 10 0 16 0 s0) n tl)
  · refine ox_R_to 1 (Y := ox_ev m_Mod_heading (ox_zz ox_ms (n + 3)) 211 0 tl [ox_d, ox_d, ox_d] [.inl (v2), .inr (.inr (10, 0, 0))] (ox_up σ 10 0 16 0 s0)) rfl ?_
    exact (L_Mod_heading_211 v2 (ox_up σ 10 0 16 0 s0) n tl)
def J_Mod_heading_169  (v1 : Int) (v2 : Int) (σ : ox_H) : Option (Int × ox_H) := if v2 < (σ 10 0 14 0) then (J_Mod_heading_190 v1 v2 0 σ) else ((F_Mod_tagsFrom v1 (ox_w (v2 + 1)) σ).bind fun r1 => (J_Mod_heading_190 v1 v2 r1 σ))
theorem L_Mod_heading_169  (v1 : Int) (v2 : Int) (σ : ox_H) (n tl : Nat) : ox_R (fun r => some ((fun r : Int × ox_H => ((.inl (some (.inl r.1)), r.2) : ox_O)) r)) (J_Mod_heading_169 v1 v2 σ) (ox_ev m_Mod_heading (ox_zz ox_ms (n + 3)) 169 0 tl [.inr (.inr (10, 0, 0)), .inl (v1), .inl (v2)] [] σ) := by
  unfold J_Mod_heading_169
  refine ox_R_to 5 (Y := if v2 < (σ 10 0 14 0) then ox_ev m_Mod_heading (ox_zz ox_ms (n + 3)) 189 0 tl [.inr (.inr (10, 0, 0)), .inl (v1), .inl (v2)] [.inr (.inr (10, 0, 0))] σ else ox_ev m_Mod_heading (ox_zz ox_ms (n + 3)) 178 0 tl [.inr (.inr (10, 0, 0)), .inl (v1), .inl (v2)] [.inr (.inr (10, 0, 0))] σ) rfl ?_
  refine ox_R_if (fun _ => ?_) (fun _ => ?_)
  · refine ox_R_to 1 (Y := ox_ev m_Mod_heading (ox_zz ox_ms (n + 3)) 190 0 tl [.inr (.inr (10, 0, 0)), .inl (v1), .inl (v2)] [.inl (0), .inr (.inr (10, 0, 0))] σ) rfl ?_
    exact (L_Mod_heading_190 v1 v2 0 σ n tl)
  · refine ox_R_to 6 (Y := ox_back m_Mod_heading 183 1 [.inr (.inr (10, 0, 0))] ((ox_zz ox_ms (n + 3)) 54 tl [.inr (.inr (10, 0, 0)), .inl (v1), .inl (ox_w (v2 + 1))] σ) (fun pc9 x9 st9 σ9 => ox_ev m_Mod_heading (ox_zz ox_ms (n + 3)) pc9 0 tl (ox_kl (m_Mod_heading.2.2.1 pc9) (ox_xl x9 [.inr (.inr (10, 0, 0)), .inl (v1), .inl (v2)])) st9 σ9)) rfl ?_
    refine ox_R_call (fc := (fun r : Int => ((.inl (some (.inl r)), σ) : ox_O))) (L_Mod_tagsFrom v1 (ox_w (v2 + 1)) σ (n + 0) tl) (fun r1 => ?_)
    refine ox_R_of (Y := ox_ev m_Mod_heading (ox_zz ox_ms (n + 3)) 186 0 tl [.inr (.inr (10, 0, 0)), .inl (v1), .inl (v2)] [.inl (r1), .inr (.inr (10, 0, 0))] σ) rfl ?_
    refine ox_R_to 1 (Y := ox_ev m_Mod_heading (ox_zz ox_ms (n + 3)) 190 0 tl [.inr (.inr (10, 0, 0)), .inl (v1), .inl (v2)] [.inl (r1), .inr (.inr (10, 0, 0))] σ) rfl ?_
    exact (L_Mod_heading_190 v1 v2 r1 σ n tl)
def B_Mod_heading_144  (v1 : Int) (σ : ox_H) : (Int) → Option (((Int) ⊕ Int × ox_H)) := fun v2 => if v2 < (σ 10 0 14 0) then ((J_Mod_heading_169 v1 v2 σ).map .inr) else ((F_Mod_look v1 v2 σ).bind fun r2 => (if r2 = 32 then ((J_Mod_heading_169 v1 v2 σ).map .inr) else (some (.inl (ox_w (v2 + (-1)))))))
def J_Mod_heading_144  (v1 : Int) (v2 : Int) (σ : ox_H) : Option (Int × ox_H) := ox_lp (B_Mod_heading_144 v1 σ) ox_fu v2
theorem L_Mod_heading_144  (v1 : Int) (v2 : Int) (σ : ox_H) (n tl : Nat) : ox_R (fun r => some ((fun r : Int × ox_H => ((.inl (some (.inl r.1)), r.2) : ox_O)) r)) (J_Mod_heading_144 v1 v2 σ) (ox_ev m_Mod_heading (ox_zz ox_ms (n + 3)) 144 0 tl [.inr (.inr (10, 0, 0)), .inl (v1), .inl (v2)] [] σ) := by
  unfold J_Mod_heading_144
  refine ox_R_lp (ψ := (fun (v2 : Int) => ox_ev m_Mod_heading (ox_zz ox_ms (n + 3)) 144 0 tl [.inr (.inr (10, 0, 0)), .inl (v1), .inl (v2)] [] σ)) ?_ ox_fu v2
  intro s
  revert s; intro v2
  unfold B_Mod_heading_144
  refine ox_R_to 4 (Y := if v2 < (σ 10 0 14 0) then ox_ev m_Mod_heading (ox_zz ox_ms (n + 3)) 169 0 tl [.inr (.inr (10, 0, 0)), .inl (v1), .inl (v2)] [] σ else ox_ev m_Mod_heading (ox_zz ox_ms (n + 3)) 152 0 tl [.inr (.inr (10, 0, 0)), .inl (v1), .inl (v2)] [] σ) rfl ?_
  refine ox_R_if (fun _ => ?_) (fun _ => ?_)
  · exact ox_R_map ((L_Mod_heading_169 v1 v2 σ n tl))
  · refine ox_R_to 4 (Y := ox_back m_Mod_heading 155 1 [] ((ox_zz ox_ms (n + 3)) 46 tl [.inr (.inr (10, 0, 0)), .inl (v1), .inl (v2)] σ) (fun pc9 x9 st9 σ9 => ox_ev m_Mod_heading (ox_zz ox_ms (n + 3)) pc9 0 tl (ox_kl (m_Mod_heading.2.2.1 pc9) (ox_xl x9 [.inr (.inr (10, 0, 0)), .inl (v1), .inl (v2)])) st9 σ9)) rfl ?_
    refine ox_R_call (fc := (fun r : Int => ((.inl (some (.inl r)), σ) : ox_O))) (L_Mod_look v1 v2 σ (n + 2) tl) (fun r2 => ?_)
    refine ox_R_of (Y := ox_ev m_Mod_heading (ox_zz ox_ms (n + 3)) 158 0 tl [.inr (.inr (10, 0, 0)), .inl (v1), .inl (v2)] [.inl (r2)] σ) rfl ?_
    refine ox_R_to 2 (Y := if r2 = 32 then ox_ev m_Mod_heading (ox_zz ox_ms (n + 3)) 169 0 tl [.inr (.inr (10, 0, 0)), .inl (v1), .inl (v2)] [] σ else ox_ev m_Mod_heading (ox_zz ox_ms (n + 3)) 163 0 tl [.inr (.inr (10, 0, 0)), .inl (v1), .inl (v2)] [] σ) rfl ?_
    refine ox_R_if (fun _ => ?_) (fun _ => ?_)
    · exact ox_R_map ((L_Mod_heading_169 v1 v2 σ n tl))
    · refine ox_R_to 2 (Y := ox_ev m_Mod_heading (ox_zz ox_ms (n + 3)) 144 0 tl [.inr (.inr (10, 0, 0)), .inl (v1), .inl (ox_w (v2 + (-1)))] [] σ) rfl ?_
      exact ox_R_ret rfl
def J_Mod_heading_131  (v1 : Int) (s0 : Int) (s1 : Int) (σ : ox_H) : Option (Int × ox_H) := if 0 ≤ v1 ∧ v1.toNat < 60 then (J_Mod_heading_144 v1 (ox_w ((σ 10 0 1 v1.toNat) - 1)) (ox_up σ 10 0 14 0 (ox_w (s1 + s0)))) else none
theorem L_Mod_heading_131  (v1 : Int) (s0 : Int) (s1 : Int) (σ : ox_H) (n tl : Nat) : ox_R (fun r => some ((fun r : Int × ox_H => ((.inl (some (.inl r.1)), r.2) : ox_O)) r)) (J_Mod_heading_131 v1 s0 s1 σ) (ox_ev m_Mod_heading (ox_zz ox_ms (n + 3)) 131 0 tl [.inr (.inr (10, 0, 0)), .inl (v1), ox_d] [.inl (s0), .inl (s1), .inr (.inr (10, 0, 0))] σ) := by
  unfold J_Mod_heading_131
  refine ox_R_to 6 (Y := if 0 ≤ v1 ∧ v1.toNat < 60 then ox_ev m_Mod_heading (ox_zz ox_ms (n + 3)) 141 0 tl [.inr (.inr (10, 0, 0)), .inl (v1), ox_d] [.inl (σ 10 0 1 v1.toNat)] (ox_up σ 10 0 14 0 (ox_w (s1 + s0))) else none) rfl ?_
  refine ox_R_if (fun _ => ?_) (fun _ => ox_R_none)
  refine ox_R_to 3 (Y := ox_ev m_Mod_heading (ox_zz ox_ms (n + 3)) 144 0 tl [.inr (.inr (10, 0, 0)), .inl (v1), .inl (ox_w ((σ 10 0 1 v1.toNat) - 1))] [] (ox_up σ 10 0 14 0 (ox_w (s1 + s0)))) rfl ?_
  exact (L_Mod_heading_144 v1 (ox_w ((σ 10 0 1 v1.toNat) - 1)) (ox_up σ 10 0 14 0 (ox_w (s1 + s0))) n tl)
def J_Mod_heading_114  (v1 : Int) (σ : ox_H) : Option (Int × ox_H) := if 0 ≤ (σ 10 0 13 0) then (J_Mod_heading_131 v1 5 (σ 10 0 14 0) σ) else (J_Mod_heading_131 v1 0 (σ 10 0 14 0) σ)
theorem L_Mod_heading_114  (v1 : Int) (σ : ox_H) (n tl : Nat) : ox_R (fun r => some ((fun r : Int × ox_H => ((.inl (some (.inl r.1)), r.2) : ox_O)) r)) (J_Mod_heading_114 v1 σ) (ox_ev m_Mod_heading (ox_zz ox_ms (n + 3)) 114 0 tl [.inr (.inr (10, 0, 0)), .inl (v1), ox_d] [] σ) := by
  unfold J_Mod_heading_114
  refine ox_R_to 6 (Y := if 0 ≤ (σ 10 0 13 0) then ox_ev m_Mod_heading (ox_zz ox_ms (n + 3)) 130 0 tl [.inr (.inr (10, 0, 0)), .inl (v1), ox_d] [.inl (σ 10 0 14 0), .inr (.inr (10, 0, 0))] σ else ox_ev m_Mod_heading (ox_zz ox_ms (n + 3)) 126 0 tl [.inr (.inr (10, 0, 0)), .inl (v1), ox_d] [.inl (σ 10 0 14 0), .inr (.inr (10, 0, 0))] σ) rfl ?_
  refine ox_R_if (fun _ => ?_) (fun _ => ?_)
  · refine ox_R_to 1 (Y := ox_ev m_Mod_heading (ox_zz ox_ms (n + 3)) 131 0 tl [.inr (.inr (10, 0, 0)), .inl (v1), ox_d] [.inl (5), .inl (σ 10 0 14 0), .inr (.inr (10, 0, 0))] σ) rfl ?_
    exact (L_Mod_heading_131 v1 5 (σ 10 0 14 0) σ n tl)
  · refine ox_R_to 2 (Y := ox_ev m_Mod_heading (ox_zz ox_ms (n + 3)) 131 0 tl [.inr (.inr (10, 0, 0)), .inl (v1), ox_d] [.inl (0), .inl (σ 10 0 14 0), .inr (.inr (10, 0, 0))] σ) rfl ?_
    exact (L_Mod_heading_131 v1 0 (σ 10 0 14 0) σ n tl)
def J_Mod_heading_105  (v1 : Int) (v2 : Int) (s0 : Int) (σ : ox_H) : Option (((Int × ox_H) ⊕ Int × ox_H)) := some (.inl (ox_w (v2 + 1), (ox_up σ 10 0 13 0 s0)))
theorem L_Mod_heading_105  (v1 : Int) (v2 : Int) (s0 : Int) (σ : ox_H) (n tl : Nat) : ox_R (Sum.elim (fun (s : Int × ox_H) => match s with | (v2, σ) => ox_ev m_Mod_heading (ox_zz ox_ms (n + 3)) 78 0 tl [.inr (.inr (10, 0, 0)), .inl (v1), .inl (v2)] [] σ) (fun r => some ((fun r : Int × ox_H => ((.inl (some (.inl r.1)), r.2) : ox_O)) r))) (J_Mod_heading_105 v1 v2 s0 σ) (ox_ev m_Mod_heading (ox_zz ox_ms (n + 3)) 105 0 tl [.inr (.inr (10, 0, 0)), .inl (v1), .inl (v2)] [.inl (s0), .inr (.inr (10, 0, 0))] σ) := by
  unfold J_Mod_heading_105
  refine ox_R_to 3 (Y := ox_ev m_Mod_heading (ox_zz ox_ms (n + 3)) 78 0 tl [.inr (.inr (10, 0, 0)), .inl (v1), .inl (ox_w (v2 + 1))] [] (ox_up σ 10 0 13 0 s0)) rfl ?_
  exact ox_R_ret rfl
def B_Mod_heading_78  (v1 : Int) : (Int × ox_H) → Option (((Int × ox_H) ⊕ Int × ox_H)) := fun (v2, σ) => if 4 ≤ v2 then ((J_Mod_heading_114 v1 σ).map .inr) else ((F_Mod_isWord v1 (σ 10 0 14 0) v2 σ).bind fun r3 => (if r3 = 0 then (J_Mod_heading_105 v1 v2 (σ 10 0 13 0) σ) else (J_Mod_heading_105 v1 v2 v2 σ)))
def J_Mod_heading_78  (v1 : Int) (v2 : Int) (σ : ox_H) : Option (Int × ox_H) := ox_lp (B_Mod_heading_78 v1) ox_fu (v2, σ)
theorem L_Mod_heading_78  (v1 : Int) (v2 : Int) (σ : ox_H) (n tl : Nat) : ox_R (fun r => some ((fun r : Int × ox_H => ((.inl (some (.inl r.1)), r.2) : ox_O)) r)) (J_Mod_heading_78 v1 v2 σ) (ox_ev m_Mod_heading (ox_zz ox_ms (n + 3)) 78 0 tl [.inr (.inr (10, 0, 0)), .inl (v1), .inl (v2)] [] σ) := by
  unfold J_Mod_heading_78
  refine ox_R_lp (ψ := (fun (s : Int × ox_H) => match s with | (v2, σ) => ox_ev m_Mod_heading (ox_zz ox_ms (n + 3)) 78 0 tl [.inr (.inr (10, 0, 0)), .inl (v1), .inl (v2)] [] σ)) ?_ ox_fu (v2, σ)
  intro s
  obtain ⟨v2, σ⟩ := s
  unfold B_Mod_heading_78
  refine ox_R_to 3 (Y := if 4 ≤ v2 then ox_ev m_Mod_heading (ox_zz ox_ms (n + 3)) 114 0 tl [.inr (.inr (10, 0, 0)), .inl (v1), ox_d] [] σ else ox_ev m_Mod_heading (ox_zz ox_ms (n + 3)) 83 0 tl [.inr (.inr (10, 0, 0)), .inl (v1), .inl (v2)] [] σ) rfl ?_
  refine ox_R_if (fun _ => ?_) (fun _ => ?_)
  · exact ox_R_map ((L_Mod_heading_114 v1 σ n tl))
  · refine ox_R_to 7 (Y := ox_back m_Mod_heading 91 1 [.inr (.inr (10, 0, 0))] ((ox_zz ox_ms (n + 3)) 53 tl [.inr (.inr (10, 0, 0)), .inl (v1), .inl (σ 10 0 14 0), .inl (v2)] σ) (fun pc9 x9 st9 σ9 => ox_ev m_Mod_heading (ox_zz ox_ms (n + 3)) pc9 0 tl (ox_kl (m_Mod_heading.2.2.1 pc9) (ox_xl x9 [.inr (.inr (10, 0, 0)), .inl (v1), .inl (v2)])) st9 σ9)) rfl ?_
    refine ox_R_call (fc := (fun r : Int => ((.inl (some (.inl r)), σ) : ox_O))) (L_Mod_isWord v1 (σ 10 0 14 0) v2 σ (n + 1) tl) (fun r3 => ?_)
    refine ox_R_of (Y := ox_ev m_Mod_heading (ox_zz ox_ms (n + 3)) 94 0 tl [.inr (.inr (10, 0, 0)), .inl (v1), .inl (v2)] [.inl (r3), .inr (.inr (10, 0, 0))] σ) rfl ?_
    refine ox_R_to 1 (Y := if r3 = 0 then ox_ev m_Mod_heading (ox_zz ox_ms (n + 3)) 101 0 tl [.inr (.inr (10, 0, 0)), .inl (v1), .inl (v2)] [.inr (.inr (10, 0, 0))] σ else ox_ev m_Mod_heading (ox_zz ox_ms (n + 3)) 97 0 tl [.inr (.inr (10, 0, 0)), .inl (v1), .inl (v2)] [.inr (.inr (10, 0, 0))] σ) rfl ?_
    refine ox_R_if (fun _ => ?_) (fun _ => ?_)
    · refine ox_R_to 2 (Y := ox_ev m_Mod_heading (ox_zz ox_ms (n + 3)) 105 0 tl [.inr (.inr (10, 0, 0)), .inl (v1), .inl (v2)] [.inl (σ 10 0 13 0), .inr (.inr (10, 0, 0))] σ) rfl ?_
      exact (L_Mod_heading_105 v1 v2 (σ 10 0 13 0) σ n tl)
    · refine ox_R_to 2 (Y := ox_ev m_Mod_heading (ox_zz ox_ms (n + 3)) 105 0 tl [.inr (.inr (10, 0, 0)), .inl (v1), .inl (v2)] [.inl (v2), .inr (.inr (10, 0, 0))] σ) rfl ?_
      exact (L_Mod_heading_105 v1 v2 v2 σ n tl)
def J_Mod_heading_32  (v1 : Int) (σ : ox_H) : Option (Int × ox_H) := (F_Mod_in (σ 10 0 12 0) 1 5 σ).bind fun r4 => (if r4 = 0 then (J_Mod_heading_59 σ) else ((F_Mod_look v1 (σ 10 0 12 0) σ).bind fun r5 => (if r5 = 32 then (J_Mod_heading_78 v1 0 (ox_up (ox_up σ 10 0 14 0 (ox_w ((σ 10 0 12 0) + 1))) 10 0 13 0 (-1))) else (J_Mod_heading_59 σ))))
theorem L_Mod_heading_32  (v1 : Int) (σ : ox_H) (n tl : Nat) : ox_R (fun r => some ((fun r : Int × ox_H => ((.inl (some (.inl r.1)), r.2) : ox_O)) r)) (J_Mod_heading_32 v1 σ) (ox_ev m_Mod_heading (ox_zz ox_ms (n + 3)) 32 0 tl [.inr (.inr (10, 0, 0)), .inl (v1), ox_d] [] σ) := by
  unfold J_Mod_heading_32
  refine ox_R_to 6 (Y := ox_back m_Mod_heading 39 1 [] ((ox_zz ox_ms (n + 3)) 44 tl [.inr (.inr (10, 0, 0)), .inl (σ 10 0 12 0), .inl (1), .inl (5)] σ) (fun pc9 x9 st9 σ9 => ox_ev m_Mod_heading (ox_zz ox_ms (n + 3)) pc9 0 tl (ox_kl (m_Mod_heading.2.2.1 pc9) (ox_xl x9 [.inr (.inr (10, 0, 0)), .inl (v1), ox_d])) st9 σ9)) rfl ?_
  refine ox_R_call (fc := (fun r : Int => ((.inl (some (.inl r)), σ) : ox_O))) (L_Mod_in (σ 10 0 12 0) 1 5 σ (n + 2) tl) (fun r4 => ?_)
  refine ox_R_of (Y := ox_ev m_Mod_heading (ox_zz ox_ms (n + 3)) 42 0 tl [.inr (.inr (10, 0, 0)), .inl (v1), ox_d] [.inl (r4)] σ) rfl ?_
  refine ox_R_to 1 (Y := if r4 = 0 then ox_ev m_Mod_heading (ox_zz ox_ms (n + 3)) 59 0 tl [ox_d, ox_d, ox_d] [] σ else ox_ev m_Mod_heading (ox_zz ox_ms (n + 3)) 45 0 tl [.inr (.inr (10, 0, 0)), .inl (v1), ox_d] [] σ) rfl ?_
  refine ox_R_if (fun _ => ?_) (fun _ => ?_)
  · exact (L_Mod_heading_59 σ n tl)
  · refine ox_R_to 5 (Y := ox_back m_Mod_heading 51 1 [] ((ox_zz ox_ms (n + 3)) 46 tl [.inr (.inr (10, 0, 0)), .inl (v1), .inl (σ 10 0 12 0)] σ) (fun pc9 x9 st9 σ9 => ox_ev m_Mod_heading (ox_zz ox_ms (n + 3)) pc9 0 tl (ox_kl (m_Mod_heading.2.2.1 pc9) (ox_xl x9 [.inr (.inr (10, 0, 0)), .inl (v1), ox_d])) st9 σ9)) rfl ?_
    refine ox_R_call (fc := (fun r : Int => ((.inl (some (.inl r)), σ) : ox_O))) (L_Mod_look v1 (σ 10 0 12 0) σ (n + 2) tl) (fun r5 => ?_)
    refine ox_R_of (Y := ox_ev m_Mod_heading (ox_zz ox_ms (n + 3)) 54 0 tl [.inr (.inr (10, 0, 0)), .inl (v1), ox_d] [.inl (r5)] σ) rfl ?_
    refine ox_R_to 2 (Y := if r5 = 32 then ox_ev m_Mod_heading (ox_zz ox_ms (n + 3)) 61 0 tl [.inr (.inr (10, 0, 0)), .inl (v1), ox_d] [] σ else ox_ev m_Mod_heading (ox_zz ox_ms (n + 3)) 59 0 tl [ox_d, ox_d, ox_d] [] σ) rfl ?_
    refine ox_R_if (fun _ => ?_) (fun _ => ?_)
    · refine ox_R_to 11 (Y := ox_ev m_Mod_heading (ox_zz ox_ms (n + 3)) 78 0 tl [.inr (.inr (10, 0, 0)), .inl (v1), .inl (0)] [] (ox_up (ox_up σ 10 0 14 0 (ox_w ((σ 10 0 12 0) + 1))) 10 0 13 0 (-1))) rfl ?_
      exact (L_Mod_heading_78 v1 0 (ox_up (ox_up σ 10 0 14 0 (ox_w ((σ 10 0 12 0) + 1))) 10 0 13 0 (-1)) n tl)
    · exact (L_Mod_heading_59 σ n tl)
def B_Mod_heading_5  (v1 : Int) : (ox_H) → Option (((ox_H) ⊕ Int × ox_H)) := fun σ => (F_Mod_look v1 (σ 10 0 12 0) σ).bind fun r6 => (if r6 = 42 then (some (.inl (ox_up σ 10 0 12 0 (ox_w ((σ 10 0 12 0) + 1))))) else ((J_Mod_heading_32 v1 σ).map .inr))
def J_Mod_heading_5  (v1 : Int) (σ : ox_H) : Option (Int × ox_H) := ox_lp (B_Mod_heading_5 v1) ox_fu σ
theorem L_Mod_heading_5  (v1 : Int) (σ : ox_H) (n tl : Nat) : ox_R (fun r => some ((fun r : Int × ox_H => ((.inl (some (.inl r.1)), r.2) : ox_O)) r)) (J_Mod_heading_5 v1 σ) (ox_ev m_Mod_heading (ox_zz ox_ms (n + 3)) 5 0 tl [.inr (.inr (10, 0, 0)), .inl (v1), ox_d] [] σ) := by
  unfold J_Mod_heading_5
  refine ox_R_lp (ψ := (fun (σ : ox_H) => ox_ev m_Mod_heading (ox_zz ox_ms (n + 3)) 5 0 tl [.inr (.inr (10, 0, 0)), .inl (v1), ox_d] [] σ)) ?_ ox_fu σ
  intro s
  revert s; intro σ
  unfold B_Mod_heading_5
  refine ox_R_to 5 (Y := ox_back m_Mod_heading 11 1 [] ((ox_zz ox_ms (n + 3)) 46 tl [.inr (.inr (10, 0, 0)), .inl (v1), .inl (σ 10 0 12 0)] σ) (fun pc9 x9 st9 σ9 => ox_ev m_Mod_heading (ox_zz ox_ms (n + 3)) pc9 0 tl (ox_kl (m_Mod_heading.2.2.1 pc9) (ox_xl x9 [.inr (.inr (10, 0, 0)), .inl (v1), ox_d])) st9 σ9)) rfl ?_
  refine ox_R_call (fc := (fun r : Int => ((.inl (some (.inl r)), σ) : ox_O))) (L_Mod_look v1 (σ 10 0 12 0) σ (n + 2) tl) (fun r6 => ?_)
  refine ox_R_of (Y := ox_ev m_Mod_heading (ox_zz ox_ms (n + 3)) 14 0 tl [.inr (.inr (10, 0, 0)), .inl (v1), ox_d] [.inl (r6)] σ) rfl ?_
  refine ox_R_to 2 (Y := if r6 = 42 then ox_ev m_Mod_heading (ox_zz ox_ms (n + 3)) 19 0 tl [.inr (.inr (10, 0, 0)), .inl (v1), ox_d] [] σ else ox_ev m_Mod_heading (ox_zz ox_ms (n + 3)) 32 0 tl [.inr (.inr (10, 0, 0)), .inl (v1), ox_d] [] σ) rfl ?_
  refine ox_R_if (fun _ => ?_) (fun _ => ?_)
  · refine ox_R_to 7 (Y := ox_ev m_Mod_heading (ox_zz ox_ms (n + 3)) 5 0 tl [.inr (.inr (10, 0, 0)), .inl (v1), ox_d] [] (ox_up σ 10 0 12 0 (ox_w ((σ 10 0 12 0) + 1)))) rfl ?_
    exact ox_R_ret rfl
  · exact ox_R_map ((L_Mod_heading_32 v1 σ n tl))
def F_Mod_heading  (a1 : Int) (σ : ox_H) : Option (Int × ox_H) := (J_Mod_heading_5 a1 (ox_up σ 10 0 12 0 0))
theorem L_Mod_heading  (a1 : Int) (σ : ox_H) (n tl : Nat) : ox_R (fun r => some ((fun r : Int × ox_H => ((.inl (some (.inl r.1)), r.2) : ox_O)) r)) (F_Mod_heading a1 σ) (ox_zz ox_ms (n + 4) 55 tl [.inr (.inr (10, 0, 0)), .inl (a1)] σ) := by
  unfold F_Mod_heading
  refine ox_R_of (Y := ox_ev m_Mod_heading (ox_zz ox_ms (n + 3)) 0 0 tl [.inr (.inr (10, 0, 0)), .inl (a1), ox_d] [] σ) rfl ?_
  refine ox_R_to 3 (Y := ox_ev m_Mod_heading (ox_zz ox_ms (n + 3)) 5 0 tl [.inr (.inr (10, 0, 0)), .inl (a1), ox_d] [] (ox_up σ 10 0 12 0 0)) rfl ?_
  exact (L_Mod_heading_5 a1 (ox_up σ 10 0 12 0 0) n tl)
def J_Mod_isProperty_33  (σ : ox_H) : Option (Int × ox_H) := some (0, σ)
theorem L_Mod_isProperty_33  (σ : ox_H) (n tl : Nat) : ox_R (fun r => some ((fun r : Int × ox_H => ((.inl (some (.inl r.1)), r.2) : ox_O)) r)) (J_Mod_isProperty_33 σ) (ox_ev m_Mod_isProperty (ox_zz ox_ms (n + 3)) 33 0 tl [ox_d, ox_d] [] σ) := by
  unfold J_Mod_isProperty_33
  refine ox_R_to 2 (Y := some (.inl (some (.inl (0))), σ)) rfl ?_
  exact ox_R_ret rfl
def J_Mod_isProperty_64  (s0 : Int) (σ : ox_H) : Option (Int × ox_H) := some (s0 % 2, σ)
theorem L_Mod_isProperty_64  (s0 : Int) (σ : ox_H) (n tl : Nat) : ox_R (fun r => some ((fun r : Int × ox_H => ((.inl (some (.inl r.1)), r.2) : ox_O)) r)) (J_Mod_isProperty_64 s0 σ) (ox_ev m_Mod_isProperty (ox_zz ox_ms (n + 3)) 64 0 tl [ox_d, ox_d] [.inl (s0)] σ) := by
  unfold J_Mod_isProperty_64
  refine ox_R_to 1 (Y := some (.inl (some (.inl (s0 % 2))), σ)) rfl ?_
  exact ox_R_ret rfl
def J_Mod_isProperty_63  (σ : ox_H) : Option (Int × ox_H) := (J_Mod_isProperty_64 0 σ)
theorem L_Mod_isProperty_63  (σ : ox_H) (n tl : Nat) : ox_R (fun r => some ((fun r : Int × ox_H => ((.inl (some (.inl r.1)), r.2) : ox_O)) r)) (J_Mod_isProperty_63 σ) (ox_ev m_Mod_isProperty (ox_zz ox_ms (n + 3)) 63 0 tl [ox_d, ox_d] [] σ) := by
  unfold J_Mod_isProperty_63
  refine ox_R_to 1 (Y := ox_ev m_Mod_isProperty (ox_zz ox_ms (n + 3)) 64 0 tl [ox_d, ox_d] [.inl (0)] σ) rfl ?_
  exact (L_Mod_isProperty_64 0 σ n tl)
def F_Mod_isProperty  (a1 : Int) (σ : ox_H) : Option (Int × ox_H) := (F_Mod_takes a1 58 (ox_up σ 10 0 11 0 0)).bind fun r1 => (if r1.1 = 0 then (J_Mod_isProperty_33 r1.2) else ((F_Mod_letter a1 r1.2).bind fun r2 => (if r2.1 = 0 then (J_Mod_isProperty_33 r2.2) else ((F_Mod_takes a1 58 r2.2).bind fun r3 => (if r3.1 = 0 then (J_Mod_isProperty_33 r3.2) else ((F_Mod_number a1 r3.2).bind fun r4 => (if r4.1 < 0 then (J_Mod_isProperty_63 (ox_up r4.2 10 0 17 0 r4.1)) else ((F_Mod_ends a1 (ox_up r4.2 10 0 17 0 r4.1)).bind fun r5 => (if r5 = 0 then (J_Mod_isProperty_63 (ox_up r4.2 10 0 17 0 r4.1)) else (J_Mod_isProperty_64 1 (ox_up r4.2 10 0 17 0 r4.1)))))))))))
theorem L_Mod_isProperty  (a1 : Int) (σ : ox_H) (n tl : Nat) : ox_R (fun r => some ((fun r : Int × ox_H => ((.inl (some (.inl r.1)), r.2) : ox_O)) r)) (F_Mod_isProperty a1 σ) (ox_zz ox_ms (n + 4) 56 tl [.inr (.inr (10, 0, 0)), .inl (a1)] σ) := by
  unfold F_Mod_isProperty
  refine ox_R_of (Y := ox_ev m_Mod_isProperty (ox_zz ox_ms (n + 3)) 0 0 tl [.inr (.inr (10, 0, 0)), .inl (a1)] [] σ) rfl ?_
  refine ox_R_to 7 (Y := ox_back m_Mod_isProperty 9 1 [] ((ox_zz ox_ms (n + 3)) 50 tl [.inr (.inr (10, 0, 0)), .inl (a1), .inl (58)] (ox_up σ 10 0 11 0 0)) (fun pc9 x9 st9 σ9 => ox_ev m_Mod_isProperty (ox_zz ox_ms (n + 3)) pc9 0 tl (ox_kl (m_Mod_isProperty.2.2.1 pc9) (ox_xl x9 [.inr (.inr (10, 0, 0)), .inl (a1)])) st9 σ9)) rfl ?_
  refine ox_R_call (fc := (fun r : Int × ox_H => ((.inl (some (.inl r.1)), r.2) : ox_O))) (L_Mod_takes a1 58 (ox_up σ 10 0 11 0 0) (n + 1) tl) (fun r1 => ?_)
  refine ox_R_of (Y := ox_ev m_Mod_isProperty (ox_zz ox_ms (n + 3)) 12 0 tl [.inr (.inr (10, 0, 0)), .inl (a1)] [.inl (r1.1)] r1.2) rfl ?_
  refine ox_R_to 1 (Y := if r1.1 = 0 then ox_ev m_Mod_isProperty (ox_zz ox_ms (n + 3)) 33 0 tl [ox_d, ox_d] [] r1.2 else ox_ev m_Mod_isProperty (ox_zz ox_ms (n + 3)) 15 0 tl [.inr (.inr (10, 0, 0)), .inl (a1)] [] r1.2) rfl ?_
  refine ox_R_if (fun _ => ?_) (fun _ => ?_)
  · exact (L_Mod_isProperty_33 r1.2 n tl)
  · refine ox_R_to 3 (Y := ox_back m_Mod_isProperty 17 1 [] ((ox_zz ox_ms (n + 3)) 51 tl [.inr (.inr (10, 0, 0)), .inl (a1)] r1.2) (fun pc9 x9 st9 σ9 => ox_ev m_Mod_isProperty (ox_zz ox_ms (n + 3)) pc9 0 tl (ox_kl (m_Mod_isProperty.2.2.1 pc9) (ox_xl x9 [.inr (.inr (10, 0, 0)), .inl (a1)])) st9 σ9)) rfl ?_
    refine ox_R_call (fc := (fun r : Int × ox_H => ((.inl (some (.inl r.1)), r.2) : ox_O))) (L_Mod_letter a1 r1.2 (n + 0) tl) (fun r2 => ?_)
    refine ox_R_of (Y := ox_ev m_Mod_isProperty (ox_zz ox_ms (n + 3)) 20 0 tl [.inr (.inr (10, 0, 0)), .inl (a1)] [.inl (r2.1)] r2.2) rfl ?_
    refine ox_R_to 1 (Y := if r2.1 = 0 then ox_ev m_Mod_isProperty (ox_zz ox_ms (n + 3)) 33 0 tl [ox_d, ox_d] [] r2.2 else ox_ev m_Mod_isProperty (ox_zz ox_ms (n + 3)) 23 0 tl [.inr (.inr (10, 0, 0)), .inl (a1)] [] r2.2) rfl ?_
    refine ox_R_if (fun _ => ?_) (fun _ => ?_)
    · exact (L_Mod_isProperty_33 r2.2 n tl)
    · refine ox_R_to 4 (Y := ox_back m_Mod_isProperty 27 1 [] ((ox_zz ox_ms (n + 3)) 50 tl [.inr (.inr (10, 0, 0)), .inl (a1), .inl (58)] r2.2) (fun pc9 x9 st9 σ9 => ox_ev m_Mod_isProperty (ox_zz ox_ms (n + 3)) pc9 0 tl (ox_kl (m_Mod_isProperty.2.2.1 pc9) (ox_xl x9 [.inr (.inr (10, 0, 0)), .inl (a1)])) st9 σ9)) rfl ?_
      refine ox_R_call (fc := (fun r : Int × ox_H => ((.inl (some (.inl r.1)), r.2) : ox_O))) (L_Mod_takes a1 58 r2.2 (n + 1) tl) (fun r3 => ?_)
      refine ox_R_of (Y := ox_ev m_Mod_isProperty (ox_zz ox_ms (n + 3)) 30 0 tl [.inr (.inr (10, 0, 0)), .inl (a1)] [.inl (r3.1)] r3.2) rfl ?_
      refine ox_R_to 1 (Y := if r3.1 = 0 then ox_ev m_Mod_isProperty (ox_zz ox_ms (n + 3)) 33 0 tl [ox_d, ox_d] [] r3.2 else ox_ev m_Mod_isProperty (ox_zz ox_ms (n + 3)) 35 0 tl [.inr (.inr (10, 0, 0)), .inl (a1)] [] r3.2) rfl ?_
      refine ox_R_if (fun _ => ?_) (fun _ => ?_)
      · exact (L_Mod_isProperty_33 r3.2 n tl)
      · refine ox_R_to 4 (Y := ox_back m_Mod_isProperty 38 1 [.inr (.inr (10, 0, 0))] ((ox_zz ox_ms (n + 3)) 49 tl [.inr (.inr (10, 0, 0)), .inl (a1)] r3.2) (fun pc9 x9 st9 σ9 => ox_ev m_Mod_isProperty (ox_zz ox_ms (n + 3)) pc9 0 tl (ox_kl (m_Mod_isProperty.2.2.1 pc9) (ox_xl x9 [.inr (.inr (10, 0, 0)), .inl (a1)])) st9 σ9)) rfl ?_
        refine ox_R_call (fc := (fun r : Int × ox_H => ((.inl (some (.inl r.1)), r.2) : ox_O))) (L_Mod_number a1 r3.2 (n + 0) tl) (fun r4 => ?_)
        refine ox_R_of (Y := ox_ev m_Mod_isProperty (ox_zz ox_ms (n + 3)) 41 0 tl [.inr (.inr (10, 0, 0)), .inl (a1)] [.inl (r4.1), .inr (.inr (10, 0, 0))] r4.2) rfl ?_
        refine ox_R_to 4 (Y := if r4.1 < 0 then ox_ev m_Mod_isProperty (ox_zz ox_ms (n + 3)) 63 0 tl [ox_d, ox_d] [] (ox_up r4.2 10 0 17 0 r4.1) else ox_ev m_Mod_isProperty (ox_zz ox_ms (n + 3)) 51 0 tl [.inr (.inr (10, 0, 0)), .inl (a1)] [] (ox_up r4.2 10 0 17 0 r4.1)) rfl ?_
        refine ox_R_if (fun _ => ?_) (fun _ => ?_)
        · exact (L_Mod_isProperty_63 (ox_up r4.2 10 0 17 0 r4.1) n tl)
        · refine ox_R_to 3 (Y := ox_back m_Mod_isProperty 53 1 [] ((ox_zz ox_ms (n + 3)) 52 tl [.inr (.inr (10, 0, 0)), .inl (a1)] (ox_up r4.2 10 0 17 0 r4.1)) (fun pc9 x9 st9 σ9 => ox_ev m_Mod_isProperty (ox_zz ox_ms (n + 3)) pc9 0 tl (ox_kl (m_Mod_isProperty.2.2.1 pc9) (ox_xl x9 [.inr (.inr (10, 0, 0)), .inl (a1)])) st9 σ9)) rfl ?_
          refine ox_R_call (fc := (fun r : Int => ((.inl (some (.inl r)), (ox_up r4.2 10 0 17 0 r4.1)) : ox_O))) (L_Mod_ends a1 (ox_up r4.2 10 0 17 0 r4.1) (n + 2) tl) (fun r5 => ?_)
          refine ox_R_of (Y := ox_ev m_Mod_isProperty (ox_zz ox_ms (n + 3)) 56 0 tl [.inr (.inr (10, 0, 0)), .inl (a1)] [.inl (r5)] (ox_up r4.2 10 0 17 0 r4.1)) rfl ?_
          refine ox_R_to 1 (Y := if r5 = 0 then ox_ev m_Mod_isProperty (ox_zz ox_ms (n + 3)) 63 0 tl [ox_d, ox_d] [] (ox_up r4.2 10 0 17 0 r4.1) else ox_ev m_Mod_isProperty (ox_zz ox_ms (n + 3)) 59 0 tl [.inr (.inr (10, 0, 0)), .inl (a1)] [] (ox_up r4.2 10 0 17 0 r4.1)) rfl ?_
          refine ox_R_if (fun _ => ?_) (fun _ => ?_)
          · exact (L_Mod_isProperty_63 (ox_up r4.2 10 0 17 0 r4.1) n tl)
          · refine ox_R_to 2 (Y := ox_ev m_Mod_isProperty (ox_zz ox_ms (n + 3)) 64 0 tl [ox_d, ox_d] [.inl (1)] (ox_up r4.2 10 0 17 0 r4.1)) rfl ?_
            exact (L_Mod_isProperty_64 1 (ox_up r4.2 10 0 17 0 r4.1) n tl)
def J_Mod_date_195  (s0 : Int) (σ : ox_H) : Option (Int × ox_H) := some (s0 % 2, σ)
theorem L_Mod_date_195  (s0 : Int) (σ : ox_H) (n tl : Nat) : ox_R (fun r => some ((fun r : Int × ox_H => ((.inl (some (.inl r.1)), r.2) : ox_O)) r)) (J_Mod_date_195 s0 σ) (ox_ev m_Mod_date (ox_zz ox_ms (n + 3)) 195 0 tl [ox_d, ox_d, ox_d] [.inl (s0)] σ) := by
  unfold J_Mod_date_195
  refine ox_R_to 1 (Y := some (.inl (some (.inl (s0 % 2))), σ)) rfl ?_
  exact ox_R_ret rfl
def J_Mod_date_194  (σ : ox_H) : Option (Int × ox_H) := (J_Mod_date_195 0 σ)
theorem L_Mod_date_194  (σ : ox_H) (n tl : Nat) : ox_R (fun r => some ((fun r : Int × ox_H => ((.inl (some (.inl r.1)), r.2) : ox_O)) r)) (J_Mod_date_194 σ) (ox_ev m_Mod_date (ox_zz ox_ms (n + 3)) 194 0 tl [ox_d, ox_d, ox_d] [] σ) := by
  unfold J_Mod_date_194
  refine ox_R_to 1 (Y := ox_ev m_Mod_date (ox_zz ox_ms (n + 3)) 195 0 tl [ox_d, ox_d, ox_d] [.inl (0)] σ) rfl ?_
  exact (L_Mod_date_195 0 σ n tl)
def J_Mod_date_178  (v1 : Int) (v2 : Int) (σ : ox_H) : Option (Int × ox_H) := if v2 = 0 then (J_Mod_date_194 σ) else ((F_Mod_ends v1 σ).bind fun r1 => (if r1 = 0 then (J_Mod_date_194 σ) else (J_Mod_date_195 1 σ)))
theorem L_Mod_date_178  (v1 : Int) (v2 : Int) (σ : ox_H) (n tl : Nat) : ox_R (fun r => some ((fun r : Int × ox_H => ((.inl (some (.inl r.1)), r.2) : ox_O)) r)) (J_Mod_date_178 v1 v2 σ) (ox_ev m_Mod_date (ox_zz ox_ms (n + 3)) 178 0 tl [.inr (.inr (10, 0, 0)), .inl (v1), .inl (v2)] [] σ) := by
  unfold J_Mod_date_178
  refine ox_R_to 2 (Y := if v2 = 0 then ox_ev m_Mod_date (ox_zz ox_ms (n + 3)) 194 0 tl [ox_d, ox_d, ox_d] [] σ else ox_ev m_Mod_date (ox_zz ox_ms (n + 3)) 182 0 tl [.inr (.inr (10, 0, 0)), .inl (v1), .inl (v2)] [] σ) rfl ?_
  refine ox_R_if (fun _ => ?_) (fun _ => ?_)
  · exact (L_Mod_date_194 σ n tl)
  · refine ox_R_to 3 (Y := ox_back m_Mod_date 184 1 [] ((ox_zz ox_ms (n + 3)) 52 tl [.inr (.inr (10, 0, 0)), .inl (v1)] σ) (fun pc9 x9 st9 σ9 => ox_ev m_Mod_date (ox_zz ox_ms (n + 3)) pc9 0 tl (ox_kl (m_Mod_date.2.2.1 pc9) (ox_xl x9 [.inr (.inr (10, 0, 0)), .inl (v1), .inl (v2)])) st9 σ9)) rfl ?_
    refine ox_R_call (fc := (fun r : Int => ((.inl (some (.inl r)), σ) : ox_O))) (L_Mod_ends v1 σ (n + 2) tl) (fun r1 => ?_)
    refine ox_R_of (Y := ox_ev m_Mod_date (ox_zz ox_ms (n + 3)) 187 0 tl [.inr (.inr (10, 0, 0)), .inl (v1), .inl (v2)] [.inl (r1)] σ) rfl ?_
    refine ox_R_to 1 (Y := if r1 = 0 then ox_ev m_Mod_date (ox_zz ox_ms (n + 3)) 194 0 tl [ox_d, ox_d, ox_d] [] σ else ox_ev m_Mod_date (ox_zz ox_ms (n + 3)) 190 0 tl [.inr (.inr (10, 0, 0)), .inl (v1), .inl (v2)] [] σ) rfl ?_
    refine ox_R_if (fun _ => ?_) (fun _ => ?_)
    · exact (L_Mod_date_194 σ n tl)
    · refine ox_R_to 2 (Y := ox_ev m_Mod_date (ox_zz ox_ms (n + 3)) 195 0 tl [ox_d, ox_d, ox_d] [.inl (1)] σ) rfl ?_
      exact (L_Mod_date_195 1 σ n tl)
def J_Mod_date_174  (v1 : Int) (v2 : Int) (s0 : Int) (s1 : Int) (σ : ox_H) : Option (Int × ox_H) := (J_Mod_date_178 v1 v2 (ox_up σ 10 0 11 0 (ox_w (s1 + s0))))
theorem L_Mod_date_174  (v1 : Int) (v2 : Int) (s0 : Int) (s1 : Int) (σ : ox_H) (n tl : Nat) : ox_R (fun r => some ((fun r : Int × ox_H => ((.inl (some (.inl r.1)), r.2) : ox_O)) r)) (J_Mod_date_174 v1 v2 s0 s1 σ) (ox_ev m_Mod_date (ox_zz ox_ms (n + 3)) 174 0 tl [.inr (.inr (10, 0, 0)), .inl (v1), .inl (v2)] [.inl (s0), .inl (s1), .inr (.inr (10, 0, 0))] σ) := by
  unfold J_Mod_date_174
  refine ox_R_to 2 (Y := ox_ev m_Mod_date (ox_zz ox_ms (n + 3)) 178 0 tl [.inr (.inr (10, 0, 0)), .inl (v1), .inl (v2)] [] (ox_up σ 10 0 11 0 (ox_w (s1 + s0)))) rfl ?_
  exact (L_Mod_date_178 v1 v2 (ox_up σ 10 0 11 0 (ox_w (s1 + s0))) n tl)
def J_Mod_date_169  (v1 : Int) (v2 : Int) (s0 : Int) (σ : ox_H) : Option (Int × ox_H) := (J_Mod_date_174 v1 v2 1 s0 σ)
theorem L_Mod_date_169  (v1 : Int) (v2 : Int) (s0 : Int) (σ : ox_H) (n tl : Nat) : ox_R (fun r => some ((fun r : Int × ox_H => ((.inl (some (.inl r.1)), r.2) : ox_O)) r)) (J_Mod_date_169 v1 v2 s0 σ) (ox_ev m_Mod_date (ox_zz ox_ms (n + 3)) 169 0 tl [.inr (.inr (10, 0, 0)), .inl (v1), .inl (v2)] [.inl (s0), .inr (.inr (10, 0, 0))] σ) := by
  unfold J_Mod_date_169
  refine ox_R_to 2 (Y := ox_ev m_Mod_date (ox_zz ox_ms (n + 3)) 174 0 tl [.inr (.inr (10, 0, 0)), .inl (v1), .inl (v2)] [.inl (1), .inl (s0), .inr (.inr (10, 0, 0))] σ) rfl ?_
  exact (L_Mod_date_174 v1 v2 1 s0 σ n tl)
def J_Mod_date_132  (v1 : Int) (s0 : Int) (σ : ox_H) : Option (Int × ox_H) := (F_Mod_look v1 (σ 10 0 11 0) σ).bind fun r2 => (if r2 = 43 then (J_Mod_date_169 v1 s0 (σ 10 0 11 0) (ox_up σ 10 0 20 0 r2)) else (if r2 = 46 then (J_Mod_date_169 v1 s0 (σ 10 0 11 0) (ox_up σ 10 0 20 0 r2)) else (J_Mod_date_174 v1 s0 0 (σ 10 0 11 0) (ox_up σ 10 0 20 0 r2))))
theorem L_Mod_date_132  (v1 : Int) (s0 : Int) (σ : ox_H) (n tl : Nat) : ox_R (fun r => some ((fun r : Int × ox_H => ((.inl (some (.inl r.1)), r.2) : ox_O)) r)) (J_Mod_date_132 v1 s0 σ) (ox_ev m_Mod_date (ox_zz ox_ms (n + 3)) 132 0 tl [.inr (.inr (10, 0, 0)), .inl (v1), ox_d] [.inl (s0)] σ) := by
  unfold J_Mod_date_132
  refine ox_R_to 7 (Y := ox_back m_Mod_date 140 1 [.inr (.inr (10, 0, 0))] ((ox_zz ox_ms (n + 3)) 46 tl [.inr (.inr (10, 0, 0)), .inl (v1), .inl (σ 10 0 11 0)] σ) (fun pc9 x9 st9 σ9 => ox_ev m_Mod_date (ox_zz ox_ms (n + 3)) pc9 0 tl (ox_kl (m_Mod_date.2.2.1 pc9) (ox_xl x9 [.inr (.inr (10, 0, 0)), .inl (v1), .inl (s0)])) st9 σ9)) rfl ?_
  refine ox_R_call (fc := (fun r : Int => ((.inl (some (.inl r)), σ) : ox_O))) (L_Mod_look v1 (σ 10 0 11 0) σ (n + 2) tl) (fun r2 => ?_)
  refine ox_R_of (Y := ox_ev m_Mod_date (ox_zz ox_ms (n + 3)) 143 0 tl [.inr (.inr (10, 0, 0)), .inl (v1), .inl (s0)] [.inl (r2), .inr (.inr (10, 0, 0))] σ) rfl ?_
  refine ox_R_to 8 (Y := if r2 = 43 then ox_ev m_Mod_date (ox_zz ox_ms (n + 3)) 169 0 tl [.inr (.inr (10, 0, 0)), .inl (v1), .inl (s0)] [.inl (σ 10 0 11 0), .inr (.inr (10, 0, 0))] (ox_up σ 10 0 20 0 r2) else ox_ev m_Mod_date (ox_zz ox_ms (n + 3)) 160 0 tl [.inr (.inr (10, 0, 0)), .inl (v1), .inl (s0)] [.inl (σ 10 0 11 0), .inr (.inr (10, 0, 0))] (ox_up σ 10 0 20 0 r2)) rfl ?_
  refine ox_R_if (fun _ => ?_) (fun _ => ?_)
  · exact (L_Mod_date_169 v1 s0 (σ 10 0 11 0) (ox_up σ 10 0 20 0 r2) n tl)
  · refine ox_R_to 4 (Y := if r2 = 46 then ox_ev m_Mod_date (ox_zz ox_ms (n + 3)) 169 0 tl [.inr (.inr (10, 0, 0)), .inl (v1), .inl (s0)] [.inl (σ 10 0 11 0), .inr (.inr (10, 0, 0))] (ox_up σ 10 0 20 0 r2) else ox_ev m_Mod_date (ox_zz ox_ms (n + 3)) 173 0 tl [.inr (.inr (10, 0, 0)), .inl (v1), .inl (s0)] [.inl (σ 10 0 11 0), .inr (.inr (10, 0, 0))] (ox_up σ 10 0 20 0 r2)) rfl ?_
    refine ox_R_if (fun _ => ?_) (fun _ => ?_)
    · exact (L_Mod_date_169 v1 s0 (σ 10 0 11 0) (ox_up σ 10 0 20 0 r2) n tl)
    · refine ox_R_to 1 (Y := ox_ev m_Mod_date (ox_zz ox_ms (n + 3)) 174 0 tl [.inr (.inr (10, 0, 0)), .inl (v1), .inl (s0)] [.inl (0), .inl (σ 10 0 11 0), .inr (.inr (10, 0, 0))] (ox_up σ 10 0 20 0 r2)) rfl ?_
      exact (L_Mod_date_174 v1 s0 0 (σ 10 0 11 0) (ox_up σ 10 0 20 0 r2) n tl)
def J_Mod_date_97  (v1 : Int) (v2 : Int) (σ : ox_H) : Option (Int × ox_H) := if v2 = 0 then (J_Mod_date_178 v1 v2 σ) else ((F_Mod_takes v1 43 σ).bind fun r3 => (if r3.1 = 0 then (J_Mod_date_178 v1 v2 r3.2) else ((F_Mod_number v1 r3.2).bind fun r4 => (if r4.1 ≤ 0 then (J_Mod_date_132 v1 0 (ox_up r4.2 10 0 19 0 r4.1)) else (J_Mod_date_132 v1 1 (ox_up r4.2 10 0 19 0 r4.1))))))
theorem L_Mod_date_97  (v1 : Int) (v2 : Int) (σ : ox_H) (n tl : Nat) : ox_R (fun r => some ((fun r : Int × ox_H => ((.inl (some (.inl r.1)), r.2) : ox_O)) r)) (J_Mod_date_97 v1 v2 σ) (ox_ev m_Mod_date (ox_zz ox_ms (n + 3)) 97 0 tl [.inr (.inr (10, 0, 0)), .inl (v1), .inl (v2)] [] σ) := by
  unfold J_Mod_date_97
  refine ox_R_to 2 (Y := if v2 = 0 then ox_ev m_Mod_date (ox_zz ox_ms (n + 3)) 178 0 tl [.inr (.inr (10, 0, 0)), .inl (v1), .inl (v2)] [] σ else ox_ev m_Mod_date (ox_zz ox_ms (n + 3)) 101 0 tl [.inr (.inr (10, 0, 0)), .inl (v1), .inl (v2)] [] σ) rfl ?_
  refine ox_R_if (fun _ => ?_) (fun _ => ?_)
  · exact (L_Mod_date_178 v1 v2 σ n tl)
  · refine ox_R_to 4 (Y := ox_back m_Mod_date 105 1 [] ((ox_zz ox_ms (n + 3)) 50 tl [.inr (.inr (10, 0, 0)), .inl (v1), .inl (43)] σ) (fun pc9 x9 st9 σ9 => ox_ev m_Mod_date (ox_zz ox_ms (n + 3)) pc9 0 tl (ox_kl (m_Mod_date.2.2.1 pc9) (ox_xl x9 [.inr (.inr (10, 0, 0)), .inl (v1), .inl (v2)])) st9 σ9)) rfl ?_
    refine ox_R_call (fc := (fun r : Int × ox_H => ((.inl (some (.inl r.1)), r.2) : ox_O))) (L_Mod_takes v1 43 σ (n + 1) tl) (fun r3 => ?_)
    refine ox_R_of (Y := ox_ev m_Mod_date (ox_zz ox_ms (n + 3)) 108 0 tl [.inr (.inr (10, 0, 0)), .inl (v1), .inl (v2)] [.inl (r3.1)] r3.2) rfl ?_
    refine ox_R_to 1 (Y := if r3.1 = 0 then ox_ev m_Mod_date (ox_zz ox_ms (n + 3)) 178 0 tl [.inr (.inr (10, 0, 0)), .inl (v1), .inl (v2)] [] r3.2 else ox_ev m_Mod_date (ox_zz ox_ms (n + 3)) 111 0 tl [.inr (.inr (10, 0, 0)), .inl (v1), .inl (v2)] [] r3.2) rfl ?_
    refine ox_R_if (fun _ => ?_) (fun _ => ?_)
    · exact (L_Mod_date_178 v1 v2 r3.2 n tl)
    · refine ox_R_to 4 (Y := ox_back m_Mod_date 114 1 [.inr (.inr (10, 0, 0))] ((ox_zz ox_ms (n + 3)) 49 tl [.inr (.inr (10, 0, 0)), .inl (v1)] r3.2) (fun pc9 x9 st9 σ9 => ox_ev m_Mod_date (ox_zz ox_ms (n + 3)) pc9 0 tl (ox_kl (m_Mod_date.2.2.1 pc9) (ox_xl x9 [.inr (.inr (10, 0, 0)), .inl (v1), .inl (v2)])) st9 σ9)) rfl ?_
      refine ox_R_call (fc := (fun r : Int × ox_H => ((.inl (some (.inl r.1)), r.2) : ox_O))) (L_Mod_number v1 r3.2 (n + 0) tl) (fun r4 => ?_)
      refine ox_R_of (Y := ox_ev m_Mod_date (ox_zz ox_ms (n + 3)) 117 0 tl [.inr (.inr (10, 0, 0)), .inl (v1), .inl (v2)] [.inl (r4.1), .inr (.inr (10, 0, 0))] r4.2) rfl ?_
      refine ox_R_to 4 (Y := if r4.1 ≤ 0 then ox_ev m_Mod_date (ox_zz ox_ms (n + 3)) 131 0 tl [.inr (.inr (10, 0, 0)), .inl (v1), .inl (v2)] [] (ox_up r4.2 10 0 19 0 r4.1) else ox_ev m_Mod_date (ox_zz ox_ms (n + 3)) 127 0 tl [.inr (.inr (10, 0, 0)), .inl (v1), .inl (v2)] [] (ox_up r4.2 10 0 19 0 r4.1)) rfl ?_
      refine ox_R_if (fun _ => ?_) (fun _ => ?_)
      · refine ox_R_to 1 (Y := ox_ev m_Mod_date (ox_zz ox_ms (n + 3)) 132 0 tl [.inr (.inr (10, 0, 0)), .inl (v1), ox_d] [.inl (0)] (ox_up r4.2 10 0 19 0 r4.1)) rfl ?_
        exact (L_Mod_date_132 v1 0 (ox_up r4.2 10 0 19 0 r4.1) n tl)
      · refine ox_R_to 2 (Y := ox_ev m_Mod_date (ox_zz ox_ms (n + 3)) 132 0 tl [.inr (.inr (10, 0, 0)), .inl (v1), ox_d] [.inl (1)] (ox_up r4.2 10 0 19 0 r4.1)) rfl ?_
        exact (L_Mod_date_132 v1 1 (ox_up r4.2 10 0 19 0 r4.1) n tl)
def J_Mod_date_96  (v1 : Int) (s0 : Int) (σ : ox_H) : Option (Int × ox_H) := (J_Mod_date_97 v1 s0 σ)
theorem L_Mod_date_96  (v1 : Int) (s0 : Int) (σ : ox_H) (n tl : Nat) : ox_R (fun r => some ((fun r : Int × ox_H => ((.inl (some (.inl r.1)), r.2) : ox_O)) r)) (J_Mod_date_96 v1 s0 σ) (ox_ev m_Mod_date (ox_zz ox_ms (n + 3)) 96 0 tl [.inr (.inr (10, 0, 0)), .inl (v1), ox_d] [.inl (s0)] σ) := by
  unfold J_Mod_date_96
  refine ox_R_to 1 (Y := ox_ev m_Mod_date (ox_zz ox_ms (n + 3)) 97 0 tl [.inr (.inr (10, 0, 0)), .inl (v1), .inl (s0)] [] σ) rfl ?_
  exact (L_Mod_date_97 v1 s0 σ n tl)
def J_Mod_date_56  (v1 : Int) (s0 : Int) (σ : ox_H) : Option (Int × ox_H) := if s0 = 0 then (J_Mod_date_97 v1 s0 σ) else ((F_Mod_takes v1 45 σ).bind fun r5 => (if r5.1 = 0 then (J_Mod_date_97 v1 s0 r5.2) else ((F_Mod_number v1 r5.2).bind fun r6 => (if r6.1 < (r6.2 10 0 17 0) then (J_Mod_date_96 v1 0 (ox_up r6.2 10 0 18 0 r6.1)) else (J_Mod_date_96 v1 1 (ox_up r6.2 10 0 18 0 r6.1))))))
theorem L_Mod_date_56  (v1 : Int) (s0 : Int) (σ : ox_H) (n tl : Nat) : ox_R (fun r => some ((fun r : Int × ox_H => ((.inl (some (.inl r.1)), r.2) : ox_O)) r)) (J_Mod_date_56 v1 s0 σ) (ox_ev m_Mod_date (ox_zz ox_ms (n + 3)) 56 0 tl [.inr (.inr (10, 0, 0)), .inl (v1), ox_d] [.inl (s0)] σ) := by
  unfold J_Mod_date_56
  refine ox_R_to 3 (Y := if s0 = 0 then ox_ev m_Mod_date (ox_zz ox_ms (n + 3)) 97 0 tl [.inr (.inr (10, 0, 0)), .inl (v1), .inl (s0)] [] σ else ox_ev m_Mod_date (ox_zz ox_ms (n + 3)) 61 0 tl [.inr (.inr (10, 0, 0)), .inl (v1), .inl (s0)] [] σ) rfl ?_
  refine ox_R_if (fun _ => ?_) (fun _ => ?_)
  · exact (L_Mod_date_97 v1 s0 σ n tl)
  · refine ox_R_to 4 (Y := ox_back m_Mod_date 65 1 [] ((ox_zz ox_ms (n + 3)) 50 tl [.inr (.inr (10, 0, 0)), .inl (v1), .inl (45)] σ) (fun pc9 x9 st9 σ9 => ox_ev m_Mod_date (ox_zz ox_ms (n + 3)) pc9 0 tl (ox_kl (m_Mod_date.2.2.1 pc9) (ox_xl x9 [.inr (.inr (10, 0, 0)), .inl (v1), .inl (s0)])) st9 σ9)) rfl ?_
    refine ox_R_call (fc := (fun r : Int × ox_H => ((.inl (some (.inl r.1)), r.2) : ox_O))) (L_Mod_takes v1 45 σ (n + 1) tl) (fun r5 => ?_)
    refine ox_R_of (Y := ox_ev m_Mod_date (ox_zz ox_ms (n + 3)) 68 0 tl [.inr (.inr (10, 0, 0)), .inl (v1), .inl (s0)] [.inl (r5.1)] r5.2) rfl ?_
    refine ox_R_to 1 (Y := if r5.1 = 0 then ox_ev m_Mod_date (ox_zz ox_ms (n + 3)) 97 0 tl [.inr (.inr (10, 0, 0)), .inl (v1), .inl (s0)] [] r5.2 else ox_ev m_Mod_date (ox_zz ox_ms (n + 3)) 71 0 tl [.inr (.inr (10, 0, 0)), .inl (v1), .inl (s0)] [] r5.2) rfl ?_
    refine ox_R_if (fun _ => ?_) (fun _ => ?_)
    · exact (L_Mod_date_97 v1 s0 r5.2 n tl)
    · refine ox_R_to 4 (Y := ox_back m_Mod_date 74 1 [.inr (.inr (10, 0, 0))] ((ox_zz ox_ms (n + 3)) 49 tl [.inr (.inr (10, 0, 0)), .inl (v1)] r5.2) (fun pc9 x9 st9 σ9 => ox_ev m_Mod_date (ox_zz ox_ms (n + 3)) pc9 0 tl (ox_kl (m_Mod_date.2.2.1 pc9) (ox_xl x9 [.inr (.inr (10, 0, 0)), .inl (v1), .inl (s0)])) st9 σ9)) rfl ?_
      refine ox_R_call (fc := (fun r : Int × ox_H => ((.inl (some (.inl r.1)), r.2) : ox_O))) (L_Mod_number v1 r5.2 (n + 0) tl) (fun r6 => ?_)
      refine ox_R_of (Y := ox_ev m_Mod_date (ox_zz ox_ms (n + 3)) 77 0 tl [.inr (.inr (10, 0, 0)), .inl (v1), .inl (s0)] [.inl (r6.1), .inr (.inr (10, 0, 0))] r6.2) rfl ?_
      refine ox_R_to 6 (Y := if r6.1 < (r6.2 10 0 17 0) then ox_ev m_Mod_date (ox_zz ox_ms (n + 3)) 95 0 tl [.inr (.inr (10, 0, 0)), .inl (v1), .inl (s0)] [] (ox_up r6.2 10 0 18 0 r6.1) else ox_ev m_Mod_date (ox_zz ox_ms (n + 3)) 91 0 tl [.inr (.inr (10, 0, 0)), .inl (v1), .inl (s0)] [] (ox_up r6.2 10 0 18 0 r6.1)) rfl ?_
      refine ox_R_if (fun _ => ?_) (fun _ => ?_)
      · refine ox_R_to 1 (Y := ox_ev m_Mod_date (ox_zz ox_ms (n + 3)) 96 0 tl [.inr (.inr (10, 0, 0)), .inl (v1), ox_d] [.inl (0)] (ox_up r6.2 10 0 18 0 r6.1)) rfl ?_
        exact (L_Mod_date_96 v1 0 (ox_up r6.2 10 0 18 0 r6.1) n tl)
      · refine ox_R_to 2 (Y := ox_ev m_Mod_date (ox_zz ox_ms (n + 3)) 96 0 tl [.inr (.inr (10, 0, 0)), .inl (v1), ox_d] [.inl (1)] (ox_up r6.2 10 0 18 0 r6.1)) rfl ?_
        exact (L_Mod_date_96 v1 1 (ox_up r6.2 10 0 18 0 r6.1) n tl)
def F_Mod_date  (a1 : Int) (σ : ox_H) : Option (Int × ox_H) := (F_Mod_takes a1 64 (ox_up σ 10 0 11 0 0)).bind fun r7 => (if r7.1 = 0 then (some (0, r7.2)) else ((F_Mod_number a1 r7.2).bind fun r8 => (if r8.1 < 0 then (J_Mod_date_56 a1 0 (ox_up (ox_up (ox_up (ox_up r8.2 10 0 17 0 r8.1) 10 0 18 0 r8.1) 10 0 19 0 0) 10 0 20 0 0)) else (J_Mod_date_56 a1 1 (ox_up (ox_up (ox_up (ox_up r8.2 10 0 17 0 r8.1) 10 0 18 0 r8.1) 10 0 19 0 0) 10 0 20 0 0)))))
theorem L_Mod_date  (a1 : Int) (σ : ox_H) (n tl : Nat) : ox_R (fun r => some ((fun r : Int × ox_H => ((.inl (some (.inl r.1)), r.2) : ox_O)) r)) (F_Mod_date a1 σ) (ox_zz ox_ms (n + 4) 57 tl [.inr (.inr (10, 0, 0)), .inl (a1)] σ) := by
  unfold F_Mod_date
  refine ox_R_of (Y := ox_ev m_Mod_date (ox_zz ox_ms (n + 3)) 0 0 tl [.inr (.inr (10, 0, 0)), .inl (a1), ox_d] [] σ) rfl ?_
  refine ox_R_to 7 (Y := ox_back m_Mod_date 9 1 [] ((ox_zz ox_ms (n + 3)) 50 tl [.inr (.inr (10, 0, 0)), .inl (a1), .inl (64)] (ox_up σ 10 0 11 0 0)) (fun pc9 x9 st9 σ9 => ox_ev m_Mod_date (ox_zz ox_ms (n + 3)) pc9 0 tl (ox_kl (m_Mod_date.2.2.1 pc9) (ox_xl x9 [.inr (.inr (10, 0, 0)), .inl (a1), ox_d])) st9 σ9)) rfl ?_
  refine ox_R_call (fc := (fun r : Int × ox_H => ((.inl (some (.inl r.1)), r.2) : ox_O))) (L_Mod_takes a1 64 (ox_up σ 10 0 11 0 0) (n + 1) tl) (fun r7 => ?_)
  refine ox_R_of (Y := ox_ev m_Mod_date (ox_zz ox_ms (n + 3)) 12 0 tl [.inr (.inr (10, 0, 0)), .inl (a1), ox_d] [.inl (r7.1)] r7.2) rfl ?_
  refine ox_R_to 1 (Y := if r7.1 = 0 then ox_ev m_Mod_date (ox_zz ox_ms (n + 3)) 15 0 tl [.inr (.inr (10, 0, 0)), .inl (a1), ox_d] [] r7.2 else ox_ev m_Mod_date (ox_zz ox_ms (n + 3)) 17 0 tl [.inr (.inr (10, 0, 0)), .inl (a1), ox_d] [] r7.2) rfl ?_
  refine ox_R_if (fun _ => ?_) (fun _ => ?_)
  · refine ox_R_to 2 (Y := some (.inl (some (.inl (0))), r7.2)) rfl ?_
    exact ox_R_ret rfl
  · refine ox_R_to 4 (Y := ox_back m_Mod_date 20 1 [.inr (.inr (10, 0, 0))] ((ox_zz ox_ms (n + 3)) 49 tl [.inr (.inr (10, 0, 0)), .inl (a1)] r7.2) (fun pc9 x9 st9 σ9 => ox_ev m_Mod_date (ox_zz ox_ms (n + 3)) pc9 0 tl (ox_kl (m_Mod_date.2.2.1 pc9) (ox_xl x9 [.inr (.inr (10, 0, 0)), .inl (a1), ox_d])) st9 σ9)) rfl ?_
    refine ox_R_call (fc := (fun r : Int × ox_H => ((.inl (some (.inl r.1)), r.2) : ox_O))) (L_Mod_number a1 r7.2 (n + 0) tl) (fun r8 => ?_)
    refine ox_R_of (Y := ox_ev m_Mod_date (ox_zz ox_ms (n + 3)) 23 0 tl [.inr (.inr (10, 0, 0)), .inl (a1), ox_d] [.inl (r8.1), .inr (.inr (10, 0, 0))] r8.2) rfl ?_
    refine ox_R_to 14 (Y := if r8.1 < 0 then ox_ev m_Mod_date (ox_zz ox_ms (n + 3)) 55 0 tl [.inr (.inr (10, 0, 0)), .inl (a1), ox_d] [] (ox_up (ox_up (ox_up (ox_up r8.2 10 0 17 0 r8.1) 10 0 18 0 r8.1) 10 0 19 0 0) 10 0 20 0 0) else ox_ev m_Mod_date (ox_zz ox_ms (n + 3)) 51 0 tl [.inr (.inr (10, 0, 0)), .inl (a1), ox_d] [] (ox_up (ox_up (ox_up (ox_up r8.2 10 0 17 0 r8.1) 10 0 18 0 r8.1) 10 0 19 0 0) 10 0 20 0 0)) rfl ?_
    refine ox_R_if (fun _ => ?_) (fun _ => ?_)
    · refine ox_R_to 1 (Y := ox_ev m_Mod_date (ox_zz ox_ms (n + 3)) 56 0 tl [.inr (.inr (10, 0, 0)), .inl (a1), ox_d] [.inl (0)] (ox_up (ox_up (ox_up (ox_up r8.2 10 0 17 0 r8.1) 10 0 18 0 r8.1) 10 0 19 0 0) 10 0 20 0 0)) rfl ?_
      exact (L_Mod_date_56 a1 0 (ox_up (ox_up (ox_up (ox_up r8.2 10 0 17 0 r8.1) 10 0 18 0 r8.1) 10 0 19 0 0) 10 0 20 0 0) n tl)
    · refine ox_R_to 2 (Y := ox_ev m_Mod_date (ox_zz ox_ms (n + 3)) 56 0 tl [.inr (.inr (10, 0, 0)), .inl (a1), ox_d] [.inl (1)] (ox_up (ox_up (ox_up (ox_up r8.2 10 0 17 0 r8.1) 10 0 18 0 r8.1) 10 0 19 0 0) 10 0 20 0 0)) rfl ?_
      exact (L_Mod_date_56 a1 1 (ox_up (ox_up (ox_up (ox_up r8.2 10 0 17 0 r8.1) 10 0 18 0 r8.1) 10 0 19 0 0) 10 0 20 0 0) n tl)
def J_Mod_clock_43  (σ : ox_H) : Option (Int × ox_H) := some (0, σ)
theorem L_Mod_clock_43  (σ : ox_H) (n tl : Nat) : ox_R (fun r => some ((fun r : Int × ox_H => ((.inl (some (.inl r.1)), r.2) : ox_O)) r)) (J_Mod_clock_43 σ) (ox_ev m_Mod_clock (ox_zz ox_ms (n + 3)) 43 0 tl [ox_d, ox_d] [] σ) := by
  unfold J_Mod_clock_43
  refine ox_R_to 2 (Y := some (.inl (some (.inl (0))), σ)) rfl ?_
  exact ox_R_ret rfl
def J_Mod_clock_97  (s0 : Int) (σ : ox_H) : Option (Int × ox_H) := some (s0 % 2, σ)
theorem L_Mod_clock_97  (s0 : Int) (σ : ox_H) (n tl : Nat) : ox_R (fun r => some ((fun r : Int × ox_H => ((.inl (some (.inl r.1)), r.2) : ox_O)) r)) (J_Mod_clock_97 s0 σ) (ox_ev m_Mod_clock (ox_zz ox_ms (n + 3)) 97 0 tl [ox_d, ox_d] [.inl (s0)] σ) := by
  unfold J_Mod_clock_97
  refine ox_R_to 1 (Y := some (.inl (some (.inl (s0 % 2))), σ)) rfl ?_
  exact ox_R_ret rfl
def J_Mod_clock_96  (σ : ox_H) : Option (Int × ox_H) := (J_Mod_clock_97 0 σ)
theorem L_Mod_clock_96  (σ : ox_H) (n tl : Nat) : ox_R (fun r => some ((fun r : Int × ox_H => ((.inl (some (.inl r.1)), r.2) : ox_O)) r)) (J_Mod_clock_96 σ) (ox_ev m_Mod_clock (ox_zz ox_ms (n + 3)) 96 0 tl [ox_d, ox_d] [] σ) := by
  unfold J_Mod_clock_96
  refine ox_R_to 1 (Y := ox_ev m_Mod_clock (ox_zz ox_ms (n + 3)) 97 0 tl [ox_d, ox_d] [.inl (0)] σ) rfl ?_
  exact (L_Mod_clock_97 0 σ n tl)
def J_Mod_clock_92  (σ : ox_H) : Option (Int × ox_H) := (J_Mod_clock_97 1 σ)
theorem L_Mod_clock_92  (σ : ox_H) (n tl : Nat) : ox_R (fun r => some ((fun r : Int × ox_H => ((.inl (some (.inl r.1)), r.2) : ox_O)) r)) (J_Mod_clock_92 σ) (ox_ev m_Mod_clock (ox_zz ox_ms (n + 3)) 92 0 tl [ox_d, ox_d] [] σ) := by
  unfold J_Mod_clock_92
  refine ox_R_to 2 (Y := ox_ev m_Mod_clock (ox_zz ox_ms (n + 3)) 97 0 tl [ox_d, ox_d] [.inl (1)] σ) rfl ?_
  exact (L_Mod_clock_97 1 σ n tl)
def J_Mod_clock_63  (v1 : Int) (s0 : Int) (σ : ox_H) : Option (Int × ox_H) := (F_Mod_ends v1 (ox_up σ 10 0 18 0 s0)).bind fun r1 => (if r1 = 0 then (J_Mod_clock_96 (ox_up σ 10 0 18 0 s0)) else (if s0 < 0 then (J_Mod_clock_92 (ox_up σ 10 0 18 0 s0)) else (if s0 < (σ 10 0 17 0) then (J_Mod_clock_96 (ox_up σ 10 0 18 0 s0)) else (J_Mod_clock_92 (ox_up σ 10 0 18 0 s0)))))
theorem L_Mod_clock_63  (v1 : Int) (s0 : Int) (σ : ox_H) (n tl : Nat) : ox_R (fun r => some ((fun r : Int × ox_H => ((.inl (some (.inl r.1)), r.2) : ox_O)) r)) (J_Mod_clock_63 v1 s0 σ) (ox_ev m_Mod_clock (ox_zz ox_ms (n + 3)) 63 0 tl [.inr (.inr (10, 0, 0)), .inl (v1)] [.inl (s0), .inr (.inr (10, 0, 0))] σ) := by
  unfold J_Mod_clock_63
  refine ox_R_to 4 (Y := ox_back m_Mod_clock 68 1 [] ((ox_zz ox_ms (n + 3)) 52 tl [.inr (.inr (10, 0, 0)), .inl (v1)] (ox_up σ 10 0 18 0 s0)) (fun pc9 x9 st9 σ9 => ox_ev m_Mod_clock (ox_zz ox_ms (n + 3)) pc9 0 tl (ox_kl (m_Mod_clock.2.2.1 pc9) (ox_xl x9 [.inr (.inr (10, 0, 0)), .inl (v1)])) st9 σ9)) rfl ?_
  refine ox_R_call (fc := (fun r : Int => ((.inl (some (.inl r)), (ox_up σ 10 0 18 0 s0)) : ox_O))) (L_Mod_ends v1 (ox_up σ 10 0 18 0 s0) (n + 2) tl) (fun r1 => ?_)
  refine ox_R_of (Y := ox_ev m_Mod_clock (ox_zz ox_ms (n + 3)) 71 0 tl [.inr (.inr (10, 0, 0)), .inl (v1)] [.inl (r1)] (ox_up σ 10 0 18 0 s0)) rfl ?_
  refine ox_R_to 1 (Y := if r1 = 0 then ox_ev m_Mod_clock (ox_zz ox_ms (n + 3)) 96 0 tl [ox_d, ox_d] [] (ox_up σ 10 0 18 0 s0) else ox_ev m_Mod_clock (ox_zz ox_ms (n + 3)) 74 0 tl [.inr (.inr (10, 0, 0)), .inl (v1)] [] (ox_up σ 10 0 18 0 s0)) rfl ?_
  refine ox_R_if (fun _ => ?_) (fun _ => ?_)
  · exact (L_Mod_clock_96 (ox_up σ 10 0 18 0 s0) n tl)
  · refine ox_R_to 3 (Y := if s0 < 0 then ox_ev m_Mod_clock (ox_zz ox_ms (n + 3)) 92 0 tl [ox_d, ox_d] [] (ox_up σ 10 0 18 0 s0) else ox_ev m_Mod_clock (ox_zz ox_ms (n + 3)) 81 0 tl [.inr (.inr (10, 0, 0)), .inl (v1)] [] (ox_up σ 10 0 18 0 s0)) rfl ?_
    refine ox_R_if (fun _ => ?_) (fun _ => ?_)
    · exact (L_Mod_clock_92 (ox_up σ 10 0 18 0 s0) n tl)
    · refine ox_R_to 5 (Y := if s0 < (σ 10 0 17 0) then ox_ev m_Mod_clock (ox_zz ox_ms (n + 3)) 96 0 tl [ox_d, ox_d] [] (ox_up σ 10 0 18 0 s0) else ox_ev m_Mod_clock (ox_zz ox_ms (n + 3)) 92 0 tl [ox_d, ox_d] [] (ox_up σ 10 0 18 0 s0)) rfl ?_
      refine ox_R_if (fun _ => ?_) (fun _ => ?_)
      · exact (L_Mod_clock_96 (ox_up σ 10 0 18 0 s0) n tl)
      · exact (L_Mod_clock_92 (ox_up σ 10 0 18 0 s0) n tl)
def F_Mod_clock  (a1 : Int) (σ : ox_H) : Option (Int × ox_H) := (F_Mod_takes a1 37 (ox_up σ 10 0 11 0 0)).bind fun r2 => (if r2.1 = 0 then (some (0, r2.2)) else ((F_Mod_number a1 r2.2).bind fun r3 => (if r3.1 < 0 then (J_Mod_clock_43 (ox_up r3.2 10 0 17 0 r3.1)) else ((F_Mod_takes a1 45 (ox_up r3.2 10 0 17 0 r3.1)).bind fun r4 => (if r4.1 = 0 then (J_Mod_clock_43 r4.2) else ((F_Mod_ends a1 r4.2).bind fun r5 => (if r5 = 0 then ((F_Mod_number a1 r4.2).bind fun r6 => (J_Mod_clock_63 a1 r6.1 r6.2)) else (J_Mod_clock_63 a1 (-1) r4.2))))))))
theorem L_Mod_clock  (a1 : Int) (σ : ox_H) (n tl : Nat) : ox_R (fun r => some ((fun r : Int × ox_H => ((.inl (some (.inl r.1)), r.2) : ox_O)) r)) (F_Mod_clock a1 σ) (ox_zz ox_ms (n + 4) 58 tl [.inr (.inr (10, 0, 0)), .inl (a1)] σ) := by
  unfold F_Mod_clock
  refine ox_R_of (Y := ox_ev m_Mod_clock (ox_zz ox_ms (n + 3)) 0 0 tl [.inr (.inr (10, 0, 0)), .inl (a1)] [] σ) rfl ?_
  refine ox_R_to 7 (Y := ox_back m_Mod_clock 9 1 [] ((ox_zz ox_ms (n + 3)) 50 tl [.inr (.inr (10, 0, 0)), .inl (a1), .inl (37)] (ox_up σ 10 0 11 0 0)) (fun pc9 x9 st9 σ9 => ox_ev m_Mod_clock (ox_zz ox_ms (n + 3)) pc9 0 tl (ox_kl (m_Mod_clock.2.2.1 pc9) (ox_xl x9 [.inr (.inr (10, 0, 0)), .inl (a1)])) st9 σ9)) rfl ?_
  refine ox_R_call (fc := (fun r : Int × ox_H => ((.inl (some (.inl r.1)), r.2) : ox_O))) (L_Mod_takes a1 37 (ox_up σ 10 0 11 0 0) (n + 1) tl) (fun r2 => ?_)
  refine ox_R_of (Y := ox_ev m_Mod_clock (ox_zz ox_ms (n + 3)) 12 0 tl [.inr (.inr (10, 0, 0)), .inl (a1)] [.inl (r2.1)] r2.2) rfl ?_
  refine ox_R_to 1 (Y := if r2.1 = 0 then ox_ev m_Mod_clock (ox_zz ox_ms (n + 3)) 15 0 tl [.inr (.inr (10, 0, 0)), .inl (a1)] [] r2.2 else ox_ev m_Mod_clock (ox_zz ox_ms (n + 3)) 17 0 tl [.inr (.inr (10, 0, 0)), .inl (a1)] [] r2.2) rfl ?_
  refine ox_R_if (fun _ => ?_) (fun _ => ?_)
  · refine ox_R_to 2 (Y := some (.inl (some (.inl (0))), r2.2)) rfl ?_
    exact ox_R_ret rfl
  · refine ox_R_to 4 (Y := ox_back m_Mod_clock 20 1 [.inr (.inr (10, 0, 0))] ((ox_zz ox_ms (n + 3)) 49 tl [.inr (.inr (10, 0, 0)), .inl (a1)] r2.2) (fun pc9 x9 st9 σ9 => ox_ev m_Mod_clock (ox_zz ox_ms (n + 3)) pc9 0 tl (ox_kl (m_Mod_clock.2.2.1 pc9) (ox_xl x9 [.inr (.inr (10, 0, 0)), .inl (a1)])) st9 σ9)) rfl ?_
    refine ox_R_call (fc := (fun r : Int × ox_H => ((.inl (some (.inl r.1)), r.2) : ox_O))) (L_Mod_number a1 r2.2 (n + 0) tl) (fun r3 => ?_)
    refine ox_R_of (Y := ox_ev m_Mod_clock (ox_zz ox_ms (n + 3)) 23 0 tl [.inr (.inr (10, 0, 0)), .inl (a1)] [.inl (r3.1), .inr (.inr (10, 0, 0))] r3.2) rfl ?_
    refine ox_R_to 4 (Y := if r3.1 < 0 then ox_ev m_Mod_clock (ox_zz ox_ms (n + 3)) 43 0 tl [ox_d, ox_d] [] (ox_up r3.2 10 0 17 0 r3.1) else ox_ev m_Mod_clock (ox_zz ox_ms (n + 3)) 33 0 tl [.inr (.inr (10, 0, 0)), .inl (a1)] [] (ox_up r3.2 10 0 17 0 r3.1)) rfl ?_
    refine ox_R_if (fun _ => ?_) (fun _ => ?_)
    · exact (L_Mod_clock_43 (ox_up r3.2 10 0 17 0 r3.1) n tl)
    · refine ox_R_to 4 (Y := ox_back m_Mod_clock 37 1 [] ((ox_zz ox_ms (n + 3)) 50 tl [.inr (.inr (10, 0, 0)), .inl (a1), .inl (45)] (ox_up r3.2 10 0 17 0 r3.1)) (fun pc9 x9 st9 σ9 => ox_ev m_Mod_clock (ox_zz ox_ms (n + 3)) pc9 0 tl (ox_kl (m_Mod_clock.2.2.1 pc9) (ox_xl x9 [.inr (.inr (10, 0, 0)), .inl (a1)])) st9 σ9)) rfl ?_
      refine ox_R_call (fc := (fun r : Int × ox_H => ((.inl (some (.inl r.1)), r.2) : ox_O))) (L_Mod_takes a1 45 (ox_up r3.2 10 0 17 0 r3.1) (n + 1) tl) (fun r4 => ?_)
      refine ox_R_of (Y := ox_ev m_Mod_clock (ox_zz ox_ms (n + 3)) 40 0 tl [.inr (.inr (10, 0, 0)), .inl (a1)] [.inl (r4.1)] r4.2) rfl ?_
      refine ox_R_to 1 (Y := if r4.1 = 0 then ox_ev m_Mod_clock (ox_zz ox_ms (n + 3)) 43 0 tl [ox_d, ox_d] [] r4.2 else ox_ev m_Mod_clock (ox_zz ox_ms (n + 3)) 45 0 tl [.inr (.inr (10, 0, 0)), .inl (a1)] [] r4.2) rfl ?_
      refine ox_R_if (fun _ => ?_) (fun _ => ?_)
      · exact (L_Mod_clock_43 r4.2 n tl)
      · refine ox_R_to 4 (Y := ox_back m_Mod_clock 48 1 [.inr (.inr (10, 0, 0))] ((ox_zz ox_ms (n + 3)) 52 tl [.inr (.inr (10, 0, 0)), .inl (a1)] r4.2) (fun pc9 x9 st9 σ9 => ox_ev m_Mod_clock (ox_zz ox_ms (n + 3)) pc9 0 tl (ox_kl (m_Mod_clock.2.2.1 pc9) (ox_xl x9 [.inr (.inr (10, 0, 0)), .inl (a1)])) st9 σ9)) rfl ?_
        refine ox_R_call (fc := (fun r : Int => ((.inl (some (.inl r)), r4.2) : ox_O))) (L_Mod_ends a1 r4.2 (n + 2) tl) (fun r5 => ?_)
        refine ox_R_of (Y := ox_ev m_Mod_clock (ox_zz ox_ms (n + 3)) 51 0 tl [.inr (.inr (10, 0, 0)), .inl (a1)] [.inl (r5), .inr (.inr (10, 0, 0))] r4.2) rfl ?_
        refine ox_R_to 1 (Y := if r5 = 0 then ox_ev m_Mod_clock (ox_zz ox_ms (n + 3)) 58 0 tl [.inr (.inr (10, 0, 0)), .inl (a1)] [.inr (.inr (10, 0, 0))] r4.2 else ox_ev m_Mod_clock (ox_zz ox_ms (n + 3)) 54 0 tl [.inr (.inr (10, 0, 0)), .inl (a1)] [.inr (.inr (10, 0, 0))] r4.2) rfl ?_
        refine ox_R_if (fun _ => ?_) (fun _ => ?_)
        · refine ox_R_to 3 (Y := ox_back m_Mod_clock 60 1 [.inr (.inr (10, 0, 0))] ((ox_zz ox_ms (n + 3)) 49 tl [.inr (.inr (10, 0, 0)), .inl (a1)] r4.2) (fun pc9 x9 st9 σ9 => ox_ev m_Mod_clock (ox_zz ox_ms (n + 3)) pc9 0 tl (ox_kl (m_Mod_clock.2.2.1 pc9) (ox_xl x9 [.inr (.inr (10, 0, 0)), .inl (a1)])) st9 σ9)) rfl ?_
          refine ox_R_call (fc := (fun r : Int × ox_H => ((.inl (some (.inl r.1)), r.2) : ox_O))) (L_Mod_number a1 r4.2 (n + 0) tl) (fun r6 => ?_)
          refine ox_R_of (Y := ox_ev m_Mod_clock (ox_zz ox_ms (n + 3)) 63 0 tl [.inr (.inr (10, 0, 0)), .inl (a1)] [.inl (r6.1), .inr (.inr (10, 0, 0))] r6.2) rfl ?_
          exact (L_Mod_clock_63 a1 r6.1 r6.2 n tl)
        · refine ox_R_to 2 (Y := ox_ev m_Mod_clock (ox_zz ox_ms (n + 3)) 63 0 tl [.inr (.inr (10, 0, 0)), .inl (a1)] [.inl ((-1)), .inr (.inr (10, 0, 0))] r4.2) rfl ?_
          exact (L_Mod_clock_63 a1 (-1) r4.2 n tl)
def J_Mod_term_31  (s0 : Int) (σ : ox_H) : Option (Int × ox_H) := some (s0 % 2, σ)
theorem L_Mod_term_31  (s0 : Int) (σ : ox_H) (n tl : Nat) : ox_R (fun r => some ((fun r : Int × ox_H => ((.inl (some (.inl r.1)), r.2) : ox_O)) r)) (J_Mod_term_31 s0 σ) (ox_ev m_Mod_term (ox_zz ox_ms (n + 3)) 31 0 tl [ox_d, ox_d, ox_d] [.inl (s0)] σ) := by
  unfold J_Mod_term_31
  refine ox_R_to 1 (Y := some (.inl (some (.inl (s0 % 2))), σ)) rfl ?_
  exact ox_R_ret rfl
def J_Mod_term_107  (s0 : Int) (σ : ox_H) : Option (Int × ox_H) := some (s0 % 2, σ)
theorem L_Mod_term_107  (s0 : Int) (σ : ox_H) (n tl : Nat) : ox_R (fun r => some ((fun r : Int × ox_H => ((.inl (some (.inl r.1)), r.2) : ox_O)) r)) (J_Mod_term_107 s0 σ) (ox_ev m_Mod_term (ox_zz ox_ms (n + 3)) 107 0 tl [ox_d, ox_d, ox_d] [.inl (s0)] σ) := by
  unfold J_Mod_term_107
  refine ox_R_to 1 (Y := some (.inl (some (.inl (s0 % 2))), σ)) rfl ?_
  exact ox_R_ret rfl
def J_Mod_term_106  (σ : ox_H) : Option (Int × ox_H) := (J_Mod_term_107 0 σ)
theorem L_Mod_term_106  (σ : ox_H) (n tl : Nat) : ox_R (fun r => some ((fun r : Int × ox_H => ((.inl (some (.inl r.1)), r.2) : ox_O)) r)) (J_Mod_term_106 σ) (ox_ev m_Mod_term (ox_zz ox_ms (n + 3)) 106 0 tl [ox_d, ox_d, ox_d] [] σ) := by
  unfold J_Mod_term_106
  refine ox_R_to 1 (Y := ox_ev m_Mod_term (ox_zz ox_ms (n + 3)) 107 0 tl [ox_d, ox_d, ox_d] [.inl (0)] σ) rfl ?_
  exact (L_Mod_term_107 0 σ n tl)
def J_Mod_term_169  (s0 : Int) (σ : ox_H) : Option (Int × ox_H) := some (s0 % 2, σ)
theorem L_Mod_term_169  (s0 : Int) (σ : ox_H) (n tl : Nat) : ox_R (fun r => some ((fun r : Int × ox_H => ((.inl (some (.inl r.1)), r.2) : ox_O)) r)) (J_Mod_term_169 s0 σ) (ox_ev m_Mod_term (ox_zz ox_ms (n + 3)) 169 0 tl [ox_d, ox_d, ox_d] [.inl (s0)] σ) := by
  unfold J_Mod_term_169
  refine ox_R_to 1 (Y := some (.inl (some (.inl (s0 % 2))), σ)) rfl ?_
  exact ox_R_ret rfl
def J_Mod_term_168  (σ : ox_H) : Option (Int × ox_H) := (J_Mod_term_169 0 σ)
theorem L_Mod_term_168  (σ : ox_H) (n tl : Nat) : ox_R (fun r => some ((fun r : Int × ox_H => ((.inl (some (.inl r.1)), r.2) : ox_O)) r)) (J_Mod_term_168 σ) (ox_ev m_Mod_term (ox_zz ox_ms (n + 3)) 168 0 tl [ox_d, ox_d, ox_d] [] σ) := by
  unfold J_Mod_term_168
  refine ox_R_to 1 (Y := ox_ev m_Mod_term (ox_zz ox_ms (n + 3)) 169 0 tl [ox_d, ox_d, ox_d] [.inl (0)] σ) rfl ?_
  exact (L_Mod_term_169 0 σ n tl)
def F_Mod_term  (a1 : Int) (σ : ox_H) : Option (Int × ox_H) := (F_Mod_look a1 (σ 10 0 11 0) σ).bind fun r1 => ((F_Mod_isDigit r1 σ).bind fun r2 => (if r2 = 0 then (if r1 = 83 then ((F_Mod_look a1 (ox_w ((ox_w ((ox_w ((σ 10 0 11 0) + 1)) + 1)) - 1)) (ox_up (ox_up σ 10 0 11 0 (ox_w ((σ 10 0 11 0) + 1))) 10 0 11 0 (ox_w ((ox_w ((σ 10 0 11 0) + 1)) + 1)))).bind fun r3 => ((F_Mod_in r3 97 101 (ox_up (ox_up σ 10 0 11 0 (ox_w ((σ 10 0 11 0) + 1))) 10 0 11 0 (ox_w ((ox_w ((σ 10 0 11 0) + 1)) + 1)))).bind fun r4 => (some (r4 % 2, (ox_up (ox_up σ 10 0 11 0 (ox_w ((σ 10 0 11 0) + 1))) 10 0 11 0 (ox_w ((ox_w ((σ 10 0 11 0) + 1)) + 1))))))) else (if r1 = 40 then ((F_Mod_letter a1 (ox_up σ 10 0 11 0 (ox_w ((σ 10 0 11 0) + 1)))).bind fun r5 => (if r5.1 = 0 then (J_Mod_term_106 r5.2) else ((F_Mod_takes a1 41 r5.2).bind fun r6 => (if r6.1 = 0 then (J_Mod_term_106 r6.2) else (J_Mod_term_107 1 r6.2))))) else (if r1 = 58 then ((F_Mod_letter a1 (ox_up σ 10 0 11 0 (ox_w ((σ 10 0 11 0) + 1)))).bind fun r7 => (some (r7.1 % 2, r7.2))) else ((F_Mod_in r1 97 101 (ox_up (ox_up σ 10 0 11 0 (ox_w ((σ 10 0 11 0) + 1))) 10 0 11 0 (ox_w ((ox_w ((σ 10 0 11 0) + 1)) + 1)))).bind fun r8 => (if r8 = 0 then (J_Mod_term_168 (ox_up (ox_up σ 10 0 11 0 (ox_w ((σ 10 0 11 0) + 1))) 10 0 11 0 (ox_w ((ox_w ((σ 10 0 11 0) + 1)) + 1)))) else ((F_Mod_look a1 (ox_w ((ox_w ((ox_w ((σ 10 0 11 0) + 1)) + 1)) - 1)) (ox_up (ox_up σ 10 0 11 0 (ox_w ((σ 10 0 11 0) + 1))) 10 0 11 0 (ox_w ((ox_w ((σ 10 0 11 0) + 1)) + 1)))).bind fun r9 => ((F_Mod_in r9 49 57 (ox_up (ox_up σ 10 0 11 0 (ox_w ((σ 10 0 11 0) + 1))) 10 0 11 0 (ox_w ((ox_w ((σ 10 0 11 0) + 1)) + 1)))).bind fun r10 => (if r10 = 0 then (J_Mod_term_168 (ox_up (ox_up σ 10 0 11 0 (ox_w ((σ 10 0 11 0) + 1))) 10 0 11 0 (ox_w ((ox_w ((σ 10 0 11 0) + 1)) + 1)))) else (J_Mod_term_169 1 (ox_up (ox_up σ 10 0 11 0 (ox_w ((σ 10 0 11 0) + 1))) 10 0 11 0 (ox_w ((ox_w ((σ 10 0 11 0) + 1)) + 1)))))))))))) else ((F_Mod_number a1 σ).bind fun r11 => (if r11.1 < 0 then (J_Mod_term_31 0 r11.2) else (J_Mod_term_31 1 r11.2)))))
theorem L_Mod_term  (a1 : Int) (σ : ox_H) (n tl : Nat) : ox_R (fun r => some ((fun r : Int × ox_H => ((.inl (some (.inl r.1)), r.2) : ox_O)) r)) (F_Mod_term a1 σ) (ox_zz ox_ms (n + 4) 59 tl [.inr (.inr (10, 0, 0)), .inl (a1)] σ) := by
  unfold F_Mod_term
  refine ox_R_of (Y := ox_ev m_Mod_term (ox_zz ox_ms (n + 3)) 0 0 tl [.inr (.inr (10, 0, 0)), .inl (a1), ox_d] [] σ) rfl ?_
  refine ox_R_to 5 (Y := ox_back m_Mod_term 6 1 [] ((ox_zz ox_ms (n + 3)) 46 tl [.inr (.inr (10, 0, 0)), .inl (a1), .inl (σ 10 0 11 0)] σ) (fun pc9 x9 st9 σ9 => ox_ev m_Mod_term (ox_zz ox_ms (n + 3)) pc9 0 tl (ox_kl (m_Mod_term.2.2.1 pc9) (ox_xl x9 [.inr (.inr (10, 0, 0)), .inl (a1), ox_d])) st9 σ9)) rfl ?_
  refine ox_R_call (fc := (fun r : Int => ((.inl (some (.inl r)), σ) : ox_O))) (L_Mod_look a1 (σ 10 0 11 0) σ (n + 2) tl) (fun r1 => ?_)
  refine ox_R_of (Y := ox_ev m_Mod_term (ox_zz ox_ms (n + 3)) 9 0 tl [.inr (.inr (10, 0, 0)), .inl (a1), ox_d] [.inl (r1)] σ) rfl ?_
  refine ox_R_to 4 (Y := ox_back m_Mod_term 12 1 [] ((ox_zz ox_ms (n + 3)) 48 tl [.inr (.inr (10, 0, 0)), .inl (r1)] σ) (fun pc9 x9 st9 σ9 => ox_ev m_Mod_term (ox_zz ox_ms (n + 3)) pc9 0 tl (ox_kl (m_Mod_term.2.2.1 pc9) (ox_xl x9 [.inr (.inr (10, 0, 0)), .inl (a1), .inl (r1)])) st9 σ9)) rfl ?_
  refine ox_R_call (fc := (fun r : Int => ((.inl (some (.inl r)), σ) : ox_O))) (L_Mod_isDigit r1 σ (n + 1) tl) (fun r2 => ?_)
  refine ox_R_of (Y := ox_ev m_Mod_term (ox_zz ox_ms (n + 3)) 15 0 tl [.inr (.inr (10, 0, 0)), .inl (a1), .inl (r1)] [.inl (r2)] σ) rfl ?_
  refine ox_R_to 1 (Y := if r2 = 0 then ox_ev m_Mod_term (ox_zz ox_ms (n + 3)) 32 0 tl [.inr (.inr (10, 0, 0)), .inl (a1), .inl (r1)] [] σ else ox_ev m_Mod_term (ox_zz ox_ms (n + 3)) 18 0 tl [.inr (.inr (10, 0, 0)), .inl (a1), .inl (r1)] [] σ) rfl ?_
  refine ox_R_if (fun _ => ?_) (fun _ => ?_)
  · refine ox_R_to 9 (Y := if r1 = 83 then ox_ev m_Mod_term (ox_zz ox_ms (n + 3)) 48 0 tl [.inr (.inr (10, 0, 0)), .inl (a1), .inl (r1)] [] (ox_up σ 10 0 11 0 (ox_w ((σ 10 0 11 0) + 1))) else ox_ev m_Mod_term (ox_zz ox_ms (n + 3)) 78 0 tl [.inr (.inr (10, 0, 0)), .inl (a1), .inl (r1)] [] (ox_up σ 10 0 11 0 (ox_w ((σ 10 0 11 0) + 1)))) rfl ?_
    refine ox_R_if (fun _ => ?_) (fun _ => ?_)
    · refine ox_R_to 14 (Y := ox_back m_Mod_term 67 1 [.inr (.inr (10, 0, 0))] ((ox_zz ox_ms (n + 3)) 46 tl [.inr (.inr (10, 0, 0)), .inl (a1), .inl (ox_w ((ox_w ((ox_w ((σ 10 0 11 0) + 1)) + 1)) - 1))] (ox_up (ox_up σ 10 0 11 0 (ox_w ((σ 10 0 11 0) + 1))) 10 0 11 0 (ox_w ((ox_w ((σ 10 0 11 0) + 1)) + 1)))) (fun pc9 x9 st9 σ9 => ox_ev m_Mod_term (ox_zz ox_ms (n + 3)) pc9 0 tl (ox_kl (m_Mod_term.2.2.1 pc9) (ox_xl x9 [.inr (.inr (10, 0, 0)), .inl (a1), .inl (r1)])) st9 σ9)) rfl ?_
      refine ox_R_call (fc := (fun r : Int => ((.inl (some (.inl r)), (ox_up (ox_up σ 10 0 11 0 (ox_w ((σ 10 0 11 0) + 1))) 10 0 11 0 (ox_w ((ox_w ((σ 10 0 11 0) + 1)) + 1)))) : ox_O))) (L_Mod_look a1 (ox_w ((ox_w ((ox_w ((σ 10 0 11 0) + 1)) + 1)) - 1)) (ox_up (ox_up σ 10 0 11 0 (ox_w ((σ 10 0 11 0) + 1))) 10 0 11 0 (ox_w ((ox_w ((σ 10 0 11 0) + 1)) + 1))) (n + 2) tl) (fun r3 => ?_)
      refine ox_R_of (Y := ox_ev m_Mod_term (ox_zz ox_ms (n + 3)) 70 0 tl [.inr (.inr (10, 0, 0)), .inl (a1), .inl (r1)] [.inl (r3), .inr (.inr (10, 0, 0))] (ox_up (ox_up σ 10 0 11 0 (ox_w ((σ 10 0 11 0) + 1))) 10 0 11 0 (ox_w ((ox_w ((σ 10 0 11 0) + 1)) + 1)))) rfl ?_
      refine ox_R_to 3 (Y := ox_back m_Mod_term 74 1 [] ((ox_zz ox_ms (n + 3)) 44 tl [.inr (.inr (10, 0, 0)), .inl (r3), .inl (97), .inl (101)] (ox_up (ox_up σ 10 0 11 0 (ox_w ((σ 10 0 11 0) + 1))) 10 0 11 0 (ox_w ((ox_w ((σ 10 0 11 0) + 1)) + 1)))) (fun pc9 x9 st9 σ9 => ox_ev m_Mod_term (ox_zz ox_ms (n + 3)) pc9 0 tl (ox_kl (m_Mod_term.2.2.1 pc9) (ox_xl x9 [.inr (.inr (10, 0, 0)), .inl (a1), .inl (r1)])) st9 σ9)) rfl ?_
      refine ox_R_call (fc := (fun r : Int => ((.inl (some (.inl r)), (ox_up (ox_up σ 10 0 11 0 (ox_w ((σ 10 0 11 0) + 1))) 10 0 11 0 (ox_w ((ox_w ((σ 10 0 11 0) + 1)) + 1)))) : ox_O))) (L_Mod_in r3 97 101 (ox_up (ox_up σ 10 0 11 0 (ox_w ((σ 10 0 11 0) + 1))) 10 0 11 0 (ox_w ((ox_w ((σ 10 0 11 0) + 1)) + 1))) (n + 2) tl) (fun r4 => ?_)
      refine ox_R_of (Y := ox_ev m_Mod_term (ox_zz ox_ms (n + 3)) 77 0 tl [.inr (.inr (10, 0, 0)), .inl (a1), .inl (r1)] [.inl (r4)] (ox_up (ox_up σ 10 0 11 0 (ox_w ((σ 10 0 11 0) + 1))) 10 0 11 0 (ox_w ((ox_w ((σ 10 0 11 0) + 1)) + 1)))) rfl ?_
      refine ox_R_to 1 (Y := some (.inl (some (.inl (r4 % 2))), (ox_up (ox_up σ 10 0 11 0 (ox_w ((σ 10 0 11 0) + 1))) 10 0 11 0 (ox_w ((ox_w ((σ 10 0 11 0) + 1)) + 1))))) rfl ?_
      exact ox_R_ret rfl
    · refine ox_R_to 3 (Y := if r1 = 40 then ox_ev m_Mod_term (ox_zz ox_ms (n + 3)) 84 0 tl [.inr (.inr (10, 0, 0)), .inl (a1), .inl (r1)] [] (ox_up σ 10 0 11 0 (ox_w ((σ 10 0 11 0) + 1))) else ox_ev m_Mod_term (ox_zz ox_ms (n + 3)) 108 0 tl [.inr (.inr (10, 0, 0)), .inl (a1), .inl (r1)] [] (ox_up σ 10 0 11 0 (ox_w ((σ 10 0 11 0) + 1)))) rfl ?_
      refine ox_R_if (fun _ => ?_) (fun _ => ?_)
      · refine ox_R_to 3 (Y := ox_back m_Mod_term 86 1 [] ((ox_zz ox_ms (n + 3)) 51 tl [.inr (.inr (10, 0, 0)), .inl (a1)] (ox_up σ 10 0 11 0 (ox_w ((σ 10 0 11 0) + 1)))) (fun pc9 x9 st9 σ9 => ox_ev m_Mod_term (ox_zz ox_ms (n + 3)) pc9 0 tl (ox_kl (m_Mod_term.2.2.1 pc9) (ox_xl x9 [.inr (.inr (10, 0, 0)), .inl (a1), .inl (r1)])) st9 σ9)) rfl ?_
        refine ox_R_call (fc := (fun r : Int × ox_H => ((.inl (some (.inl r.1)), r.2) : ox_O))) (L_Mod_letter a1 (ox_up σ 10 0 11 0 (ox_w ((σ 10 0 11 0) + 1))) (n + 0) tl) (fun r5 => ?_)
        refine ox_R_of (Y := ox_ev m_Mod_term (ox_zz ox_ms (n + 3)) 89 0 tl [.inr (.inr (10, 0, 0)), .inl (a1), .inl (r1)] [.inl (r5.1)] r5.2) rfl ?_
        refine ox_R_to 1 (Y := if r5.1 = 0 then ox_ev m_Mod_term (ox_zz ox_ms (n + 3)) 106 0 tl [ox_d, ox_d, ox_d] [] r5.2 else ox_ev m_Mod_term (ox_zz ox_ms (n + 3)) 92 0 tl [.inr (.inr (10, 0, 0)), .inl (a1), .inl (r1)] [] r5.2) rfl ?_
        refine ox_R_if (fun _ => ?_) (fun _ => ?_)
        · exact (L_Mod_term_106 r5.2 n tl)
        · refine ox_R_to 4 (Y := ox_back m_Mod_term 96 1 [] ((ox_zz ox_ms (n + 3)) 50 tl [.inr (.inr (10, 0, 0)), .inl (a1), .inl (41)] r5.2) (fun pc9 x9 st9 σ9 => ox_ev m_Mod_term (ox_zz ox_ms (n + 3)) pc9 0 tl (ox_kl (m_Mod_term.2.2.1 pc9) (ox_xl x9 [.inr (.inr (10, 0, 0)), .inl (a1), .inl (r1)])) st9 σ9)) rfl ?_
          refine ox_R_call (fc := (fun r : Int × ox_H => ((.inl (some (.inl r.1)), r.2) : ox_O))) (L_Mod_takes a1 41 r5.2 (n + 1) tl) (fun r6 => ?_)
          refine ox_R_of (Y := ox_ev m_Mod_term (ox_zz ox_ms (n + 3)) 99 0 tl [.inr (.inr (10, 0, 0)), .inl (a1), .inl (r1)] [.inl (r6.1)] r6.2) rfl ?_
          refine ox_R_to 1 (Y := if r6.1 = 0 then ox_ev m_Mod_term (ox_zz ox_ms (n + 3)) 106 0 tl [ox_d, ox_d, ox_d] [] r6.2 else ox_ev m_Mod_term (ox_zz ox_ms (n + 3)) 102 0 tl [.inr (.inr (10, 0, 0)), .inl (a1), .inl (r1)] [] r6.2) rfl ?_
          refine ox_R_if (fun _ => ?_) (fun _ => ?_)
          · exact (L_Mod_term_106 r6.2 n tl)
          · refine ox_R_to 2 (Y := ox_ev m_Mod_term (ox_zz ox_ms (n + 3)) 107 0 tl [ox_d, ox_d, ox_d] [.inl (1)] r6.2) rfl ?_
            exact (L_Mod_term_107 1 r6.2 n tl)
      · refine ox_R_to 3 (Y := if r1 = 58 then ox_ev m_Mod_term (ox_zz ox_ms (n + 3)) 114 0 tl [.inr (.inr (10, 0, 0)), .inl (a1), .inl (r1)] [] (ox_up σ 10 0 11 0 (ox_w ((σ 10 0 11 0) + 1))) else ox_ev m_Mod_term (ox_zz ox_ms (n + 3)) 120 0 tl [.inr (.inr (10, 0, 0)), .inl (a1), .inl (r1)] [] (ox_up σ 10 0 11 0 (ox_w ((σ 10 0 11 0) + 1)))) rfl ?_
        refine ox_R_if (fun _ => ?_) (fun _ => ?_)
        · refine ox_R_to 3 (Y := ox_back m_Mod_term 116 1 [] ((ox_zz ox_ms (n + 3)) 51 tl [.inr (.inr (10, 0, 0)), .inl (a1)] (ox_up σ 10 0 11 0 (ox_w ((σ 10 0 11 0) + 1)))) (fun pc9 x9 st9 σ9 => ox_ev m_Mod_term (ox_zz ox_ms (n + 3)) pc9 0 tl (ox_kl (m_Mod_term.2.2.1 pc9) (ox_xl x9 [.inr (.inr (10, 0, 0)), .inl (a1), .inl (r1)])) st9 σ9)) rfl ?_
          refine ox_R_call (fc := (fun r : Int × ox_H => ((.inl (some (.inl r.1)), r.2) : ox_O))) (L_Mod_letter a1 (ox_up σ 10 0 11 0 (ox_w ((σ 10 0 11 0) + 1))) (n + 0) tl) (fun r7 => ?_)
          refine ox_R_of (Y := ox_ev m_Mod_term (ox_zz ox_ms (n + 3)) 119 0 tl [.inr (.inr (10, 0, 0)), .inl (a1), .inl (r1)] [.inl (r7.1)] r7.2) rfl ?_
          refine ox_R_to 1 (Y := some (.inl (some (.inl (r7.1 % 2))), r7.2)) rfl ?_
          exact ox_R_ret rfl
        · refine ox_R_to 11 (Y := ox_back m_Mod_term 136 1 [] ((ox_zz ox_ms (n + 3)) 44 tl [.inr (.inr (10, 0, 0)), .inl (r1), .inl (97), .inl (101)] (ox_up (ox_up σ 10 0 11 0 (ox_w ((σ 10 0 11 0) + 1))) 10 0 11 0 (ox_w ((ox_w ((σ 10 0 11 0) + 1)) + 1)))) (fun pc9 x9 st9 σ9 => ox_ev m_Mod_term (ox_zz ox_ms (n + 3)) pc9 0 tl (ox_kl (m_Mod_term.2.2.1 pc9) (ox_xl x9 [.inr (.inr (10, 0, 0)), .inl (a1), .inl (r1)])) st9 σ9)) rfl ?_
          refine ox_R_call (fc := (fun r : Int => ((.inl (some (.inl r)), (ox_up (ox_up σ 10 0 11 0 (ox_w ((σ 10 0 11 0) + 1))) 10 0 11 0 (ox_w ((ox_w ((σ 10 0 11 0) + 1)) + 1)))) : ox_O))) (L_Mod_in r1 97 101 (ox_up (ox_up σ 10 0 11 0 (ox_w ((σ 10 0 11 0) + 1))) 10 0 11 0 (ox_w ((ox_w ((σ 10 0 11 0) + 1)) + 1))) (n + 2) tl) (fun r8 => ?_)
          refine ox_R_of (Y := ox_ev m_Mod_term (ox_zz ox_ms (n + 3)) 139 0 tl [.inr (.inr (10, 0, 0)), .inl (a1), .inl (r1)] [.inl (r8)] (ox_up (ox_up σ 10 0 11 0 (ox_w ((σ 10 0 11 0) + 1))) 10 0 11 0 (ox_w ((ox_w ((σ 10 0 11 0) + 1)) + 1)))) rfl ?_
          refine ox_R_to 1 (Y := if r8 = 0 then ox_ev m_Mod_term (ox_zz ox_ms (n + 3)) 168 0 tl [ox_d, ox_d, ox_d] [] (ox_up (ox_up σ 10 0 11 0 (ox_w ((σ 10 0 11 0) + 1))) 10 0 11 0 (ox_w ((ox_w ((σ 10 0 11 0) + 1)) + 1))) else ox_ev m_Mod_term (ox_zz ox_ms (n + 3)) 142 0 tl [.inr (.inr (10, 0, 0)), .inl (a1), .inl (r1)] [] (ox_up (ox_up σ 10 0 11 0 (ox_w ((σ 10 0 11 0) + 1))) 10 0 11 0 (ox_w ((ox_w ((σ 10 0 11 0) + 1)) + 1)))) rfl ?_
          refine ox_R_if (fun _ => ?_) (fun _ => ?_)
          · exact (L_Mod_term_168 (ox_up (ox_up σ 10 0 11 0 (ox_w ((σ 10 0 11 0) + 1))) 10 0 11 0 (ox_w ((ox_w ((σ 10 0 11 0) + 1)) + 1))) n tl)
          · refine ox_R_to 8 (Y := ox_back m_Mod_term 151 1 [.inr (.inr (10, 0, 0))] ((ox_zz ox_ms (n + 3)) 46 tl [.inr (.inr (10, 0, 0)), .inl (a1), .inl (ox_w ((ox_w ((ox_w ((σ 10 0 11 0) + 1)) + 1)) - 1))] (ox_up (ox_up σ 10 0 11 0 (ox_w ((σ 10 0 11 0) + 1))) 10 0 11 0 (ox_w ((ox_w ((σ 10 0 11 0) + 1)) + 1)))) (fun pc9 x9 st9 σ9 => ox_ev m_Mod_term (ox_zz ox_ms (n + 3)) pc9 0 tl (ox_kl (m_Mod_term.2.2.1 pc9) (ox_xl x9 [.inr (.inr (10, 0, 0)), .inl (a1), .inl (r1)])) st9 σ9)) rfl ?_
            refine ox_R_call (fc := (fun r : Int => ((.inl (some (.inl r)), (ox_up (ox_up σ 10 0 11 0 (ox_w ((σ 10 0 11 0) + 1))) 10 0 11 0 (ox_w ((ox_w ((σ 10 0 11 0) + 1)) + 1)))) : ox_O))) (L_Mod_look a1 (ox_w ((ox_w ((ox_w ((σ 10 0 11 0) + 1)) + 1)) - 1)) (ox_up (ox_up σ 10 0 11 0 (ox_w ((σ 10 0 11 0) + 1))) 10 0 11 0 (ox_w ((ox_w ((σ 10 0 11 0) + 1)) + 1))) (n + 2) tl) (fun r9 => ?_)
            refine ox_R_of (Y := ox_ev m_Mod_term (ox_zz ox_ms (n + 3)) 154 0 tl [.inr (.inr (10, 0, 0)), .inl (a1), .inl (r1)] [.inl (r9), .inr (.inr (10, 0, 0))] (ox_up (ox_up σ 10 0 11 0 (ox_w ((σ 10 0 11 0) + 1))) 10 0 11 0 (ox_w ((ox_w ((σ 10 0 11 0) + 1)) + 1)))) rfl ?_
            refine ox_R_to 3 (Y := ox_back m_Mod_term 158 1 [] ((ox_zz ox_ms (n + 3)) 44 tl [.inr (.inr (10, 0, 0)), .inl (r9), .inl (49), .inl (57)] (ox_up (ox_up σ 10 0 11 0 (ox_w ((σ 10 0 11 0) + 1))) 10 0 11 0 (ox_w ((ox_w ((σ 10 0 11 0) + 1)) + 1)))) (fun pc9 x9 st9 σ9 => ox_ev m_Mod_term (ox_zz ox_ms (n + 3)) pc9 0 tl (ox_kl (m_Mod_term.2.2.1 pc9) (ox_xl x9 [.inr (.inr (10, 0, 0)), .inl (a1), .inl (r1)])) st9 σ9)) rfl ?_
            refine ox_R_call (fc := (fun r : Int => ((.inl (some (.inl r)), (ox_up (ox_up σ 10 0 11 0 (ox_w ((σ 10 0 11 0) + 1))) 10 0 11 0 (ox_w ((ox_w ((σ 10 0 11 0) + 1)) + 1)))) : ox_O))) (L_Mod_in r9 49 57 (ox_up (ox_up σ 10 0 11 0 (ox_w ((σ 10 0 11 0) + 1))) 10 0 11 0 (ox_w ((ox_w ((σ 10 0 11 0) + 1)) + 1))) (n + 2) tl) (fun r10 => ?_)
            refine ox_R_of (Y := ox_ev m_Mod_term (ox_zz ox_ms (n + 3)) 161 0 tl [.inr (.inr (10, 0, 0)), .inl (a1), .inl (r1)] [.inl (r10)] (ox_up (ox_up σ 10 0 11 0 (ox_w ((σ 10 0 11 0) + 1))) 10 0 11 0 (ox_w ((ox_w ((σ 10 0 11 0) + 1)) + 1)))) rfl ?_
            refine ox_R_to 1 (Y := if r10 = 0 then ox_ev m_Mod_term (ox_zz ox_ms (n + 3)) 168 0 tl [ox_d, ox_d, ox_d] [] (ox_up (ox_up σ 10 0 11 0 (ox_w ((σ 10 0 11 0) + 1))) 10 0 11 0 (ox_w ((ox_w ((σ 10 0 11 0) + 1)) + 1))) else ox_ev m_Mod_term (ox_zz ox_ms (n + 3)) 164 0 tl [.inr (.inr (10, 0, 0)), .inl (a1), .inl (r1)] [] (ox_up (ox_up σ 10 0 11 0 (ox_w ((σ 10 0 11 0) + 1))) 10 0 11 0 (ox_w ((ox_w ((σ 10 0 11 0) + 1)) + 1)))) rfl ?_
            refine ox_R_if (fun _ => ?_) (fun _ => ?_)
            · exact (L_Mod_term_168 (ox_up (ox_up σ 10 0 11 0 (ox_w ((σ 10 0 11 0) + 1))) 10 0 11 0 (ox_w ((ox_w ((σ 10 0 11 0) + 1)) + 1))) n tl)
            · refine ox_R_to 2 (Y := ox_ev m_Mod_term (ox_zz ox_ms (n + 3)) 169 0 tl [ox_d, ox_d, ox_d] [.inl (1)] (ox_up (ox_up σ 10 0 11 0 (ox_w ((σ 10 0 11 0) + 1))) 10 0 11 0 (ox_w ((ox_w ((σ 10 0 11 0) + 1)) + 1)))) rfl ?_
              exact (L_Mod_term_169 1 (ox_up (ox_up σ 10 0 11 0 (ox_w ((σ 10 0 11 0) + 1))) 10 0 11 0 (ox_w ((ox_w ((σ 10 0 11 0) + 1)) + 1))) n tl)
  · refine ox_R_to 3 (Y := ox_back m_Mod_term 20 1 [] ((ox_zz ox_ms (n + 3)) 49 tl [.inr (.inr (10, 0, 0)), .inl (a1)] σ) (fun pc9 x9 st9 σ9 => ox_ev m_Mod_term (ox_zz ox_ms (n + 3)) pc9 0 tl (ox_kl (m_Mod_term.2.2.1 pc9) (ox_xl x9 [.inr (.inr (10, 0, 0)), .inl (a1), .inl (r1)])) st9 σ9)) rfl ?_
    refine ox_R_call (fc := (fun r : Int × ox_H => ((.inl (some (.inl r.1)), r.2) : ox_O))) (L_Mod_number a1 σ (n + 0) tl) (fun r11 => ?_)
    refine ox_R_of (Y := ox_ev m_Mod_term (ox_zz ox_ms (n + 3)) 23 0 tl [.inr (.inr (10, 0, 0)), .inl (a1), .inl (r1)] [.inl (r11.1)] r11.2) rfl ?_
    refine ox_R_to 1 (Y := if r11.1 < 0 then ox_ev m_Mod_term (ox_zz ox_ms (n + 3)) 30 0 tl [.inr (.inr (10, 0, 0)), .inl (a1), .inl (r1)] [] r11.2 else ox_ev m_Mod_term (ox_zz ox_ms (n + 3)) 26 0 tl [.inr (.inr (10, 0, 0)), .inl (a1), .inl (r1)] [] r11.2) rfl ?_
    refine ox_R_if (fun _ => ?_) (fun _ => ?_)
    · refine ox_R_to 1 (Y := ox_ev m_Mod_term (ox_zz ox_ms (n + 3)) 31 0 tl [ox_d, ox_d, ox_d] [.inl (0)] r11.2) rfl ?_
      exact (L_Mod_term_31 0 r11.2 n tl)
    · refine ox_R_to 2 (Y := ox_ev m_Mod_term (ox_zz ox_ms (n + 3)) 31 0 tl [ox_d, ox_d, ox_d] [.inl (1)] r11.2) rfl ?_
      exact (L_Mod_term_31 1 r11.2 n tl)
def J_Mod_sum_86  (σ : ox_H) : Option (Int × ox_H) := some (1, σ)
theorem L_Mod_sum_86  (σ : ox_H) (n tl : Nat) : ox_R (fun r => some ((fun r : Int × ox_H => ((.inl (some (.inl r.1)), r.2) : ox_O)) r)) (J_Mod_sum_86 σ) (ox_ev m_Mod_sum (ox_zz ox_ms (n + 4)) 86 0 tl [ox_d, ox_d, ox_d, ox_d, ox_d] [] σ) := by
  unfold J_Mod_sum_86
  refine ox_R_to 2 (Y := some (.inl (some (.inl (1))), σ)) rfl ?_
  exact ox_R_ret rfl
def J_Mod_sum_22  (σ : ox_H) : Option (Int × ox_H) := some (0, σ)
theorem L_Mod_sum_22  (σ : ox_H) (n tl : Nat) : ox_R (fun r => some ((fun r : Int × ox_H => ((.inl (some (.inl r.1)), r.2) : ox_O)) r)) (J_Mod_sum_22 σ) (ox_ev m_Mod_sum (ox_zz ox_ms (n + 4)) 22 0 tl [ox_d, ox_d, ox_d, ox_d, ox_d] [] σ) := by
  unfold J_Mod_sum_22
  refine ox_R_to 2 (Y := some (.inl (some (.inl (0))), σ)) rfl ?_
  exact ox_R_ret rfl
def J_Mod_sum_79  (v1 : Int) (v2 : Int) (v3 : Int) (s0 : Int) (s1 : Int) (σ : ox_H) : Option (((Int × Int × ox_H) ⊕ Int × ox_H)) := some (.inl (v2, v3, (ox_up σ 10 0 11 0 (ox_w (s1 + s0)))))
theorem L_Mod_sum_79  (v1 : Int) (v2 : Int) (v3 : Int) (s0 : Int) (s1 : Int) (σ : ox_H) (n tl : Nat) : ox_R (Sum.elim (fun (s : Int × Int × ox_H) => match s with | (v2, v3, σ) => ox_ev m_Mod_sum (ox_zz ox_ms (n + 4)) 4 0 tl [.inr (.inr (10, 0, 0)), .inl (v1), .inl (v2), .inl (v3), ox_d] [] σ) (fun r => some ((fun r : Int × ox_H => ((.inl (some (.inl r.1)), r.2) : ox_O)) r))) (J_Mod_sum_79 v1 v2 v3 s0 s1 σ) (ox_ev m_Mod_sum (ox_zz ox_ms (n + 4)) 79 0 tl [.inr (.inr (10, 0, 0)), .inl (v1), .inl (v2), .inl (v3), ox_d] [.inl (s0), .inl (s1), .inr (.inr (10, 0, 0))] σ) := by
  unfold J_Mod_sum_79
  refine ox_R_to 3 (Y := ox_ev m_Mod_sum (ox_zz ox_ms (n + 4)) 4 0 tl [.inr (.inr (10, 0, 0)), .inl (v1), .inl (v2), .inl (v3), ox_d] [] (ox_up σ 10 0 11 0 (ox_w (s1 + s0)))) rfl ?_
  exact ox_R_ret rfl
def J_Mod_sum_64  (v1 : Int) (v2 : Int) (s0 : Int) (σ : ox_H) : Option (((Int × Int × ox_H) ⊕ Int × ox_H)) := if s0 = 0 then (J_Mod_sum_79 v1 v2 s0 0 (σ 10 0 11 0) σ) else (J_Mod_sum_79 v1 v2 s0 1 (σ 10 0 11 0) σ)
theorem L_Mod_sum_64  (v1 : Int) (v2 : Int) (s0 : Int) (σ : ox_H) (n tl : Nat) : ox_R (Sum.elim (fun (s : Int × Int × ox_H) => match s with | (v2, v3, σ) => ox_ev m_Mod_sum (ox_zz ox_ms (n + 4)) 4 0 tl [.inr (.inr (10, 0, 0)), .inl (v1), .inl (v2), .inl (v3), ox_d] [] σ) (fun r => some ((fun r : Int × ox_H => ((.inl (some (.inl r.1)), r.2) : ox_O)) r))) (J_Mod_sum_64 v1 v2 s0 σ) (ox_ev m_Mod_sum (ox_zz ox_ms (n + 4)) 64 0 tl [.inr (.inr (10, 0, 0)), .inl (v1), .inl (v2), ox_d, ox_d] [.inl (s0)] σ) := by
  unfold J_Mod_sum_64
  refine ox_R_to 6 (Y := if s0 = 0 then ox_ev m_Mod_sum (ox_zz ox_ms (n + 4)) 78 0 tl [.inr (.inr (10, 0, 0)), .inl (v1), .inl (v2), .inl (s0), ox_d] [.inl (σ 10 0 11 0), .inr (.inr (10, 0, 0))] σ else ox_ev m_Mod_sum (ox_zz ox_ms (n + 4)) 74 0 tl [.inr (.inr (10, 0, 0)), .inl (v1), .inl (v2), .inl (s0), ox_d] [.inl (σ 10 0 11 0), .inr (.inr (10, 0, 0))] σ) rfl ?_
  refine ox_R_if (fun _ => ?_) (fun _ => ?_)
  · refine ox_R_to 1 (Y := ox_ev m_Mod_sum (ox_zz ox_ms (n + 4)) 79 0 tl [.inr (.inr (10, 0, 0)), .inl (v1), .inl (v2), .inl (s0), ox_d] [.inl (0), .inl (σ 10 0 11 0), .inr (.inr (10, 0, 0))] σ) rfl ?_
    exact (L_Mod_sum_79 v1 v2 s0 0 (σ 10 0 11 0) σ n tl)
  · refine ox_R_to 2 (Y := ox_ev m_Mod_sum (ox_zz ox_ms (n + 4)) 79 0 tl [.inr (.inr (10, 0, 0)), .inl (v1), .inl (v2), .inl (s0), ox_d] [.inl (1), .inl (σ 10 0 11 0), .inr (.inr (10, 0, 0))] σ) rfl ?_
    exact (L_Mod_sum_79 v1 v2 s0 1 (σ 10 0 11 0) σ n tl)
def J_Mod_sum_59  (v1 : Int) (v2 : Int) (σ : ox_H) : Option (((Int × Int × ox_H) ⊕ Int × ox_H)) := (J_Mod_sum_64 v1 v2 1 σ)
theorem L_Mod_sum_59  (v1 : Int) (v2 : Int) (σ : ox_H) (n tl : Nat) : ox_R (Sum.elim (fun (s : Int × Int × ox_H) => match s with | (v2, v3, σ) => ox_ev m_Mod_sum (ox_zz ox_ms (n + 4)) 4 0 tl [.inr (.inr (10, 0, 0)), .inl (v1), .inl (v2), .inl (v3), ox_d] [] σ) (fun r => some ((fun r : Int × ox_H => ((.inl (some (.inl r.1)), r.2) : ox_O)) r))) (J_Mod_sum_59 v1 v2 σ) (ox_ev m_Mod_sum (ox_zz ox_ms (n + 4)) 59 0 tl [.inr (.inr (10, 0, 0)), .inl (v1), .inl (v2), ox_d, ox_d] [] σ) := by
  unfold J_Mod_sum_59
  refine ox_R_to 2 (Y := ox_ev m_Mod_sum (ox_zz ox_ms (n + 4)) 64 0 tl [.inr (.inr (10, 0, 0)), .inl (v1), .inl (v2), ox_d, ox_d] [.inl (1)] σ) rfl ?_
  exact (L_Mod_sum_64 v1 v2 1 σ n tl)
def B_Mod_sum_4  (v1 : Int) : (Int × Int × ox_H) → Option (((Int × Int × ox_H) ⊕ Int × ox_H)) := fun (v2, v3, σ) => if v3 = 0 then ((J_Mod_sum_86 σ).map .inr) else (if v2 = 6 then ((J_Mod_sum_22 σ).map .inr) else ((F_Mod_term v1 σ).bind fun r1 => (if r1.1 = 0 then ((J_Mod_sum_22 r1.2).map .inr) else ((F_Mod_look v1 (r1.2 10 0 11 0) r1.2).bind fun r2 => (if r2 = 43 then (J_Mod_sum_59 v1 (ox_w (v2 + 1)) r1.2) else (if r2 = 45 then (J_Mod_sum_59 v1 (ox_w (v2 + 1)) r1.2) else (if r2 = 42 then (J_Mod_sum_59 v1 (ox_w (v2 + 1)) r1.2) else (J_Mod_sum_64 v1 (ox_w (v2 + 1)) 0 r1.2))))))))
def J_Mod_sum_4  (v1 : Int) (v2 : Int) (v3 : Int) (σ : ox_H) : Option (Int × ox_H) := ox_lp (B_Mod_sum_4 v1) ox_fu (v2, v3, σ)
theorem L_Mod_sum_4  (v1 : Int) (v2 : Int) (v3 : Int) (σ : ox_H) (n tl : Nat) : ox_R (fun r => some ((fun r : Int × ox_H => ((.inl (some (.inl r.1)), r.2) : ox_O)) r)) (J_Mod_sum_4 v1 v2 v3 σ) (ox_ev m_Mod_sum (ox_zz ox_ms (n + 4)) 4 0 tl [.inr (.inr (10, 0, 0)), .inl (v1), .inl (v2), .inl (v3), ox_d] [] σ) := by
  unfold J_Mod_sum_4
  refine ox_R_lp (ψ := (fun (s : Int × Int × ox_H) => match s with | (v2, v3, σ) => ox_ev m_Mod_sum (ox_zz ox_ms (n + 4)) 4 0 tl [.inr (.inr (10, 0, 0)), .inl (v1), .inl (v2), .inl (v3), ox_d] [] σ)) ?_ ox_fu (v2, v3, σ)
  intro s
  obtain ⟨v2, v3, σ⟩ := s
  unfold B_Mod_sum_4
  refine ox_R_to 2 (Y := if v3 = 0 then ox_ev m_Mod_sum (ox_zz ox_ms (n + 4)) 86 0 tl [ox_d, ox_d, ox_d, ox_d, ox_d] [] σ else ox_ev m_Mod_sum (ox_zz ox_ms (n + 4)) 8 0 tl [.inr (.inr (10, 0, 0)), .inl (v1), .inl (v2), .inl (v3), ox_d] [] σ) rfl ?_
  refine ox_R_if (fun _ => ?_) (fun _ => ?_)
  · exact ox_R_map ((L_Mod_sum_86 σ n tl))
  · refine ox_R_to 3 (Y := if v2 = 6 then ox_ev m_Mod_sum (ox_zz ox_ms (n + 4)) 22 0 tl [ox_d, ox_d, ox_d, ox_d, ox_d] [] σ else ox_ev m_Mod_sum (ox_zz ox_ms (n + 4)) 14 0 tl [.inr (.inr (10, 0, 0)), .inl (v1), .inl (v2), .inl (v3), ox_d] [] σ) rfl ?_
    refine ox_R_if (fun _ => ?_) (fun _ => ?_)
    · exact ox_R_map ((L_Mod_sum_22 σ n tl))
    · refine ox_R_to 3 (Y := ox_back m_Mod_sum 16 1 [] ((ox_zz ox_ms (n + 4)) 59 tl [.inr (.inr (10, 0, 0)), .inl (v1)] σ) (fun pc9 x9 st9 σ9 => ox_ev m_Mod_sum (ox_zz ox_ms (n + 4)) pc9 0 tl (ox_kl (m_Mod_sum.2.2.1 pc9) (ox_xl x9 [.inr (.inr (10, 0, 0)), .inl (v1), .inl (v2), .inl (v3), ox_d])) st9 σ9)) rfl ?_
      refine ox_R_call (fc := (fun r : Int × ox_H => ((.inl (some (.inl r.1)), r.2) : ox_O))) (L_Mod_term v1 σ (n + 0) tl) (fun r1 => ?_)
      refine ox_R_of (Y := ox_ev m_Mod_sum (ox_zz ox_ms (n + 4)) 19 0 tl [.inr (.inr (10, 0, 0)), .inl (v1), .inl (v2), .inl (v3), ox_d] [.inl (r1.1)] r1.2) rfl ?_
      refine ox_R_to 1 (Y := if r1.1 = 0 then ox_ev m_Mod_sum (ox_zz ox_ms (n + 4)) 22 0 tl [ox_d, ox_d, ox_d, ox_d, ox_d] [] r1.2 else ox_ev m_Mod_sum (ox_zz ox_ms (n + 4)) 24 0 tl [.inr (.inr (10, 0, 0)), .inl (v1), .inl (v2), .inl (v3), ox_d] [] r1.2) rfl ?_
      refine ox_R_if (fun _ => ?_) (fun _ => ?_)
      · exact ox_R_map ((L_Mod_sum_22 r1.2 n tl))
      · refine ox_R_to 6 (Y := ox_back m_Mod_sum 33 1 [] ((ox_zz ox_ms (n + 4)) 46 tl [.inr (.inr (10, 0, 0)), .inl (v1), .inl (r1.2 10 0 11 0)] r1.2) (fun pc9 x9 st9 σ9 => ox_ev m_Mod_sum (ox_zz ox_ms (n + 4)) pc9 0 tl (ox_kl (m_Mod_sum.2.2.1 pc9) (ox_xl x9 [.inr (.inr (10, 0, 0)), .inl (v1), .inl (ox_w (v2 + 1)), .inl (v3), ox_d])) st9 σ9)) rfl ?_
        refine ox_R_call (fc := (fun r : Int => ((.inl (some (.inl r)), r1.2) : ox_O))) (L_Mod_look v1 (r1.2 10 0 11 0) r1.2 (n + 3) tl) (fun r2 => ?_)
        refine ox_R_of (Y := ox_ev m_Mod_sum (ox_zz ox_ms (n + 4)) 36 0 tl [.inr (.inr (10, 0, 0)), .inl (v1), .inl (ox_w (v2 + 1)), .inl (v3), ox_d] [.inl (r2)] r1.2) rfl ?_
        refine ox_R_to 4 (Y := if r2 = 43 then ox_ev m_Mod_sum (ox_zz ox_ms (n + 4)) 59 0 tl [.inr (.inr (10, 0, 0)), .inl (v1), .inl (ox_w (v2 + 1)), ox_d, ox_d] [] r1.2 else ox_ev m_Mod_sum (ox_zz ox_ms (n + 4)) 45 0 tl [.inr (.inr (10, 0, 0)), .inl (v1), .inl (ox_w (v2 + 1)), .inl (v3), .inl (r2)] [] r1.2) rfl ?_
        refine ox_R_if (fun _ => ?_) (fun _ => ?_)
        · exact (L_Mod_sum_59 v1 (ox_w (v2 + 1)) r1.2 n tl)
        · refine ox_R_to 3 (Y := if r2 = 45 then ox_ev m_Mod_sum (ox_zz ox_ms (n + 4)) 59 0 tl [.inr (.inr (10, 0, 0)), .inl (v1), .inl (ox_w (v2 + 1)), ox_d, ox_d] [] r1.2 else ox_ev m_Mod_sum (ox_zz ox_ms (n + 4)) 52 0 tl [.inr (.inr (10, 0, 0)), .inl (v1), .inl (ox_w (v2 + 1)), .inl (v3), .inl (r2)] [] r1.2) rfl ?_
          refine ox_R_if (fun _ => ?_) (fun _ => ?_)
          · exact (L_Mod_sum_59 v1 (ox_w (v2 + 1)) r1.2 n tl)
          · refine ox_R_to 3 (Y := if r2 = 42 then ox_ev m_Mod_sum (ox_zz ox_ms (n + 4)) 59 0 tl [.inr (.inr (10, 0, 0)), .inl (v1), .inl (ox_w (v2 + 1)), ox_d, ox_d] [] r1.2 else ox_ev m_Mod_sum (ox_zz ox_ms (n + 4)) 63 0 tl [.inr (.inr (10, 0, 0)), .inl (v1), .inl (ox_w (v2 + 1)), .inl (v3), .inl (r2)] [] r1.2) rfl ?_
            refine ox_R_if (fun _ => ?_) (fun _ => ?_)
            · exact (L_Mod_sum_59 v1 (ox_w (v2 + 1)) r1.2 n tl)
            · refine ox_R_to 1 (Y := ox_ev m_Mod_sum (ox_zz ox_ms (n + 4)) 64 0 tl [.inr (.inr (10, 0, 0)), .inl (v1), .inl (ox_w (v2 + 1)), ox_d, ox_d] [.inl (0)] r1.2) rfl ?_
              exact (L_Mod_sum_64 v1 (ox_w (v2 + 1)) 0 r1.2 n tl)
def F_Mod_sum  (a1 : Int) (σ : ox_H) : Option (Int × ox_H) := (J_Mod_sum_4 a1 0 1 σ)
theorem L_Mod_sum  (a1 : Int) (σ : ox_H) (n tl : Nat) : ox_R (fun r => some ((fun r : Int × ox_H => ((.inl (some (.inl r.1)), r.2) : ox_O)) r)) (F_Mod_sum a1 σ) (ox_zz ox_ms (n + 5) 60 tl [.inr (.inr (10, 0, 0)), .inl (a1)] σ) := by
  unfold F_Mod_sum
  refine ox_R_of (Y := ox_ev m_Mod_sum (ox_zz ox_ms (n + 4)) 0 0 tl [.inr (.inr (10, 0, 0)), .inl (a1), ox_d, ox_d, ox_d] [] σ) rfl ?_
  refine ox_R_to 4 (Y := ox_ev m_Mod_sum (ox_zz ox_ms (n + 4)) 4 0 tl [.inr (.inr (10, 0, 0)), .inl (a1), .inl (0), .inl (1), ox_d] [] σ) rfl ?_
  exact (L_Mod_sum_4 a1 0 1 σ n tl)
def J_Mod_row_95  (s0 : Int) (σ : ox_H) : Option (Int × ox_H) := some (s0 % 2, σ)
theorem L_Mod_row_95  (s0 : Int) (σ : ox_H) (n tl : Nat) : ox_R (fun r => some ((fun r : Int × ox_H => ((.inl (some (.inl r.1)), r.2) : ox_O)) r)) (J_Mod_row_95 s0 σ) (ox_ev m_Mod_row (ox_zz ox_ms (n + 5)) 95 0 tl [ox_d, ox_d, ox_d] [.inl (s0)] σ) := by
  unfold J_Mod_row_95
  refine ox_R_to 1 (Y := some (.inl (some (.inl (s0 % 2))), σ)) rfl ?_
  exact ox_R_ret rfl
def J_Mod_row_94  (σ : ox_H) : Option (Int × ox_H) := (J_Mod_row_95 0 σ)
theorem L_Mod_row_94  (σ : ox_H) (n tl : Nat) : ox_R (fun r => some ((fun r : Int × ox_H => ((.inl (some (.inl r.1)), r.2) : ox_O)) r)) (J_Mod_row_94 σ) (ox_ev m_Mod_row (ox_zz ox_ms (n + 5)) 94 0 tl [ox_d, ox_d, ox_d] [] σ) := by
  unfold J_Mod_row_94
  refine ox_R_to 1 (Y := ox_ev m_Mod_row (ox_zz ox_ms (n + 5)) 95 0 tl [ox_d, ox_d, ox_d] [.inl (0)] σ) rfl ?_
  exact (L_Mod_row_95 0 σ n tl)
def J_Mod_row_78  (v1 : Int) (v2 : Int) (σ : ox_H) : Option (Int × ox_H) := if v2 ≤ 0 then (J_Mod_row_94 σ) else ((F_Mod_ends v1 σ).bind fun r1 => (if r1 = 0 then (J_Mod_row_94 σ) else (J_Mod_row_95 1 σ)))
theorem L_Mod_row_78  (v1 : Int) (v2 : Int) (σ : ox_H) (n tl : Nat) : ox_R (fun r => some ((fun r : Int × ox_H => ((.inl (some (.inl r.1)), r.2) : ox_O)) r)) (J_Mod_row_78 v1 v2 σ) (ox_ev m_Mod_row (ox_zz ox_ms (n + 5)) 78 0 tl [.inr (.inr (10, 0, 0)), .inl (v1), .inl (v2)] [] σ) := by
  unfold J_Mod_row_78
  refine ox_R_to 2 (Y := if v2 ≤ 0 then ox_ev m_Mod_row (ox_zz ox_ms (n + 5)) 94 0 tl [ox_d, ox_d, ox_d] [] σ else ox_ev m_Mod_row (ox_zz ox_ms (n + 5)) 82 0 tl [.inr (.inr (10, 0, 0)), .inl (v1), .inl (v2)] [] σ) rfl ?_
  refine ox_R_if (fun _ => ?_) (fun _ => ?_)
  · exact (L_Mod_row_94 σ n tl)
  · refine ox_R_to 3 (Y := ox_back m_Mod_row 84 1 [] ((ox_zz ox_ms (n + 5)) 52 tl [.inr (.inr (10, 0, 0)), .inl (v1)] σ) (fun pc9 x9 st9 σ9 => ox_ev m_Mod_row (ox_zz ox_ms (n + 5)) pc9 0 tl (ox_kl (m_Mod_row.2.2.1 pc9) (ox_xl x9 [.inr (.inr (10, 0, 0)), .inl (v1), .inl (v2)])) st9 σ9)) rfl ?_
    refine ox_R_call (fc := (fun r : Int => ((.inl (some (.inl r)), σ) : ox_O))) (L_Mod_ends v1 σ (n + 4) tl) (fun r1 => ?_)
    refine ox_R_of (Y := ox_ev m_Mod_row (ox_zz ox_ms (n + 5)) 87 0 tl [.inr (.inr (10, 0, 0)), .inl (v1), .inl (v2)] [.inl (r1)] σ) rfl ?_
    refine ox_R_to 1 (Y := if r1 = 0 then ox_ev m_Mod_row (ox_zz ox_ms (n + 5)) 94 0 tl [ox_d, ox_d, ox_d] [] σ else ox_ev m_Mod_row (ox_zz ox_ms (n + 5)) 90 0 tl [.inr (.inr (10, 0, 0)), .inl (v1), .inl (v2)] [] σ) rfl ?_
    refine ox_R_if (fun _ => ?_) (fun _ => ?_)
    · exact (L_Mod_row_94 σ n tl)
    · refine ox_R_to 2 (Y := ox_ev m_Mod_row (ox_zz ox_ms (n + 5)) 95 0 tl [ox_d, ox_d, ox_d] [.inl (1)] σ) rfl ?_
      exact (L_Mod_row_95 1 σ n tl)
def J_Mod_row_76  (σ : ox_H) : Option (Int × ox_H) := some (0, σ)
theorem L_Mod_row_76  (σ : ox_H) (n tl : Nat) : ox_R (fun r => some ((fun r : Int × ox_H => ((.inl (some (.inl r.1)), r.2) : ox_O)) r)) (J_Mod_row_76 σ) (ox_ev m_Mod_row (ox_zz ox_ms (n + 5)) 76 0 tl [ox_d, ox_d, ox_d] [] σ) := by
  unfold J_Mod_row_76
  refine ox_R_to 2 (Y := some (.inl (some (.inl (0))), σ)) rfl ?_
  exact ox_R_ret rfl
def J_Mod_row_64  (v1 : Int) (v2 : Int) (s0 : Int) (s1 : Int) (σ : ox_H) : Option (((Int × ox_H) ⊕ Int × ox_H)) := (F_Mod_number v1 (ox_up σ 10 0 11 0 (ox_w (s1 + s0)))).bind fun r2 => (if 0 ≤ r2.1 then (some (.inl (v2, r2.2))) else ((J_Mod_row_76 r2.2).map .inr))
theorem L_Mod_row_64  (v1 : Int) (v2 : Int) (s0 : Int) (s1 : Int) (σ : ox_H) (n tl : Nat) : ox_R (Sum.elim (fun (s : Int × ox_H) => match s with | (v2, σ) => ox_ev m_Mod_row (ox_zz ox_ms (n + 5)) 7 0 tl [.inr (.inr (10, 0, 0)), .inl (v1), .inl (v2)] [] σ) (fun r => some ((fun r : Int × ox_H => ((.inl (some (.inl r.1)), r.2) : ox_O)) r))) (J_Mod_row_64 v1 v2 s0 s1 σ) (ox_ev m_Mod_row (ox_zz ox_ms (n + 5)) 64 0 tl [.inr (.inr (10, 0, 0)), .inl (v1), .inl (v2)] [.inl (s0), .inl (s1), .inr (.inr (10, 0, 0))] σ) := by
  unfold J_Mod_row_64
  refine ox_R_to 5 (Y := ox_back m_Mod_row 70 1 [] ((ox_zz ox_ms (n + 5)) 49 tl [.inr (.inr (10, 0, 0)), .inl (v1)] (ox_up σ 10 0 11 0 (ox_w (s1 + s0)))) (fun pc9 x9 st9 σ9 => ox_ev m_Mod_row (ox_zz ox_ms (n + 5)) pc9 0 tl (ox_kl (m_Mod_row.2.2.1 pc9) (ox_xl x9 [.inr (.inr (10, 0, 0)), .inl (v1), .inl (v2)])) st9 σ9)) rfl ?_
  refine ox_R_call (fc := (fun r : Int × ox_H => ((.inl (some (.inl r.1)), r.2) : ox_O))) (L_Mod_number v1 (ox_up σ 10 0 11 0 (ox_w (s1 + s0))) (n + 2) tl) (fun r2 => ?_)
  refine ox_R_of (Y := ox_ev m_Mod_row (ox_zz ox_ms (n + 5)) 73 0 tl [.inr (.inr (10, 0, 0)), .inl (v1), .inl (v2)] [.inl (r2.1)] r2.2) rfl ?_
  refine ox_R_to 1 (Y := if 0 ≤ r2.1 then ox_ev m_Mod_row (ox_zz ox_ms (n + 5)) 7 0 tl [.inr (.inr (10, 0, 0)), .inl (v1), .inl (v2)] [] r2.2 else ox_ev m_Mod_row (ox_zz ox_ms (n + 5)) 76 0 tl [ox_d, ox_d, ox_d] [] r2.2) rfl ?_
  refine ox_R_if (fun _ => ?_) (fun _ => ?_)
  · exact ox_R_ret rfl
  · exact ox_R_map ((L_Mod_row_76 r2.2 n tl))
def J_Mod_row_38  (σ : ox_H) : Option (Int × ox_H) := some (0, σ)
theorem L_Mod_row_38  (σ : ox_H) (n tl : Nat) : ox_R (fun r => some ((fun r : Int × ox_H => ((.inl (some (.inl r.1)), r.2) : ox_O)) r)) (J_Mod_row_38 σ) (ox_ev m_Mod_row (ox_zz ox_ms (n + 5)) 38 0 tl [ox_d, ox_d, ox_d] [] σ) := by
  unfold J_Mod_row_38
  refine ox_R_to 2 (Y := some (.inl (some (.inl (0))), σ)) rfl ?_
  exact ox_R_ret rfl
def B_Mod_row_7  (v1 : Int) : (Int × ox_H) → Option (((Int × ox_H) ⊕ Int × ox_H)) := fun (v2, σ) => (F_Mod_takes v1 124 σ).bind fun r3 => (if r3.1 = 0 then ((J_Mod_row_78 v1 v2 r3.2).map .inr) else ((F_Mod_takes v1 61 r3.2).bind fun r4 => (if r4.1 = 0 then ((F_Mod_look v1 (r4.2 10 0 11 0) r4.2).bind fun r5 => (if r5 = 45 then (J_Mod_row_64 v1 (ox_w (v2 + 1)) 1 (r4.2 10 0 11 0) r4.2) else (J_Mod_row_64 v1 (ox_w (v2 + 1)) 0 (r4.2 10 0 11 0) r4.2))) else ((F_Mod_sum v1 r4.2).bind fun r6 => (if r6.1 = 0 then ((J_Mod_row_38 r6.2).map .inr) else (some (.inl (ox_w (v2 + 1), r6.2))))))))
def J_Mod_row_7  (v1 : Int) (v2 : Int) (σ : ox_H) : Option (Int × ox_H) := ox_lp (B_Mod_row_7 v1) ox_fu (v2, σ)
theorem L_Mod_row_7  (v1 : Int) (v2 : Int) (σ : ox_H) (n tl : Nat) : ox_R (fun r => some ((fun r : Int × ox_H => ((.inl (some (.inl r.1)), r.2) : ox_O)) r)) (J_Mod_row_7 v1 v2 σ) (ox_ev m_Mod_row (ox_zz ox_ms (n + 5)) 7 0 tl [.inr (.inr (10, 0, 0)), .inl (v1), .inl (v2)] [] σ) := by
  unfold J_Mod_row_7
  refine ox_R_lp (ψ := (fun (s : Int × ox_H) => match s with | (v2, σ) => ox_ev m_Mod_row (ox_zz ox_ms (n + 5)) 7 0 tl [.inr (.inr (10, 0, 0)), .inl (v1), .inl (v2)] [] σ)) ?_ ox_fu (v2, σ)
  intro s
  obtain ⟨v2, σ⟩ := s
  unfold B_Mod_row_7
  refine ox_R_to 4 (Y := ox_back m_Mod_row 11 1 [] ((ox_zz ox_ms (n + 5)) 50 tl [.inr (.inr (10, 0, 0)), .inl (v1), .inl (124)] σ) (fun pc9 x9 st9 σ9 => ox_ev m_Mod_row (ox_zz ox_ms (n + 5)) pc9 0 tl (ox_kl (m_Mod_row.2.2.1 pc9) (ox_xl x9 [.inr (.inr (10, 0, 0)), .inl (v1), .inl (v2)])) st9 σ9)) rfl ?_
  refine ox_R_call (fc := (fun r : Int × ox_H => ((.inl (some (.inl r.1)), r.2) : ox_O))) (L_Mod_takes v1 124 σ (n + 3) tl) (fun r3 => ?_)
  refine ox_R_of (Y := ox_ev m_Mod_row (ox_zz ox_ms (n + 5)) 14 0 tl [.inr (.inr (10, 0, 0)), .inl (v1), .inl (v2)] [.inl (r3.1)] r3.2) rfl ?_
  refine ox_R_to 1 (Y := if r3.1 = 0 then ox_ev m_Mod_row (ox_zz ox_ms (n + 5)) 78 0 tl [.inr (.inr (10, 0, 0)), .inl (v1), .inl (v2)] [] r3.2 else ox_ev m_Mod_row (ox_zz ox_ms (n + 5)) 17 0 tl [.inr (.inr (10, 0, 0)), .inl (v1), .inl (v2)] [] r3.2) rfl ?_
  refine ox_R_if (fun _ => ?_) (fun _ => ?_)
  · exact ox_R_map ((L_Mod_row_78 v1 v2 r3.2 n tl))
  · refine ox_R_to 5 (Y := ox_back m_Mod_row 24 1 [] ((ox_zz ox_ms (n + 5)) 50 tl [.inr (.inr (10, 0, 0)), .inl (v1), .inl (61)] r3.2) (fun pc9 x9 st9 σ9 => ox_ev m_Mod_row (ox_zz ox_ms (n + 5)) pc9 0 tl (ox_kl (m_Mod_row.2.2.1 pc9) (ox_xl x9 [.inr (.inr (10, 0, 0)), .inl (v1), .inl (ox_w (v2 + 1))])) st9 σ9)) rfl ?_
    refine ox_R_call (fc := (fun r : Int × ox_H => ((.inl (some (.inl r.1)), r.2) : ox_O))) (L_Mod_takes v1 61 r3.2 (n + 3) tl) (fun r4 => ?_)
    refine ox_R_of (Y := ox_ev m_Mod_row (ox_zz ox_ms (n + 5)) 27 0 tl [.inr (.inr (10, 0, 0)), .inl (v1), .inl (ox_w (v2 + 1))] [.inl (r4.1)] r4.2) rfl ?_
    refine ox_R_to 1 (Y := if r4.1 = 0 then ox_ev m_Mod_row (ox_zz ox_ms (n + 5)) 40 0 tl [.inr (.inr (10, 0, 0)), .inl (v1), .inl (ox_w (v2 + 1))] [] r4.2 else ox_ev m_Mod_row (ox_zz ox_ms (n + 5)) 30 0 tl [.inr (.inr (10, 0, 0)), .inl (v1), .inl (ox_w (v2 + 1))] [] r4.2) rfl ?_
    refine ox_R_if (fun _ => ?_) (fun _ => ?_)
    · refine ox_R_to 8 (Y := ox_back m_Mod_row 51 1 [.inl (r4.2 10 0 11 0), .inr (.inr (10, 0, 0))] ((ox_zz ox_ms (n + 5)) 46 tl [.inr (.inr (10, 0, 0)), .inl (v1), .inl (r4.2 10 0 11 0)] r4.2) (fun pc9 x9 st9 σ9 => ox_ev m_Mod_row (ox_zz ox_ms (n + 5)) pc9 0 tl (ox_kl (m_Mod_row.2.2.1 pc9) (ox_xl x9 [.inr (.inr (10, 0, 0)), .inl (v1), .inl (ox_w (v2 + 1))])) st9 σ9)) rfl ?_
      refine ox_R_call (fc := (fun r : Int => ((.inl (some (.inl r)), r4.2) : ox_O))) (L_Mod_look v1 (r4.2 10 0 11 0) r4.2 (n + 4) tl) (fun r5 => ?_)
      refine ox_R_of (Y := ox_ev m_Mod_row (ox_zz ox_ms (n + 5)) 54 0 tl [.inr (.inr (10, 0, 0)), .inl (v1), .inl (ox_w (v2 + 1))] [.inl (r5), .inl (r4.2 10 0 11 0), .inr (.inr (10, 0, 0))] r4.2) rfl ?_
      refine ox_R_to 2 (Y := if r5 = 45 then ox_ev m_Mod_row (ox_zz ox_ms (n + 5)) 59 0 tl [.inr (.inr (10, 0, 0)), .inl (v1), .inl (ox_w (v2 + 1))] [.inl (r4.2 10 0 11 0), .inr (.inr (10, 0, 0))] r4.2 else ox_ev m_Mod_row (ox_zz ox_ms (n + 5)) 63 0 tl [.inr (.inr (10, 0, 0)), .inl (v1), .inl (ox_w (v2 + 1))] [.inl (r4.2 10 0 11 0), .inr (.inr (10, 0, 0))] r4.2) rfl ?_
      refine ox_R_if (fun _ => ?_) (fun _ => ?_)
      · refine ox_R_to 2 (Y := ox_ev m_Mod_row (ox_zz ox_ms (n + 5)) 64 0 tl [.inr (.inr (10, 0, 0)), .inl (v1), .inl (ox_w (v2 + 1))] [.inl (1), .inl (r4.2 10 0 11 0), .inr (.inr (10, 0, 0))] r4.2) rfl ?_
        exact (L_Mod_row_64 v1 (ox_w (v2 + 1)) 1 (r4.2 10 0 11 0) r4.2 n tl)
      · refine ox_R_to 1 (Y := ox_ev m_Mod_row (ox_zz ox_ms (n + 5)) 64 0 tl [.inr (.inr (10, 0, 0)), .inl (v1), .inl (ox_w (v2 + 1))] [.inl (0), .inl (r4.2 10 0 11 0), .inr (.inr (10, 0, 0))] r4.2) rfl ?_
        exact (L_Mod_row_64 v1 (ox_w (v2 + 1)) 0 (r4.2 10 0 11 0) r4.2 n tl)
    · refine ox_R_to 3 (Y := ox_back m_Mod_row 32 1 [] ((ox_zz ox_ms (n + 5)) 60 tl [.inr (.inr (10, 0, 0)), .inl (v1)] r4.2) (fun pc9 x9 st9 σ9 => ox_ev m_Mod_row (ox_zz ox_ms (n + 5)) pc9 0 tl (ox_kl (m_Mod_row.2.2.1 pc9) (ox_xl x9 [.inr (.inr (10, 0, 0)), .inl (v1), .inl (ox_w (v2 + 1))])) st9 σ9)) rfl ?_
      refine ox_R_call (fc := (fun r : Int × ox_H => ((.inl (some (.inl r.1)), r.2) : ox_O))) (L_Mod_sum v1 r4.2 (n + 0) tl) (fun r6 => ?_)
      refine ox_R_of (Y := ox_ev m_Mod_row (ox_zz ox_ms (n + 5)) 35 0 tl [.inr (.inr (10, 0, 0)), .inl (v1), .inl (ox_w (v2 + 1))] [.inl (r6.1)] r6.2) rfl ?_
      refine ox_R_to 1 (Y := if r6.1 = 0 then ox_ev m_Mod_row (ox_zz ox_ms (n + 5)) 38 0 tl [ox_d, ox_d, ox_d] [] r6.2 else ox_ev m_Mod_row (ox_zz ox_ms (n + 5)) 7 0 tl [.inr (.inr (10, 0, 0)), .inl (v1), .inl (ox_w (v2 + 1))] [] r6.2) rfl ?_
      refine ox_R_if (fun _ => ?_) (fun _ => ?_)
      · exact ox_R_map ((L_Mod_row_38 r6.2 n tl))
      · exact ox_R_ret rfl
def F_Mod_row  (a1 : Int) (σ : ox_H) : Option (Int × ox_H) := (J_Mod_row_7 a1 0 (ox_up σ 10 0 11 0 0))
theorem L_Mod_row  (a1 : Int) (σ : ox_H) (n tl : Nat) : ox_R (fun r => some ((fun r : Int × ox_H => ((.inl (some (.inl r.1)), r.2) : ox_O)) r)) (F_Mod_row a1 σ) (ox_zz ox_ms (n + 6) 61 tl [.inr (.inr (10, 0, 0)), .inl (a1)] σ) := by
  unfold F_Mod_row
  refine ox_R_of (Y := ox_ev m_Mod_row (ox_zz ox_ms (n + 5)) 0 0 tl [.inr (.inr (10, 0, 0)), .inl (a1), ox_d] [] σ) rfl ?_
  refine ox_R_to 5 (Y := ox_ev m_Mod_row (ox_zz ox_ms (n + 5)) 7 0 tl [.inr (.inr (10, 0, 0)), .inl (a1), .inl (0)] [] (ox_up σ 10 0 11 0 0)) rfl ?_
  exact (L_Mod_row_7 a1 0 (ox_up σ 10 0 11 0 0) n tl)
def J_Mod_code_54  (s0 : Int) (σ : ox_H) : Option (Int × ox_H) := some (s0 % 2, σ)
theorem L_Mod_code_54  (s0 : Int) (σ : ox_H) (n tl : Nat) : ox_R (fun r => some ((fun r : Int × ox_H => ((.inl (some (.inl r.1)), r.2) : ox_O)) r)) (J_Mod_code_54 s0 σ) (ox_ev m_Mod_code (ox_zz ox_ms (n + 5)) 54 0 tl [ox_d, ox_d] [.inl (s0)] σ) := by
  unfold J_Mod_code_54
  refine ox_R_to 1 (Y := some (.inl (some (.inl (s0 % 2))), σ)) rfl ?_
  exact ox_R_ret rfl
def J_Mod_code_53  (σ : ox_H) : Option (Int × ox_H) := (J_Mod_code_54 0 σ)
theorem L_Mod_code_53  (σ : ox_H) (n tl : Nat) : ox_R (fun r => some ((fun r : Int × ox_H => ((.inl (some (.inl r.1)), r.2) : ox_O)) r)) (J_Mod_code_53 σ) (ox_ev m_Mod_code (ox_zz ox_ms (n + 5)) 53 0 tl [ox_d, ox_d] [] σ) := by
  unfold J_Mod_code_53
  refine ox_R_to 1 (Y := ox_ev m_Mod_code (ox_zz ox_ms (n + 5)) 54 0 tl [ox_d, ox_d] [.inl (0)] σ) rfl ?_
  exact (L_Mod_code_54 0 σ n tl)
def F_Mod_code  (a1 : Int) (σ : ox_H) : Option (Int × ox_H) := (F_Mod_takes a1 123 (ox_up σ 10 0 11 0 0)).bind fun r1 => (if r1.1 = 0 then (J_Mod_code_53 r1.2) else ((F_Mod_letter a1 r1.2).bind fun r2 => (if r2.1 = 0 then (J_Mod_code_53 r2.2) else ((F_Mod_takes a1 125 r2.2).bind fun r3 => (if r3.1 = 0 then (J_Mod_code_53 r3.2) else ((F_Mod_sum a1 r3.2).bind fun r4 => (if r4.1 = 0 then (J_Mod_code_53 r4.2) else ((F_Mod_ends a1 r4.2).bind fun r5 => (if r5 = 0 then (J_Mod_code_53 r4.2) else (J_Mod_code_54 1 r4.2))))))))))
theorem L_Mod_code  (a1 : Int) (σ : ox_H) (n tl : Nat) : ox_R (fun r => some ((fun r : Int × ox_H => ((.inl (some (.inl r.1)), r.2) : ox_O)) r)) (F_Mod_code a1 σ) (ox_zz ox_ms (n + 6) 62 tl [.inr (.inr (10, 0, 0)), .inl (a1)] σ) := by
  unfold F_Mod_code
  refine ox_R_of (Y := ox_ev m_Mod_code (ox_zz ox_ms (n + 5)) 0 0 tl [.inr (.inr (10, 0, 0)), .inl (a1)] [] σ) rfl ?_
  refine ox_R_to 7 (Y := ox_back m_Mod_code 9 1 [] ((ox_zz ox_ms (n + 5)) 50 tl [.inr (.inr (10, 0, 0)), .inl (a1), .inl (123)] (ox_up σ 10 0 11 0 0)) (fun pc9 x9 st9 σ9 => ox_ev m_Mod_code (ox_zz ox_ms (n + 5)) pc9 0 tl (ox_kl (m_Mod_code.2.2.1 pc9) (ox_xl x9 [.inr (.inr (10, 0, 0)), .inl (a1)])) st9 σ9)) rfl ?_
  refine ox_R_call (fc := (fun r : Int × ox_H => ((.inl (some (.inl r.1)), r.2) : ox_O))) (L_Mod_takes a1 123 (ox_up σ 10 0 11 0 0) (n + 3) tl) (fun r1 => ?_)
  refine ox_R_of (Y := ox_ev m_Mod_code (ox_zz ox_ms (n + 5)) 12 0 tl [.inr (.inr (10, 0, 0)), .inl (a1)] [.inl (r1.1)] r1.2) rfl ?_
  refine ox_R_to 1 (Y := if r1.1 = 0 then ox_ev m_Mod_code (ox_zz ox_ms (n + 5)) 53 0 tl [ox_d, ox_d] [] r1.2 else ox_ev m_Mod_code (ox_zz ox_ms (n + 5)) 15 0 tl [.inr (.inr (10, 0, 0)), .inl (a1)] [] r1.2) rfl ?_
  refine ox_R_if (fun _ => ?_) (fun _ => ?_)
  · exact (L_Mod_code_53 r1.2 n tl)
  · refine ox_R_to 3 (Y := ox_back m_Mod_code 17 1 [] ((ox_zz ox_ms (n + 5)) 51 tl [.inr (.inr (10, 0, 0)), .inl (a1)] r1.2) (fun pc9 x9 st9 σ9 => ox_ev m_Mod_code (ox_zz ox_ms (n + 5)) pc9 0 tl (ox_kl (m_Mod_code.2.2.1 pc9) (ox_xl x9 [.inr (.inr (10, 0, 0)), .inl (a1)])) st9 σ9)) rfl ?_
    refine ox_R_call (fc := (fun r : Int × ox_H => ((.inl (some (.inl r.1)), r.2) : ox_O))) (L_Mod_letter a1 r1.2 (n + 2) tl) (fun r2 => ?_)
    refine ox_R_of (Y := ox_ev m_Mod_code (ox_zz ox_ms (n + 5)) 20 0 tl [.inr (.inr (10, 0, 0)), .inl (a1)] [.inl (r2.1)] r2.2) rfl ?_
    refine ox_R_to 1 (Y := if r2.1 = 0 then ox_ev m_Mod_code (ox_zz ox_ms (n + 5)) 53 0 tl [ox_d, ox_d] [] r2.2 else ox_ev m_Mod_code (ox_zz ox_ms (n + 5)) 23 0 tl [.inr (.inr (10, 0, 0)), .inl (a1)] [] r2.2) rfl ?_
    refine ox_R_if (fun _ => ?_) (fun _ => ?_)
    · exact (L_Mod_code_53 r2.2 n tl)
    · refine ox_R_to 4 (Y := ox_back m_Mod_code 27 1 [] ((ox_zz ox_ms (n + 5)) 50 tl [.inr (.inr (10, 0, 0)), .inl (a1), .inl (125)] r2.2) (fun pc9 x9 st9 σ9 => ox_ev m_Mod_code (ox_zz ox_ms (n + 5)) pc9 0 tl (ox_kl (m_Mod_code.2.2.1 pc9) (ox_xl x9 [.inr (.inr (10, 0, 0)), .inl (a1)])) st9 σ9)) rfl ?_
      refine ox_R_call (fc := (fun r : Int × ox_H => ((.inl (some (.inl r.1)), r.2) : ox_O))) (L_Mod_takes a1 125 r2.2 (n + 3) tl) (fun r3 => ?_)
      refine ox_R_of (Y := ox_ev m_Mod_code (ox_zz ox_ms (n + 5)) 30 0 tl [.inr (.inr (10, 0, 0)), .inl (a1)] [.inl (r3.1)] r3.2) rfl ?_
      refine ox_R_to 1 (Y := if r3.1 = 0 then ox_ev m_Mod_code (ox_zz ox_ms (n + 5)) 53 0 tl [ox_d, ox_d] [] r3.2 else ox_ev m_Mod_code (ox_zz ox_ms (n + 5)) 33 0 tl [.inr (.inr (10, 0, 0)), .inl (a1)] [] r3.2) rfl ?_
      refine ox_R_if (fun _ => ?_) (fun _ => ?_)
      · exact (L_Mod_code_53 r3.2 n tl)
      · refine ox_R_to 3 (Y := ox_back m_Mod_code 35 1 [] ((ox_zz ox_ms (n + 5)) 60 tl [.inr (.inr (10, 0, 0)), .inl (a1)] r3.2) (fun pc9 x9 st9 σ9 => ox_ev m_Mod_code (ox_zz ox_ms (n + 5)) pc9 0 tl (ox_kl (m_Mod_code.2.2.1 pc9) (ox_xl x9 [.inr (.inr (10, 0, 0)), .inl (a1)])) st9 σ9)) rfl ?_
        refine ox_R_call (fc := (fun r : Int × ox_H => ((.inl (some (.inl r.1)), r.2) : ox_O))) (L_Mod_sum a1 r3.2 (n + 0) tl) (fun r4 => ?_)
        refine ox_R_of (Y := ox_ev m_Mod_code (ox_zz ox_ms (n + 5)) 38 0 tl [.inr (.inr (10, 0, 0)), .inl (a1)] [.inl (r4.1)] r4.2) rfl ?_
        refine ox_R_to 1 (Y := if r4.1 = 0 then ox_ev m_Mod_code (ox_zz ox_ms (n + 5)) 53 0 tl [ox_d, ox_d] [] r4.2 else ox_ev m_Mod_code (ox_zz ox_ms (n + 5)) 41 0 tl [.inr (.inr (10, 0, 0)), .inl (a1)] [] r4.2) rfl ?_
        refine ox_R_if (fun _ => ?_) (fun _ => ?_)
        · exact (L_Mod_code_53 r4.2 n tl)
        · refine ox_R_to 3 (Y := ox_back m_Mod_code 43 1 [] ((ox_zz ox_ms (n + 5)) 52 tl [.inr (.inr (10, 0, 0)), .inl (a1)] r4.2) (fun pc9 x9 st9 σ9 => ox_ev m_Mod_code (ox_zz ox_ms (n + 5)) pc9 0 tl (ox_kl (m_Mod_code.2.2.1 pc9) (ox_xl x9 [.inr (.inr (10, 0, 0)), .inl (a1)])) st9 σ9)) rfl ?_
          refine ox_R_call (fc := (fun r : Int => ((.inl (some (.inl r)), r4.2) : ox_O))) (L_Mod_ends a1 r4.2 (n + 4) tl) (fun r5 => ?_)
          refine ox_R_of (Y := ox_ev m_Mod_code (ox_zz ox_ms (n + 5)) 46 0 tl [.inr (.inr (10, 0, 0)), .inl (a1)] [.inl (r5)] r4.2) rfl ?_
          refine ox_R_to 1 (Y := if r5 = 0 then ox_ev m_Mod_code (ox_zz ox_ms (n + 5)) 53 0 tl [ox_d, ox_d] [] r4.2 else ox_ev m_Mod_code (ox_zz ox_ms (n + 5)) 49 0 tl [.inr (.inr (10, 0, 0)), .inl (a1)] [] r4.2) rfl ?_
          refine ox_R_if (fun _ => ?_) (fun _ => ?_)
          · exact (L_Mod_code_53 r4.2 n tl)
          · refine ox_R_to 2 (Y := ox_ev m_Mod_code (ox_zz ox_ms (n + 5)) 54 0 tl [ox_d, ox_d] [.inl (1)] r4.2) rfl ?_
            exact (L_Mod_code_54 1 r4.2 n tl)
def J_Mod_kindOf_101  (s0 : Int) (σ : ox_H) : Option (Int × ox_H) := some (s0, σ)
theorem L_Mod_kindOf_101  (s0 : Int) (σ : ox_H) (n tl : Nat) : ox_R (fun r => some ((fun r : Int × ox_H => ((.inl (some (.inl r.1)), r.2) : ox_O)) r)) (J_Mod_kindOf_101 s0 σ) (ox_ev m_Mod_kindOf (ox_zz ox_ms (n + 6)) 101 0 tl [ox_d, ox_d] [.inl (s0)] σ) := by
  unfold J_Mod_kindOf_101
  refine ox_R_to 1 (Y := some (.inl (some (.inl (s0))), σ)) rfl ?_
  exact ox_R_ret rfl
def J_Mod_kindOf_99  (σ : ox_H) : Option (Int × ox_H) := (J_Mod_kindOf_101 7 σ)
theorem L_Mod_kindOf_99  (σ : ox_H) (n tl : Nat) : ox_R (fun r => some ((fun r : Int × ox_H => ((.inl (some (.inl r.1)), r.2) : ox_O)) r)) (J_Mod_kindOf_99 σ) (ox_ev m_Mod_kindOf (ox_zz ox_ms (n + 6)) 99 0 tl [ox_d, ox_d] [] σ) := by
  unfold J_Mod_kindOf_99
  refine ox_R_to 1 (Y := ox_ev m_Mod_kindOf (ox_zz ox_ms (n + 6)) 101 0 tl [ox_d, ox_d] [.inl (7)] σ) rfl ?_
  exact (L_Mod_kindOf_101 7 σ n tl)
def F_Mod_kindOf  (a1 : Int) (σ : ox_H) : Option (Int × ox_H) := (F_Mod_heading a1 σ).bind fun r1 => (if r1.1 = 0 then ((F_Mod_isProperty a1 r1.2).bind fun r2 => (if r2.1 = 0 then ((F_Mod_date a1 r2.2).bind fun r3 => (if r3.1 = 0 then ((F_Mod_clock a1 r3.2).bind fun r4 => (if r4.1 = 0 then ((F_Mod_row a1 r4.2).bind fun r5 => (if r5.1 = 0 then ((F_Mod_code a1 r5.2).bind fun r6 => (if r6.1 = 0 then (if 0 ≤ a1 ∧ a1.toNat < 60 then (if (r6.2 10 0 1 a1.toNat) = 2 then ((F_Mod_look a1 0 r6.2).bind fun r7 => (if r7 = 33 then ((F_Mod_look a1 1 r6.2).bind fun r8 => ((F_Mod_isLetter r8 r6.2).bind fun r9 => (if r9 = 0 then (J_Mod_kindOf_99 r6.2) else (J_Mod_kindOf_101 6 r6.2)))) else (J_Mod_kindOf_99 r6.2))) else (J_Mod_kindOf_99 r6.2)) else none) else (some (5, r6.2)))) else (some (4, r5.2)))) else (some (3, r4.2)))) else (some (2, r3.2)))) else (some (1, r2.2)))) else (some (0, r1.2)))
theorem L_Mod_kindOf  (a1 : Int) (σ : ox_H) (n tl : Nat) : ox_R (fun r => some ((fun r : Int × ox_H => ((.inl (some (.inl r.1)), r.2) : ox_O)) r)) (F_Mod_kindOf a1 σ) (ox_zz ox_ms (n + 7) 63 tl [.inr (.inr (10, 0, 0)), .inl (a1)] σ) := by
  unfold F_Mod_kindOf
  refine ox_R_of (Y := ox_ev m_Mod_kindOf (ox_zz ox_ms (n + 6)) 0 0 tl [.inr (.inr (10, 0, 0)), .inl (a1)] [] σ) rfl ?_
  refine ox_R_to 3 (Y := ox_back m_Mod_kindOf 2 1 [] ((ox_zz ox_ms (n + 6)) 55 tl [.inr (.inr (10, 0, 0)), .inl (a1)] σ) (fun pc9 x9 st9 σ9 => ox_ev m_Mod_kindOf (ox_zz ox_ms (n + 6)) pc9 0 tl (ox_kl (m_Mod_kindOf.2.2.1 pc9) (ox_xl x9 [.inr (.inr (10, 0, 0)), .inl (a1)])) st9 σ9)) rfl ?_
  refine ox_R_call (fc := (fun r : Int × ox_H => ((.inl (some (.inl r.1)), r.2) : ox_O))) (L_Mod_heading a1 σ (n + 2) tl) (fun r1 => ?_)
  refine ox_R_of (Y := ox_ev m_Mod_kindOf (ox_zz ox_ms (n + 6)) 5 0 tl [.inr (.inr (10, 0, 0)), .inl (a1)] [.inl (r1.1)] r1.2) rfl ?_
  refine ox_R_to 1 (Y := if r1.1 = 0 then ox_ev m_Mod_kindOf (ox_zz ox_ms (n + 6)) 10 0 tl [.inr (.inr (10, 0, 0)), .inl (a1)] [] r1.2 else ox_ev m_Mod_kindOf (ox_zz ox_ms (n + 6)) 8 0 tl [.inr (.inr (10, 0, 0)), .inl (a1)] [] r1.2) rfl ?_
  refine ox_R_if (fun _ => ?_) (fun _ => ?_)
  · refine ox_R_to 3 (Y := ox_back m_Mod_kindOf 12 1 [] ((ox_zz ox_ms (n + 6)) 56 tl [.inr (.inr (10, 0, 0)), .inl (a1)] r1.2) (fun pc9 x9 st9 σ9 => ox_ev m_Mod_kindOf (ox_zz ox_ms (n + 6)) pc9 0 tl (ox_kl (m_Mod_kindOf.2.2.1 pc9) (ox_xl x9 [.inr (.inr (10, 0, 0)), .inl (a1)])) st9 σ9)) rfl ?_
    refine ox_R_call (fc := (fun r : Int × ox_H => ((.inl (some (.inl r.1)), r.2) : ox_O))) (L_Mod_isProperty a1 r1.2 (n + 2) tl) (fun r2 => ?_)
    refine ox_R_of (Y := ox_ev m_Mod_kindOf (ox_zz ox_ms (n + 6)) 15 0 tl [.inr (.inr (10, 0, 0)), .inl (a1)] [.inl (r2.1)] r2.2) rfl ?_
    refine ox_R_to 1 (Y := if r2.1 = 0 then ox_ev m_Mod_kindOf (ox_zz ox_ms (n + 6)) 20 0 tl [.inr (.inr (10, 0, 0)), .inl (a1)] [] r2.2 else ox_ev m_Mod_kindOf (ox_zz ox_ms (n + 6)) 18 0 tl [.inr (.inr (10, 0, 0)), .inl (a1)] [] r2.2) rfl ?_
    refine ox_R_if (fun _ => ?_) (fun _ => ?_)
    · refine ox_R_to 3 (Y := ox_back m_Mod_kindOf 22 1 [] ((ox_zz ox_ms (n + 6)) 57 tl [.inr (.inr (10, 0, 0)), .inl (a1)] r2.2) (fun pc9 x9 st9 σ9 => ox_ev m_Mod_kindOf (ox_zz ox_ms (n + 6)) pc9 0 tl (ox_kl (m_Mod_kindOf.2.2.1 pc9) (ox_xl x9 [.inr (.inr (10, 0, 0)), .inl (a1)])) st9 σ9)) rfl ?_
      refine ox_R_call (fc := (fun r : Int × ox_H => ((.inl (some (.inl r.1)), r.2) : ox_O))) (L_Mod_date a1 r2.2 (n + 2) tl) (fun r3 => ?_)
      refine ox_R_of (Y := ox_ev m_Mod_kindOf (ox_zz ox_ms (n + 6)) 25 0 tl [.inr (.inr (10, 0, 0)), .inl (a1)] [.inl (r3.1)] r3.2) rfl ?_
      refine ox_R_to 1 (Y := if r3.1 = 0 then ox_ev m_Mod_kindOf (ox_zz ox_ms (n + 6)) 30 0 tl [.inr (.inr (10, 0, 0)), .inl (a1)] [] r3.2 else ox_ev m_Mod_kindOf (ox_zz ox_ms (n + 6)) 28 0 tl [.inr (.inr (10, 0, 0)), .inl (a1)] [] r3.2) rfl ?_
      refine ox_R_if (fun _ => ?_) (fun _ => ?_)
      · refine ox_R_to 3 (Y := ox_back m_Mod_kindOf 32 1 [] ((ox_zz ox_ms (n + 6)) 58 tl [.inr (.inr (10, 0, 0)), .inl (a1)] r3.2) (fun pc9 x9 st9 σ9 => ox_ev m_Mod_kindOf (ox_zz ox_ms (n + 6)) pc9 0 tl (ox_kl (m_Mod_kindOf.2.2.1 pc9) (ox_xl x9 [.inr (.inr (10, 0, 0)), .inl (a1)])) st9 σ9)) rfl ?_
        refine ox_R_call (fc := (fun r : Int × ox_H => ((.inl (some (.inl r.1)), r.2) : ox_O))) (L_Mod_clock a1 r3.2 (n + 2) tl) (fun r4 => ?_)
        refine ox_R_of (Y := ox_ev m_Mod_kindOf (ox_zz ox_ms (n + 6)) 35 0 tl [.inr (.inr (10, 0, 0)), .inl (a1)] [.inl (r4.1)] r4.2) rfl ?_
        refine ox_R_to 1 (Y := if r4.1 = 0 then ox_ev m_Mod_kindOf (ox_zz ox_ms (n + 6)) 40 0 tl [.inr (.inr (10, 0, 0)), .inl (a1)] [] r4.2 else ox_ev m_Mod_kindOf (ox_zz ox_ms (n + 6)) 38 0 tl [.inr (.inr (10, 0, 0)), .inl (a1)] [] r4.2) rfl ?_
        refine ox_R_if (fun _ => ?_) (fun _ => ?_)
        · refine ox_R_to 3 (Y := ox_back m_Mod_kindOf 42 1 [] ((ox_zz ox_ms (n + 6)) 61 tl [.inr (.inr (10, 0, 0)), .inl (a1)] r4.2) (fun pc9 x9 st9 σ9 => ox_ev m_Mod_kindOf (ox_zz ox_ms (n + 6)) pc9 0 tl (ox_kl (m_Mod_kindOf.2.2.1 pc9) (ox_xl x9 [.inr (.inr (10, 0, 0)), .inl (a1)])) st9 σ9)) rfl ?_
          refine ox_R_call (fc := (fun r : Int × ox_H => ((.inl (some (.inl r.1)), r.2) : ox_O))) (L_Mod_row a1 r4.2 (n + 0) tl) (fun r5 => ?_)
          refine ox_R_of (Y := ox_ev m_Mod_kindOf (ox_zz ox_ms (n + 6)) 45 0 tl [.inr (.inr (10, 0, 0)), .inl (a1)] [.inl (r5.1)] r5.2) rfl ?_
          refine ox_R_to 1 (Y := if r5.1 = 0 then ox_ev m_Mod_kindOf (ox_zz ox_ms (n + 6)) 50 0 tl [.inr (.inr (10, 0, 0)), .inl (a1)] [] r5.2 else ox_ev m_Mod_kindOf (ox_zz ox_ms (n + 6)) 48 0 tl [.inr (.inr (10, 0, 0)), .inl (a1)] [] r5.2) rfl ?_
          refine ox_R_if (fun _ => ?_) (fun _ => ?_)
          · refine ox_R_to 3 (Y := ox_back m_Mod_kindOf 52 1 [] ((ox_zz ox_ms (n + 6)) 62 tl [.inr (.inr (10, 0, 0)), .inl (a1)] r5.2) (fun pc9 x9 st9 σ9 => ox_ev m_Mod_kindOf (ox_zz ox_ms (n + 6)) pc9 0 tl (ox_kl (m_Mod_kindOf.2.2.1 pc9) (ox_xl x9 [.inr (.inr (10, 0, 0)), .inl (a1)])) st9 σ9)) rfl ?_
            refine ox_R_call (fc := (fun r : Int × ox_H => ((.inl (some (.inl r.1)), r.2) : ox_O))) (L_Mod_code a1 r5.2 (n + 0) tl) (fun r6 => ?_)
            refine ox_R_of (Y := ox_ev m_Mod_kindOf (ox_zz ox_ms (n + 6)) 55 0 tl [.inr (.inr (10, 0, 0)), .inl (a1)] [.inl (r6.1)] r6.2) rfl ?_
            refine ox_R_to 1 (Y := if r6.1 = 0 then ox_ev m_Mod_kindOf (ox_zz ox_ms (n + 6)) 60 0 tl [.inr (.inr (10, 0, 0)), .inl (a1)] [] r6.2 else ox_ev m_Mod_kindOf (ox_zz ox_ms (n + 6)) 58 0 tl [.inr (.inr (10, 0, 0)), .inl (a1)] [] r6.2) rfl ?_
            refine ox_R_if (fun _ => ?_) (fun _ => ?_)
            · refine ox_R_to 4 (Y := if 0 ≤ a1 ∧ a1.toNat < 60 then ox_ev m_Mod_kindOf (ox_zz ox_ms (n + 6)) 66 0 tl [.inr (.inr (10, 0, 0)), .inl (a1)] [.inl (r6.2 10 0 1 a1.toNat)] r6.2 else none) rfl ?_
              refine ox_R_if (fun _ => ?_) (fun _ => ox_R_none)
              refine ox_R_to 2 (Y := if (r6.2 10 0 1 a1.toNat) = 2 then ox_ev m_Mod_kindOf (ox_zz ox_ms (n + 6)) 70 0 tl [.inr (.inr (10, 0, 0)), .inl (a1)] [] r6.2 else ox_ev m_Mod_kindOf (ox_zz ox_ms (n + 6)) 99 0 tl [ox_d, ox_d] [] r6.2) rfl ?_
              refine ox_R_if (fun _ => ?_) (fun _ => ?_)
              · refine ox_R_to 4 (Y := ox_back m_Mod_kindOf 73 1 [] ((ox_zz ox_ms (n + 6)) 46 tl [.inr (.inr (10, 0, 0)), .inl (a1), .inl (0)] r6.2) (fun pc9 x9 st9 σ9 => ox_ev m_Mod_kindOf (ox_zz ox_ms (n + 6)) pc9 0 tl (ox_kl (m_Mod_kindOf.2.2.1 pc9) (ox_xl x9 [.inr (.inr (10, 0, 0)), .inl (a1)])) st9 σ9)) rfl ?_
                refine ox_R_call (fc := (fun r : Int => ((.inl (some (.inl r)), r6.2) : ox_O))) (L_Mod_look a1 0 r6.2 (n + 5) tl) (fun r7 => ?_)
                refine ox_R_of (Y := ox_ev m_Mod_kindOf (ox_zz ox_ms (n + 6)) 76 0 tl [.inr (.inr (10, 0, 0)), .inl (a1)] [.inl (r7)] r6.2) rfl ?_
                refine ox_R_to 2 (Y := if r7 = 33 then ox_ev m_Mod_kindOf (ox_zz ox_ms (n + 6)) 81 0 tl [.inr (.inr (10, 0, 0)), .inl (a1)] [] r6.2 else ox_ev m_Mod_kindOf (ox_zz ox_ms (n + 6)) 99 0 tl [ox_d, ox_d] [] r6.2) rfl ?_
                refine ox_R_if (fun _ => ?_) (fun _ => ?_)
                · refine ox_R_to 5 (Y := ox_back m_Mod_kindOf 85 1 [.inr (.inr (10, 0, 0))] ((ox_zz ox_ms (n + 6)) 46 tl [.inr (.inr (10, 0, 0)), .inl (a1), .inl (1)] r6.2) (fun pc9 x9 st9 σ9 => ox_ev m_Mod_kindOf (ox_zz ox_ms (n + 6)) pc9 0 tl (ox_kl (m_Mod_kindOf.2.2.1 pc9) (ox_xl x9 [.inr (.inr (10, 0, 0)), .inl (a1)])) st9 σ9)) rfl ?_
                  refine ox_R_call (fc := (fun r : Int => ((.inl (some (.inl r)), r6.2) : ox_O))) (L_Mod_look a1 1 r6.2 (n + 5) tl) (fun r8 => ?_)
                  refine ox_R_of (Y := ox_ev m_Mod_kindOf (ox_zz ox_ms (n + 6)) 88 0 tl [.inr (.inr (10, 0, 0)), .inl (a1)] [.inl (r8), .inr (.inr (10, 0, 0))] r6.2) rfl ?_
                  refine ox_R_to 1 (Y := ox_back m_Mod_kindOf 88 1 [] ((ox_zz ox_ms (n + 6)) 47 tl [.inr (.inr (10, 0, 0)), .inl (r8)] r6.2) (fun pc9 x9 st9 σ9 => ox_ev m_Mod_kindOf (ox_zz ox_ms (n + 6)) pc9 0 tl (ox_kl (m_Mod_kindOf.2.2.1 pc9) (ox_xl x9 [.inr (.inr (10, 0, 0)), .inl (a1)])) st9 σ9)) rfl ?_
                  refine ox_R_call (fc := (fun r : Int => ((.inl (some (.inl r)), r6.2) : ox_O))) (L_Mod_isLetter r8 r6.2 (n + 4) tl) (fun r9 => ?_)
                  refine ox_R_of (Y := ox_ev m_Mod_kindOf (ox_zz ox_ms (n + 6)) 91 0 tl [.inr (.inr (10, 0, 0)), .inl (a1)] [.inl (r9)] r6.2) rfl ?_
                  refine ox_R_to 1 (Y := if r9 = 0 then ox_ev m_Mod_kindOf (ox_zz ox_ms (n + 6)) 99 0 tl [ox_d, ox_d] [] r6.2 else ox_ev m_Mod_kindOf (ox_zz ox_ms (n + 6)) 94 0 tl [.inr (.inr (10, 0, 0)), .inl (a1)] [] r6.2) rfl ?_
                  refine ox_R_if (fun _ => ?_) (fun _ => ?_)
                  · exact (L_Mod_kindOf_99 r6.2 n tl)
                  · refine ox_R_to 2 (Y := ox_ev m_Mod_kindOf (ox_zz ox_ms (n + 6)) 101 0 tl [ox_d, ox_d] [.inl (6)] r6.2) rfl ?_
                    exact (L_Mod_kindOf_101 6 r6.2 n tl)
                · exact (L_Mod_kindOf_99 r6.2 n tl)
              · exact (L_Mod_kindOf_99 r6.2 n tl)
            · refine ox_R_to 2 (Y := some (.inl (some (.inl (5))), r6.2)) rfl ?_
              exact ox_R_ret rfl
          · refine ox_R_to 2 (Y := some (.inl (some (.inl (4))), r5.2)) rfl ?_
            exact ox_R_ret rfl
        · refine ox_R_to 2 (Y := some (.inl (some (.inl (3))), r4.2)) rfl ?_
          exact ox_R_ret rfl
      · refine ox_R_to 2 (Y := some (.inl (some (.inl (2))), r3.2)) rfl ?_
        exact ox_R_ret rfl
    · refine ox_R_to 2 (Y := some (.inl (some (.inl (1))), r2.2)) rfl ?_
      exact ox_R_ret rfl
  · refine ox_R_to 2 (Y := some (.inl (some (.inl (0))), r1.2)) rfl ?_
    exact ox_R_ret rfl
def J_Mod_open_74  (v2 : Int) (σ : ox_H) : Option ox_H := some (ox_up σ 10 0 2 0 (ox_w ((σ 10 0 2 0) + v2)))
theorem L_Mod_open_74  (v2 : Int) (σ : ox_H) (n tl : Nat) : ox_R (fun r => some ((fun r : ox_H => ((.inl none, r) : ox_O)) r)) (J_Mod_open_74 v2 σ) (ox_ev m_Mod_open (ox_zz ox_ms (n + 0)) 74 0 tl [.inr (.inr (10, 0, 0)), ox_d, .inl (v2), ox_d, ox_d] [] σ) := by
  unfold J_Mod_open_74
  refine ox_R_to 7 (Y := some (.inl none, (ox_up σ 10 0 2 0 (ox_w ((σ 10 0 2 0) + v2))))) rfl ?_
  exact ox_R_ret rfl
def J_Mod_open_68  (v1 : Int) (v2 : Int) (v3 : Int) (σ : ox_H) : Option (((Int × ox_H) ⊕ ox_H)) := some (.inl (ox_w (v3 + (-1)), σ))
theorem L_Mod_open_68  (v1 : Int) (v2 : Int) (v3 : Int) (σ : ox_H) (n tl : Nat) : ox_R (Sum.elim (fun (s : Int × ox_H) => match s with | (v3, σ) => ox_ev m_Mod_open (ox_zz ox_ms (n + 0)) 7 0 tl [.inr (.inr (10, 0, 0)), .inl (v1), .inl (v2), .inl (v3), ox_d] [] σ) (fun r => some ((fun r : ox_H => ((.inl none, r) : ox_O)) r))) (J_Mod_open_68 v1 v2 v3 σ) (ox_ev m_Mod_open (ox_zz ox_ms (n + 0)) 68 0 tl [.inr (.inr (10, 0, 0)), .inl (v1), .inl (v2), .inl (v3), ox_d] [] σ) := by
  unfold J_Mod_open_68
  refine ox_R_to 2 (Y := ox_ev m_Mod_open (ox_zz ox_ms (n + 0)) 7 0 tl [.inr (.inr (10, 0, 0)), .inl (v1), .inl (v2), .inl (ox_w (v3 + (-1))), ox_d] [] σ) rfl ?_
  exact ox_R_ret rfl
def B_Mod_open_29  (v1 : Int) (v2 : Int) (v3 : Int) : (Int × ox_H) → Option (((Int × ox_H) ⊕ ((Int × ox_H) ⊕ ox_H))) := fun (v4, σ) => if 24 ≤ v4 then ((J_Mod_open_68 v1 v2 v3 σ).map .inr) else (if 0 ≤ (ox_w ((ox_w (24 * v3)) + v4)) ∧ (ox_w ((ox_w (24 * v3)) + v4)).toNat < 1440 then (if 0 ≤ (ox_w ((ox_w (24 * (ox_w (v3 + v2)))) + v4)) ∧ (ox_w ((ox_w (24 * (ox_w (v3 + v2)))) + v4)).toNat < 1440 then (some (.inl (ox_w (v4 + 1), (ox_up σ 10 0 0 ((ox_w ((ox_w (24 * (ox_w (v3 + v2)))) + v4)).toNat) (σ 10 0 0 ((ox_w ((ox_w (24 * v3)) + v4)).toNat)))))) else none) else none)
def J_Mod_open_29  (v1 : Int) (v2 : Int) (v3 : Int) (v4 : Int) (σ : ox_H) : Option (((Int × ox_H) ⊕ ox_H)) := ox_lp (B_Mod_open_29 v1 v2 v3) ox_fu (v4, σ)
theorem L_Mod_open_29  (v1 : Int) (v2 : Int) (v3 : Int) (v4 : Int) (σ : ox_H) (n tl : Nat) : ox_R (Sum.elim (fun (s : Int × ox_H) => match s with | (v3, σ) => ox_ev m_Mod_open (ox_zz ox_ms (n + 0)) 7 0 tl [.inr (.inr (10, 0, 0)), .inl (v1), .inl (v2), .inl (v3), ox_d] [] σ) (fun r => some ((fun r : ox_H => ((.inl none, r) : ox_O)) r))) (J_Mod_open_29 v1 v2 v3 v4 σ) (ox_ev m_Mod_open (ox_zz ox_ms (n + 0)) 29 0 tl [.inr (.inr (10, 0, 0)), .inl (v1), .inl (v2), .inl (v3), .inl (v4)] [] σ) := by
  unfold J_Mod_open_29
  refine ox_R_lp (ψ := (fun (s : Int × ox_H) => match s with | (v4, σ) => ox_ev m_Mod_open (ox_zz ox_ms (n + 0)) 29 0 tl [.inr (.inr (10, 0, 0)), .inl (v1), .inl (v2), .inl (v3), .inl (v4)] [] σ)) ?_ ox_fu (v4, σ)
  intro s
  obtain ⟨v4, σ⟩ := s
  unfold B_Mod_open_29
  refine ox_R_to 3 (Y := if 24 ≤ v4 then ox_ev m_Mod_open (ox_zz ox_ms (n + 0)) 68 0 tl [.inr (.inr (10, 0, 0)), .inl (v1), .inl (v2), .inl (v3), ox_d] [] σ else ox_ev m_Mod_open (ox_zz ox_ms (n + 0)) 36 0 tl [.inr (.inr (10, 0, 0)), .inl (v1), .inl (v2), .inl (v3), .inl (v4)] [] σ) rfl ?_
  refine ox_R_if (fun _ => ?_) (fun _ => ?_)
  · exact ox_R_map ((L_Mod_open_68 v1 v2 v3 σ n tl))
  · refine ox_R_to 17 (Y := if 0 ≤ (ox_w ((ox_w (24 * v3)) + v4)) ∧ (ox_w ((ox_w (24 * v3)) + v4)).toNat < 1440 then ox_ev m_Mod_open (ox_zz ox_ms (n + 0)) 61 0 tl [.inr (.inr (10, 0, 0)), .inl (v1), .inl (v2), .inl (v3), .inl (v4)] [.inl (σ 10 0 0 ((ox_w ((ox_w (24 * v3)) + v4)).toNat)), .inl (ox_w ((ox_w (24 * (ox_w (v3 + v2)))) + v4)), .inr (.inr (110, 0, 0))] σ else none) rfl ?_
    refine ox_R_if (fun _ => ?_) (fun _ => ox_R_none)
    refine ox_R_to 1 (Y := if 0 ≤ (ox_w ((ox_w (24 * (ox_w (v3 + v2)))) + v4)) ∧ (ox_w ((ox_w (24 * (ox_w (v3 + v2)))) + v4)).toNat < 1440 then ox_ev m_Mod_open (ox_zz ox_ms (n + 0)) 62 0 tl [.inr (.inr (10, 0, 0)), .inl (v1), .inl (v2), .inl (v3), .inl (v4)] [] (ox_up σ 10 0 0 ((ox_w ((ox_w (24 * (ox_w (v3 + v2)))) + v4)).toNat) (σ 10 0 0 ((ox_w ((ox_w (24 * v3)) + v4)).toNat))) else none) rfl ?_
    refine ox_R_if (fun _ => ?_) (fun _ => ox_R_none)
    refine ox_R_to 2 (Y := ox_ev m_Mod_open (ox_zz ox_ms (n + 0)) 29 0 tl [.inr (.inr (10, 0, 0)), .inl (v1), .inl (v2), .inl (v3), .inl (ox_w (v4 + 1))] [] (ox_up σ 10 0 0 ((ox_w ((ox_w (24 * (ox_w (v3 + v2)))) + v4)).toNat) (σ 10 0 0 ((ox_w ((ox_w (24 * v3)) + v4)).toNat)))) rfl ?_
    exact ox_R_ret rfl
def B_Mod_open_7  (v1 : Int) (v2 : Int) : (Int × ox_H) → Option (((Int × ox_H) ⊕ ox_H)) := fun (v3, σ) => if v3 < v1 then ((J_Mod_open_74 v2 σ).map .inr) else (if 0 ≤ v3 ∧ v3.toNat < 60 then (if 0 ≤ (ox_w (v3 + v2)) ∧ (ox_w (v3 + v2)).toNat < 60 then (J_Mod_open_29 v1 v2 v3 0 (ox_up σ 10 0 1 ((ox_w (v3 + v2)).toNat) (σ 10 0 1 v3.toNat))) else none) else none)
def J_Mod_open_7  (v1 : Int) (v2 : Int) (v3 : Int) (σ : ox_H) : Option (ox_H) := ox_lp (B_Mod_open_7 v1 v2) ox_fu (v3, σ)
theorem L_Mod_open_7  (v1 : Int) (v2 : Int) (v3 : Int) (σ : ox_H) (n tl : Nat) : ox_R (fun r => some ((fun r : ox_H => ((.inl none, r) : ox_O)) r)) (J_Mod_open_7 v1 v2 v3 σ) (ox_ev m_Mod_open (ox_zz ox_ms (n + 0)) 7 0 tl [.inr (.inr (10, 0, 0)), .inl (v1), .inl (v2), .inl (v3), ox_d] [] σ) := by
  unfold J_Mod_open_7
  refine ox_R_lp (ψ := (fun (s : Int × ox_H) => match s with | (v3, σ) => ox_ev m_Mod_open (ox_zz ox_ms (n + 0)) 7 0 tl [.inr (.inr (10, 0, 0)), .inl (v1), .inl (v2), .inl (v3), ox_d] [] σ)) ?_ ox_fu (v3, σ)
  intro s
  obtain ⟨v3, σ⟩ := s
  unfold B_Mod_open_7
  refine ox_R_to 3 (Y := if v3 < v1 then ox_ev m_Mod_open (ox_zz ox_ms (n + 0)) 74 0 tl [.inr (.inr (10, 0, 0)), ox_d, .inl (v2), ox_d, ox_d] [] σ else ox_ev m_Mod_open (ox_zz ox_ms (n + 0)) 12 0 tl [.inr (.inr (10, 0, 0)), .inl (v1), .inl (v2), .inl (v3), ox_d] [] σ) rfl ?_
  refine ox_R_if (fun _ => ?_) (fun _ => ?_)
  · exact ox_R_map ((L_Mod_open_74 v2 σ n tl))
  · refine ox_R_to 9 (Y := if 0 ≤ v3 ∧ v3.toNat < 60 then ox_ev m_Mod_open (ox_zz ox_ms (n + 0)) 25 0 tl [.inr (.inr (10, 0, 0)), .inl (v1), .inl (v2), .inl (v3), ox_d] [.inl (σ 10 0 1 v3.toNat), .inl (ox_w (v3 + v2)), .inr (.inr (110, 0, 1))] σ else none) rfl ?_
    refine ox_R_if (fun _ => ?_) (fun _ => ox_R_none)
    refine ox_R_to 1 (Y := if 0 ≤ (ox_w (v3 + v2)) ∧ (ox_w (v3 + v2)).toNat < 60 then ox_ev m_Mod_open (ox_zz ox_ms (n + 0)) 26 0 tl [.inr (.inr (10, 0, 0)), .inl (v1), .inl (v2), .inl (v3), ox_d] [] (ox_up σ 10 0 1 ((ox_w (v3 + v2)).toNat) (σ 10 0 1 v3.toNat)) else none) rfl ?_
    refine ox_R_if (fun _ => ?_) (fun _ => ox_R_none)
    refine ox_R_to 2 (Y := ox_ev m_Mod_open (ox_zz ox_ms (n + 0)) 29 0 tl [.inr (.inr (10, 0, 0)), .inl (v1), .inl (v2), .inl (v3), .inl (0)] [] (ox_up σ 10 0 1 ((ox_w (v3 + v2)).toNat) (σ 10 0 1 v3.toNat))) rfl ?_
    exact (L_Mod_open_29 v1 v2 v3 0 (ox_up σ 10 0 1 ((ox_w (v3 + v2)).toNat) (σ 10 0 1 v3.toNat)) n tl)
def F_Mod_open  (a1 : Int) (a2 : Int) (σ : ox_H) : Option (ox_H) := (J_Mod_open_7 a1 a2 (ox_w ((σ 10 0 2 0) - 1)) σ)
theorem L_Mod_open  (a1 : Int) (a2 : Int) (σ : ox_H) (n tl : Nat) : ox_R (fun r => some ((fun r : ox_H => ((.inl none, r) : ox_O)) r)) (F_Mod_open a1 a2 σ) (ox_zz ox_ms (n + 1) 64 tl [.inr (.inr (10, 0, 0)), .inl (a1), .inl (a2)] σ) := by
  unfold F_Mod_open
  refine ox_R_of (Y := ox_ev m_Mod_open (ox_zz ox_ms (n + 0)) 0 0 tl [.inr (.inr (10, 0, 0)), .inl (a1), .inl (a2), ox_d, ox_d] [] σ) rfl ?_
  refine ox_R_to 5 (Y := ox_ev m_Mod_open (ox_zz ox_ms (n + 0)) 7 0 tl [.inr (.inr (10, 0, 0)), .inl (a1), .inl (a2), .inl (ox_w ((σ 10 0 2 0) - 1)), ox_d] [] σ) rfl ?_
  exact (L_Mod_open_7 a1 a2 (ox_w ((σ 10 0 2 0) - 1)) σ n tl)
def J_Mod_close_82  (σ : ox_H) : Option ox_H := some σ
theorem L_Mod_close_82  (σ : ox_H) (n tl : Nat) : ox_R (fun r => some ((fun r : ox_H => ((.inl none, r) : ox_O)) r)) (J_Mod_close_82 σ) (ox_ev m_Mod_close (ox_zz ox_ms (n + 0)) 82 0 tl [ox_d, ox_d, ox_d, ox_d, ox_d] [] σ) := by
  unfold J_Mod_close_82
  refine ox_R_to 1 (Y := some (.inl none, σ)) rfl ?_
  exact ox_R_ret rfl
def J_Mod_close_76  (v2 : Int) (v3 : Int) (σ : ox_H) : Option (((Int × ox_H) ⊕ ox_H)) := some (.inl (ox_w (v3 + 1), σ))
theorem L_Mod_close_76  (v2 : Int) (v3 : Int) (σ : ox_H) (n tl : Nat) : ox_R (Sum.elim (fun (s : Int × ox_H) => match s with | (v3, σ) => ox_ev m_Mod_close (ox_zz ox_ms (n + 0)) 12 0 tl [.inr (.inr (10, 0, 0)), ox_d, .inl (v2), .inl (v3), ox_d] [] σ) (fun r => some ((fun r : ox_H => ((.inl none, r) : ox_O)) r))) (J_Mod_close_76 v2 v3 σ) (ox_ev m_Mod_close (ox_zz ox_ms (n + 0)) 76 0 tl [.inr (.inr (10, 0, 0)), ox_d, .inl (v2), .inl (v3), ox_d] [] σ) := by
  unfold J_Mod_close_76
  refine ox_R_to 2 (Y := ox_ev m_Mod_close (ox_zz ox_ms (n + 0)) 12 0 tl [.inr (.inr (10, 0, 0)), ox_d, .inl (v2), .inl (ox_w (v3 + 1)), ox_d] [] σ) rfl ?_
  exact ox_R_ret rfl
def B_Mod_close_37  (v2 : Int) (v3 : Int) : (Int × ox_H) → Option (((Int × ox_H) ⊕ ((Int × ox_H) ⊕ ox_H))) := fun (v4, σ) => if 24 ≤ v4 then ((J_Mod_close_76 v2 v3 σ).map .inr) else (if 0 ≤ (ox_w ((ox_w (24 * (ox_w (v3 + v2)))) + v4)) ∧ (ox_w ((ox_w (24 * (ox_w (v3 + v2)))) + v4)).toNat < 1440 then (if 0 ≤ (ox_w ((ox_w (24 * v3)) + v4)) ∧ (ox_w ((ox_w (24 * v3)) + v4)).toNat < 1440 then (some (.inl (ox_w (v4 + 1), (ox_up σ 10 0 0 ((ox_w ((ox_w (24 * v3)) + v4)).toNat) (σ 10 0 0 ((ox_w ((ox_w (24 * (ox_w (v3 + v2)))) + v4)).toNat)))))) else none) else none)
def J_Mod_close_37  (v2 : Int) (v3 : Int) (v4 : Int) (σ : ox_H) : Option (((Int × ox_H) ⊕ ox_H)) := ox_lp (B_Mod_close_37 v2 v3) ox_fu (v4, σ)
theorem L_Mod_close_37  (v2 : Int) (v3 : Int) (v4 : Int) (σ : ox_H) (n tl : Nat) : ox_R (Sum.elim (fun (s : Int × ox_H) => match s with | (v3, σ) => ox_ev m_Mod_close (ox_zz ox_ms (n + 0)) 12 0 tl [.inr (.inr (10, 0, 0)), ox_d, .inl (v2), .inl (v3), ox_d] [] σ) (fun r => some ((fun r : ox_H => ((.inl none, r) : ox_O)) r))) (J_Mod_close_37 v2 v3 v4 σ) (ox_ev m_Mod_close (ox_zz ox_ms (n + 0)) 37 0 tl [.inr (.inr (10, 0, 0)), ox_d, .inl (v2), .inl (v3), .inl (v4)] [] σ) := by
  unfold J_Mod_close_37
  refine ox_R_lp (ψ := (fun (s : Int × ox_H) => match s with | (v4, σ) => ox_ev m_Mod_close (ox_zz ox_ms (n + 0)) 37 0 tl [.inr (.inr (10, 0, 0)), ox_d, .inl (v2), .inl (v3), .inl (v4)] [] σ)) ?_ ox_fu (v4, σ)
  intro s
  obtain ⟨v4, σ⟩ := s
  unfold B_Mod_close_37
  refine ox_R_to 3 (Y := if 24 ≤ v4 then ox_ev m_Mod_close (ox_zz ox_ms (n + 0)) 76 0 tl [.inr (.inr (10, 0, 0)), ox_d, .inl (v2), .inl (v3), ox_d] [] σ else ox_ev m_Mod_close (ox_zz ox_ms (n + 0)) 44 0 tl [.inr (.inr (10, 0, 0)), ox_d, .inl (v2), .inl (v3), .inl (v4)] [] σ) rfl ?_
  refine ox_R_if (fun _ => ?_) (fun _ => ?_)
  · exact ox_R_map ((L_Mod_close_76 v2 v3 σ n tl))
  · refine ox_R_to 17 (Y := if 0 ≤ (ox_w ((ox_w (24 * (ox_w (v3 + v2)))) + v4)) ∧ (ox_w ((ox_w (24 * (ox_w (v3 + v2)))) + v4)).toNat < 1440 then ox_ev m_Mod_close (ox_zz ox_ms (n + 0)) 69 0 tl [.inr (.inr (10, 0, 0)), ox_d, .inl (v2), .inl (v3), .inl (v4)] [.inl (σ 10 0 0 ((ox_w ((ox_w (24 * (ox_w (v3 + v2)))) + v4)).toNat)), .inl (ox_w ((ox_w (24 * v3)) + v4)), .inr (.inr (110, 0, 0))] σ else none) rfl ?_
    refine ox_R_if (fun _ => ?_) (fun _ => ox_R_none)
    refine ox_R_to 1 (Y := if 0 ≤ (ox_w ((ox_w (24 * v3)) + v4)) ∧ (ox_w ((ox_w (24 * v3)) + v4)).toNat < 1440 then ox_ev m_Mod_close (ox_zz ox_ms (n + 0)) 70 0 tl [.inr (.inr (10, 0, 0)), ox_d, .inl (v2), .inl (v3), .inl (v4)] [] (ox_up σ 10 0 0 ((ox_w ((ox_w (24 * v3)) + v4)).toNat) (σ 10 0 0 ((ox_w ((ox_w (24 * (ox_w (v3 + v2)))) + v4)).toNat))) else none) rfl ?_
    refine ox_R_if (fun _ => ?_) (fun _ => ox_R_none)
    refine ox_R_to 2 (Y := ox_ev m_Mod_close (ox_zz ox_ms (n + 0)) 37 0 tl [.inr (.inr (10, 0, 0)), ox_d, .inl (v2), .inl (v3), .inl (ox_w (v4 + 1))] [] (ox_up σ 10 0 0 ((ox_w ((ox_w (24 * v3)) + v4)).toNat) (σ 10 0 0 ((ox_w ((ox_w (24 * (ox_w (v3 + v2)))) + v4)).toNat)))) rfl ?_
    exact ox_R_ret rfl
def B_Mod_close_12  (v2 : Int) : (Int × ox_H) → Option (((Int × ox_H) ⊕ ox_H)) := fun (v3, σ) => if (σ 10 0 2 0) ≤ v3 then ((J_Mod_close_82 σ).map .inr) else (if 0 ≤ (ox_w (v3 + v2)) ∧ (ox_w (v3 + v2)).toNat < 60 then (if 0 ≤ v3 ∧ v3.toNat < 60 then (J_Mod_close_37 v2 v3 0 (ox_up σ 10 0 1 v3.toNat (σ 10 0 1 ((ox_w (v3 + v2)).toNat)))) else none) else none)
def J_Mod_close_12  (v2 : Int) (v3 : Int) (σ : ox_H) : Option (ox_H) := ox_lp (B_Mod_close_12 v2) ox_fu (v3, σ)
theorem L_Mod_close_12  (v2 : Int) (v3 : Int) (σ : ox_H) (n tl : Nat) : ox_R (fun r => some ((fun r : ox_H => ((.inl none, r) : ox_O)) r)) (J_Mod_close_12 v2 v3 σ) (ox_ev m_Mod_close (ox_zz ox_ms (n + 0)) 12 0 tl [.inr (.inr (10, 0, 0)), ox_d, .inl (v2), .inl (v3), ox_d] [] σ) := by
  unfold J_Mod_close_12
  refine ox_R_lp (ψ := (fun (s : Int × ox_H) => match s with | (v3, σ) => ox_ev m_Mod_close (ox_zz ox_ms (n + 0)) 12 0 tl [.inr (.inr (10, 0, 0)), ox_d, .inl (v2), .inl (v3), ox_d] [] σ)) ?_ ox_fu (v3, σ)
  intro s
  obtain ⟨v3, σ⟩ := s
  unfold B_Mod_close_12
  refine ox_R_to 4 (Y := if (σ 10 0 2 0) ≤ v3 then ox_ev m_Mod_close (ox_zz ox_ms (n + 0)) 82 0 tl [ox_d, ox_d, ox_d, ox_d, ox_d] [] σ else ox_ev m_Mod_close (ox_zz ox_ms (n + 0)) 20 0 tl [.inr (.inr (10, 0, 0)), ox_d, .inl (v2), .inl (v3), ox_d] [] σ) rfl ?_
  refine ox_R_if (fun _ => ?_) (fun _ => ?_)
  · exact ox_R_map ((L_Mod_close_82 σ n tl))
  · refine ox_R_to 9 (Y := if 0 ≤ (ox_w (v3 + v2)) ∧ (ox_w (v3 + v2)).toNat < 60 then ox_ev m_Mod_close (ox_zz ox_ms (n + 0)) 33 0 tl [.inr (.inr (10, 0, 0)), ox_d, .inl (v2), .inl (v3), ox_d] [.inl (σ 10 0 1 ((ox_w (v3 + v2)).toNat)), .inl (v3), .inr (.inr (110, 0, 1))] σ else none) rfl ?_
    refine ox_R_if (fun _ => ?_) (fun _ => ox_R_none)
    refine ox_R_to 1 (Y := if 0 ≤ v3 ∧ v3.toNat < 60 then ox_ev m_Mod_close (ox_zz ox_ms (n + 0)) 34 0 tl [.inr (.inr (10, 0, 0)), ox_d, .inl (v2), .inl (v3), ox_d] [] (ox_up σ 10 0 1 v3.toNat (σ 10 0 1 ((ox_w (v3 + v2)).toNat))) else none) rfl ?_
    refine ox_R_if (fun _ => ?_) (fun _ => ox_R_none)
    refine ox_R_to 2 (Y := ox_ev m_Mod_close (ox_zz ox_ms (n + 0)) 37 0 tl [.inr (.inr (10, 0, 0)), ox_d, .inl (v2), .inl (v3), .inl (0)] [] (ox_up σ 10 0 1 v3.toNat (σ 10 0 1 ((ox_w (v3 + v2)).toNat)))) rfl ?_
    exact (L_Mod_close_37 v2 v3 0 (ox_up σ 10 0 1 v3.toNat (σ 10 0 1 ((ox_w (v3 + v2)).toNat))) n tl)
def F_Mod_close  (a1 : Int) (a2 : Int) (σ : ox_H) : Option (ox_H) := (J_Mod_close_12 a2 a1 (ox_up σ 10 0 2 0 (ox_w ((σ 10 0 2 0) - a2))))
theorem L_Mod_close  (a1 : Int) (a2 : Int) (σ : ox_H) (n tl : Nat) : ox_R (fun r => some ((fun r : ox_H => ((.inl none, r) : ox_O)) r)) (F_Mod_close a1 a2 σ) (ox_zz ox_ms (n + 1) 65 tl [.inr (.inr (10, 0, 0)), .inl (a1), .inl (a2)] σ) := by
  unfold F_Mod_close
  refine ox_R_of (Y := ox_ev m_Mod_close (ox_zz ox_ms (n + 0)) 0 0 tl [.inr (.inr (10, 0, 0)), .inl (a1), .inl (a2), ox_d, ox_d] [] σ) rfl ?_
  refine ox_R_to 8 (Y := ox_ev m_Mod_close (ox_zz ox_ms (n + 0)) 12 0 tl [.inr (.inr (10, 0, 0)), ox_d, .inl (a2), .inl (a1), ox_d] [] (ox_up σ 10 0 2 0 (ox_w ((σ 10 0 2 0) - a2)))) rfl ?_
  exact (L_Mod_close_12 a2 a1 (ox_up σ 10 0 2 0 (ox_w ((σ 10 0 2 0) - a2))) n tl)
def J_Mod_line_32  (v1 : Int) (s0 : Int) (σ : ox_H) : Option (Int × ox_H) := (F_Mod_holds s0 σ).bind fun r1 => (if r1.1 = 0 then ((F_Mod_open v1 1 r1.2).bind fun r2 => (if 0 ≤ v1 ∧ v1.toNat < 60 then (some (r2 10 0 2 0, (ox_up r2 10 0 1 v1.toNat 0))) else none)) else (some ((-1), r1.2)))
theorem L_Mod_line_32  (v1 : Int) (s0 : Int) (σ : ox_H) (n tl : Nat) : ox_R (fun r => some ((fun r : Int × ox_H => ((.inl (some (.inl r.1)), r.2) : ox_O)) r)) (J_Mod_line_32 v1 s0 σ) (ox_ev m_Mod_line (ox_zz ox_ms (n + 1)) 32 0 tl [.inr (.inr (10, 0, 0)), .inl (v1)] [.inl (s0), .inr (.inr (10, 0, 0))] σ) := by
  unfold J_Mod_line_32
  refine ox_R_to 1 (Y := ox_back m_Mod_line 32 1 [] ((ox_zz ox_ms (n + 1)) 43 tl [.inr (.inr (10, 0, 0)), .inl (s0)] σ) (fun pc9 x9 st9 σ9 => ox_ev m_Mod_line (ox_zz ox_ms (n + 1)) pc9 0 tl (ox_kl (m_Mod_line.2.2.1 pc9) (ox_xl x9 [.inr (.inr (10, 0, 0)), .inl (v1)])) st9 σ9)) rfl ?_
  refine ox_R_call (fc := (fun r : Int × ox_H => ((.inl (some (.inl r.1)), r.2) : ox_O))) (L_Mod_holds s0 σ (n + 0) tl) (fun r1 => ?_)
  refine ox_R_of (Y := ox_ev m_Mod_line (ox_zz ox_ms (n + 1)) 35 0 tl [.inr (.inr (10, 0, 0)), .inl (v1)] [.inl (r1.1)] r1.2) rfl ?_
  refine ox_R_to 1 (Y := if r1.1 = 0 then ox_ev m_Mod_line (ox_zz ox_ms (n + 1)) 40 0 tl [.inr (.inr (10, 0, 0)), .inl (v1)] [] r1.2 else ox_ev m_Mod_line (ox_zz ox_ms (n + 1)) 38 0 tl [.inr (.inr (10, 0, 0)), .inl (v1)] [] r1.2) rfl ?_
  refine ox_R_if (fun _ => ?_) (fun _ => ?_)
  · refine ox_R_to 4 (Y := ox_back m_Mod_line 43 0 [] ((ox_zz ox_ms (n + 1)) 64 tl [.inr (.inr (10, 0, 0)), .inl (v1), .inl (1)] r1.2) (fun pc9 x9 st9 σ9 => ox_ev m_Mod_line (ox_zz ox_ms (n + 1)) pc9 0 tl (ox_kl (m_Mod_line.2.2.1 pc9) (ox_xl x9 [.inr (.inr (10, 0, 0)), .inl (v1)])) st9 σ9)) rfl ?_
    refine ox_R_call (fc := (fun r : ox_H => ((.inl none, r) : ox_O))) (L_Mod_open v1 1 r1.2 (n + 0) tl) (fun r2 => ?_)
    refine ox_R_of (Y := ox_ev m_Mod_line (ox_zz ox_ms (n + 1)) 46 0 tl [.inr (.inr (10, 0, 0)), .inl (v1)] [] r2) rfl ?_
    refine ox_R_to 5 (Y := if 0 ≤ v1 ∧ v1.toNat < 60 then ox_ev m_Mod_line (ox_zz ox_ms (n + 1)) 53 0 tl [.inr (.inr (10, 0, 0)), .inl (v1)] [] (ox_up r2 10 0 1 v1.toNat 0) else none) rfl ?_
    refine ox_R_if (fun _ => ?_) (fun _ => ox_R_none)
    refine ox_R_to 3 (Y := some (.inl (some (.inl (r2 10 0 2 0))), (ox_up r2 10 0 1 v1.toNat 0))) rfl ?_
    exact ox_R_ret rfl
  · refine ox_R_to 2 (Y := some (.inl (some (.inl ((-1)))), r1.2)) rfl ?_
    exact ox_R_ret rfl
def F_Mod_line  (a1 : Int) (σ : ox_H) : Option (Int × ox_H) := (F_Mod_in a1 0 (σ 10 0 2 0) σ).bind fun r3 => (if r3 = 0 then (J_Mod_line_32 a1 1 σ) else (if (σ 10 0 2 0) = 60 then (J_Mod_line_32 a1 2 σ) else (J_Mod_line_32 a1 0 σ)))
theorem L_Mod_line  (a1 : Int) (σ : ox_H) (n tl : Nat) : ox_R (fun r => some ((fun r : Int × ox_H => ((.inl (some (.inl r.1)), r.2) : ox_O)) r)) (F_Mod_line a1 σ) (ox_zz ox_ms (n + 2) 66 tl [.inr (.inr (10, 0, 0)), .inl (a1)] σ) := by
  unfold F_Mod_line
  refine ox_R_of (Y := ox_ev m_Mod_line (ox_zz ox_ms (n + 1)) 0 0 tl [.inr (.inr (10, 0, 0)), .inl (a1)] [] σ) rfl ?_
  refine ox_R_to 7 (Y := ox_back m_Mod_line 8 1 [.inr (.inr (10, 0, 0))] ((ox_zz ox_ms (n + 1)) 44 tl [.inr (.inr (10, 0, 0)), .inl (a1), .inl (0), .inl (σ 10 0 2 0)] σ) (fun pc9 x9 st9 σ9 => ox_ev m_Mod_line (ox_zz ox_ms (n + 1)) pc9 0 tl (ox_kl (m_Mod_line.2.2.1 pc9) (ox_xl x9 [.inr (.inr (10, 0, 0)), .inl (a1)])) st9 σ9)) rfl ?_
  refine ox_R_call (fc := (fun r : Int => ((.inl (some (.inl r)), σ) : ox_O))) (L_Mod_in a1 0 (σ 10 0 2 0) σ (n + 0) tl) (fun r3 => ?_)
  refine ox_R_of (Y := ox_ev m_Mod_line (ox_zz ox_ms (n + 1)) 11 0 tl [.inr (.inr (10, 0, 0)), .inl (a1)] [.inl (r3), .inr (.inr (10, 0, 0))] σ) rfl ?_
  refine ox_R_to 1 (Y := if r3 = 0 then ox_ev m_Mod_line (ox_zz ox_ms (n + 1)) 14 0 tl [.inr (.inr (10, 0, 0)), .inl (a1)] [.inr (.inr (10, 0, 0))] σ else ox_ev m_Mod_line (ox_zz ox_ms (n + 1)) 18 0 tl [.inr (.inr (10, 0, 0)), .inl (a1)] [.inr (.inr (10, 0, 0))] σ) rfl ?_
  refine ox_R_if (fun _ => ?_) (fun _ => ?_)
  · refine ox_R_to 2 (Y := ox_ev m_Mod_line (ox_zz ox_ms (n + 1)) 32 0 tl [.inr (.inr (10, 0, 0)), .inl (a1)] [.inl (1), .inr (.inr (10, 0, 0))] σ) rfl ?_
    exact (L_Mod_line_32 a1 1 σ n tl)
  · refine ox_R_to 4 (Y := if (σ 10 0 2 0) = 60 then ox_ev m_Mod_line (ox_zz ox_ms (n + 1)) 27 0 tl [.inr (.inr (10, 0, 0)), .inl (a1)] [.inr (.inr (10, 0, 0))] σ else ox_ev m_Mod_line (ox_zz ox_ms (n + 1)) 31 0 tl [.inr (.inr (10, 0, 0)), .inl (a1)] [.inr (.inr (10, 0, 0))] σ) rfl ?_
    refine ox_R_if (fun _ => ?_) (fun _ => ?_)
    · refine ox_R_to 2 (Y := ox_ev m_Mod_line (ox_zz ox_ms (n + 1)) 32 0 tl [.inr (.inr (10, 0, 0)), .inl (a1)] [.inl (2), .inr (.inr (10, 0, 0))] σ) rfl ?_
      exact (L_Mod_line_32 a1 2 σ n tl)
    · refine ox_R_to 1 (Y := ox_ev m_Mod_line (ox_zz ox_ms (n + 1)) 32 0 tl [.inr (.inr (10, 0, 0)), .inl (a1)] [.inl (0), .inr (.inr (10, 0, 0))] σ) rfl ?_
      exact (L_Mod_line_32 a1 0 σ n tl)
def J_Mod_sign_45  (v1 : Int) (v2 : Int) (s0 : Int) (σ : ox_H) : Option (Int × ox_H) := (F_Mod_holds s0 σ).bind fun r1 => (if r1.1 = 0 then (if 0 ≤ v1 ∧ v1.toNat < 60 then (if 0 ≤ (ox_w ((ox_w (24 * v1)) + (r1.2 10 0 1 v1.toNat))) ∧ (ox_w ((ox_w (24 * v1)) + (r1.2 10 0 1 v1.toNat))).toNat < 1440 then (if 0 ≤ v1 ∧ v1.toNat < 60 then (if 0 ≤ v1 ∧ v1.toNat < 60 then (if 0 ≤ v1 ∧ v1.toNat < 60 then (some ((ox_up (ox_up r1.2 10 0 0 ((ox_w ((ox_w (24 * v1)) + (r1.2 10 0 1 v1.toNat))).toNat) v2) 10 0 1 v1.toNat (ox_w ((r1.2 10 0 1 v1.toNat) + 1))) 10 0 1 v1.toNat, (ox_up (ox_up r1.2 10 0 0 ((ox_w ((ox_w (24 * v1)) + (r1.2 10 0 1 v1.toNat))).toNat) v2) 10 0 1 v1.toNat (ox_w ((r1.2 10 0 1 v1.toNat) + 1))))) else none) else none) else none) else none) else none) else (some ((-1), r1.2)))
theorem L_Mod_sign_45  (v1 : Int) (v2 : Int) (s0 : Int) (σ : ox_H) (n tl : Nat) : ox_R (fun r => some ((fun r : Int × ox_H => ((.inl (some (.inl r.1)), r.2) : ox_O)) r)) (J_Mod_sign_45 v1 v2 s0 σ) (ox_ev m_Mod_sign (ox_zz ox_ms (n + 2)) 45 0 tl [.inr (.inr (10, 0, 0)), .inl (v1), .inl (v2)] [.inl (s0), .inr (.inr (10, 0, 0))] σ) := by
  unfold J_Mod_sign_45
  refine ox_R_to 1 (Y := ox_back m_Mod_sign 45 1 [] ((ox_zz ox_ms (n + 2)) 43 tl [.inr (.inr (10, 0, 0)), .inl (s0)] σ) (fun pc9 x9 st9 σ9 => ox_ev m_Mod_sign (ox_zz ox_ms (n + 2)) pc9 0 tl (ox_kl (m_Mod_sign.2.2.1 pc9) (ox_xl x9 [.inr (.inr (10, 0, 0)), .inl (v1), .inl (v2)])) st9 σ9)) rfl ?_
  refine ox_R_call (fc := (fun r : Int × ox_H => ((.inl (some (.inl r.1)), r.2) : ox_O))) (L_Mod_holds s0 σ (n + 1) tl) (fun r1 => ?_)
  refine ox_R_of (Y := ox_ev m_Mod_sign (ox_zz ox_ms (n + 2)) 48 0 tl [.inr (.inr (10, 0, 0)), .inl (v1), .inl (v2)] [.inl (r1.1)] r1.2) rfl ?_
  refine ox_R_to 1 (Y := if r1.1 = 0 then ox_ev m_Mod_sign (ox_zz ox_ms (n + 2)) 53 0 tl [.inr (.inr (10, 0, 0)), .inl (v1), .inl (v2)] [] r1.2 else ox_ev m_Mod_sign (ox_zz ox_ms (n + 2)) 51 0 tl [.inr (.inr (10, 0, 0)), .inl (v1), .inl (v2)] [] r1.2) rfl ?_
  refine ox_R_if (fun _ => ?_) (fun _ => ?_)
  · refine ox_R_to 9 (Y := if 0 ≤ v1 ∧ v1.toNat < 60 then ox_ev m_Mod_sign (ox_zz ox_ms (n + 2)) 67 0 tl [.inr (.inr (10, 0, 0)), .inl (v1), .inl (v2)] [.inl (r1.2 10 0 1 v1.toNat), .inl (ox_w (24 * v1)), .inr (.inr (110, 0, 0))] r1.2 else none) rfl ?_
    refine ox_R_if (fun _ => ?_) (fun _ => ox_R_none)
    refine ox_R_to 3 (Y := if 0 ≤ (ox_w ((ox_w (24 * v1)) + (r1.2 10 0 1 v1.toNat))) ∧ (ox_w ((ox_w (24 * v1)) + (r1.2 10 0 1 v1.toNat))).toNat < 1440 then ox_ev m_Mod_sign (ox_zz ox_ms (n + 2)) 70 0 tl [.inr (.inr (10, 0, 0)), .inl (v1), .inl (v2)] [] (ox_up r1.2 10 0 0 ((ox_w ((ox_w (24 * v1)) + (r1.2 10 0 1 v1.toNat))).toNat) v2) else none) rfl ?_
    refine ox_R_if (fun _ => ?_) (fun _ => ox_R_none)
    refine ox_R_to 5 (Y := if 0 ≤ v1 ∧ v1.toNat < 60 then ox_ev m_Mod_sign (ox_zz ox_ms (n + 2)) 77 0 tl [.inr (.inr (10, 0, 0)), .inl (v1), .inl (v2)] [.inl (r1.2 10 0 1 v1.toNat), .inl (v1), .inr (.inr (110, 0, 1))] (ox_up r1.2 10 0 0 ((ox_w ((ox_w (24 * v1)) + (r1.2 10 0 1 v1.toNat))).toNat) v2) else none) rfl ?_
    refine ox_R_if (fun _ => ?_) (fun _ => ox_R_none)
    refine ox_R_to 3 (Y := if 0 ≤ v1 ∧ v1.toNat < 60 then ox_ev m_Mod_sign (ox_zz ox_ms (n + 2)) 80 0 tl [.inr (.inr (10, 0, 0)), .inl (v1), .inl (v2)] [] (ox_up (ox_up r1.2 10 0 0 ((ox_w ((ox_w (24 * v1)) + (r1.2 10 0 1 v1.toNat))).toNat) v2) 10 0 1 v1.toNat (ox_w ((r1.2 10 0 1 v1.toNat) + 1))) else none) rfl ?_
    refine ox_R_if (fun _ => ?_) (fun _ => ox_R_none)
    refine ox_R_to 4 (Y := if 0 ≤ v1 ∧ v1.toNat < 60 then ox_ev m_Mod_sign (ox_zz ox_ms (n + 2)) 86 0 tl [.inr (.inr (10, 0, 0)), .inl (v1), .inl (v2)] [.inl ((ox_up (ox_up r1.2 10 0 0 ((ox_w ((ox_w (24 * v1)) + (r1.2 10 0 1 v1.toNat))).toNat) v2) 10 0 1 v1.toNat (ox_w ((r1.2 10 0 1 v1.toNat) + 1))) 10 0 1 v1.toNat)] (ox_up (ox_up r1.2 10 0 0 ((ox_w ((ox_w (24 * v1)) + (r1.2 10 0 1 v1.toNat))).toNat) v2) 10 0 1 v1.toNat (ox_w ((r1.2 10 0 1 v1.toNat) + 1))) else none) rfl ?_
    refine ox_R_if (fun _ => ?_) (fun _ => ox_R_none)
    refine ox_R_to 1 (Y := some (.inl (some (.inl ((ox_up (ox_up r1.2 10 0 0 ((ox_w ((ox_w (24 * v1)) + (r1.2 10 0 1 v1.toNat))).toNat) v2) 10 0 1 v1.toNat (ox_w ((r1.2 10 0 1 v1.toNat) + 1))) 10 0 1 v1.toNat))), (ox_up (ox_up r1.2 10 0 0 ((ox_w ((ox_w (24 * v1)) + (r1.2 10 0 1 v1.toNat))).toNat) v2) 10 0 1 v1.toNat (ox_w ((r1.2 10 0 1 v1.toNat) + 1))))) rfl ?_
    exact ox_R_ret rfl
  · refine ox_R_to 2 (Y := some (.inl (some (.inl ((-1)))), r1.2)) rfl ?_
    exact ox_R_ret rfl
def F_Mod_sign  (a1 : Int) (a2 : Int) (σ : ox_H) : Option (Int × ox_H) := (F_Mod_isLine a1 σ).bind fun r2 => (if r2 = 0 then (J_Mod_sign_45 a1 a2 1 σ) else ((F_Mod_in a2 32 126 σ).bind fun r3 => (if r3 = 0 then (J_Mod_sign_45 a1 a2 2 σ) else (if 0 ≤ a1 ∧ a1.toNat < 60 then (if (σ 10 0 1 a1.toNat) = 24 then (J_Mod_sign_45 a1 a2 3 σ) else (J_Mod_sign_45 a1 a2 0 σ)) else none))))
theorem L_Mod_sign  (a1 : Int) (a2 : Int) (σ : ox_H) (n tl : Nat) : ox_R (fun r => some ((fun r : Int × ox_H => ((.inl (some (.inl r.1)), r.2) : ox_O)) r)) (F_Mod_sign a1 a2 σ) (ox_zz ox_ms (n + 3) 67 tl [.inr (.inr (10, 0, 0)), .inl (a1), .inl (a2)] σ) := by
  unfold F_Mod_sign
  refine ox_R_of (Y := ox_ev m_Mod_sign (ox_zz ox_ms (n + 2)) 0 0 tl [.inr (.inr (10, 0, 0)), .inl (a1), .inl (a2)] [] σ) rfl ?_
  refine ox_R_to 4 (Y := ox_back m_Mod_sign 3 1 [.inr (.inr (10, 0, 0))] ((ox_zz ox_ms (n + 2)) 45 tl [.inr (.inr (10, 0, 0)), .inl (a1)] σ) (fun pc9 x9 st9 σ9 => ox_ev m_Mod_sign (ox_zz ox_ms (n + 2)) pc9 0 tl (ox_kl (m_Mod_sign.2.2.1 pc9) (ox_xl x9 [.inr (.inr (10, 0, 0)), .inl (a1), .inl (a2)])) st9 σ9)) rfl ?_
  refine ox_R_call (fc := (fun r : Int => ((.inl (some (.inl r)), σ) : ox_O))) (L_Mod_isLine a1 σ (n + 0) tl) (fun r2 => ?_)
  refine ox_R_of (Y := ox_ev m_Mod_sign (ox_zz ox_ms (n + 2)) 6 0 tl [.inr (.inr (10, 0, 0)), .inl (a1), .inl (a2)] [.inl (r2), .inr (.inr (10, 0, 0))] σ) rfl ?_
  refine ox_R_to 1 (Y := if r2 = 0 then ox_ev m_Mod_sign (ox_zz ox_ms (n + 2)) 9 0 tl [.inr (.inr (10, 0, 0)), .inl (a1), .inl (a2)] [.inr (.inr (10, 0, 0))] σ else ox_ev m_Mod_sign (ox_zz ox_ms (n + 2)) 13 0 tl [.inr (.inr (10, 0, 0)), .inl (a1), .inl (a2)] [.inr (.inr (10, 0, 0))] σ) rfl ?_
  refine ox_R_if (fun _ => ?_) (fun _ => ?_)
  · refine ox_R_to 2 (Y := ox_ev m_Mod_sign (ox_zz ox_ms (n + 2)) 45 0 tl [.inr (.inr (10, 0, 0)), .inl (a1), .inl (a2)] [.inl (1), .inr (.inr (10, 0, 0))] σ) rfl ?_
    exact (L_Mod_sign_45 a1 a2 1 σ n tl)
  · refine ox_R_to 5 (Y := ox_back m_Mod_sign 19 1 [.inr (.inr (10, 0, 0))] ((ox_zz ox_ms (n + 2)) 44 tl [.inr (.inr (10, 0, 0)), .inl (a2), .inl (32), .inl (126)] σ) (fun pc9 x9 st9 σ9 => ox_ev m_Mod_sign (ox_zz ox_ms (n + 2)) pc9 0 tl (ox_kl (m_Mod_sign.2.2.1 pc9) (ox_xl x9 [.inr (.inr (10, 0, 0)), .inl (a1), .inl (a2)])) st9 σ9)) rfl ?_
    refine ox_R_call (fc := (fun r : Int => ((.inl (some (.inl r)), σ) : ox_O))) (L_Mod_in a2 32 126 σ (n + 1) tl) (fun r3 => ?_)
    refine ox_R_of (Y := ox_ev m_Mod_sign (ox_zz ox_ms (n + 2)) 22 0 tl [.inr (.inr (10, 0, 0)), .inl (a1), .inl (a2)] [.inl (r3), .inr (.inr (10, 0, 0))] σ) rfl ?_
    refine ox_R_to 1 (Y := if r3 = 0 then ox_ev m_Mod_sign (ox_zz ox_ms (n + 2)) 25 0 tl [.inr (.inr (10, 0, 0)), .inl (a1), .inl (a2)] [.inr (.inr (10, 0, 0))] σ else ox_ev m_Mod_sign (ox_zz ox_ms (n + 2)) 29 0 tl [.inr (.inr (10, 0, 0)), .inl (a1), .inl (a2)] [.inr (.inr (10, 0, 0))] σ) rfl ?_
    refine ox_R_if (fun _ => ?_) (fun _ => ?_)
    · refine ox_R_to 2 (Y := ox_ev m_Mod_sign (ox_zz ox_ms (n + 2)) 45 0 tl [.inr (.inr (10, 0, 0)), .inl (a1), .inl (a2)] [.inl (2), .inr (.inr (10, 0, 0))] σ) rfl ?_
      exact (L_Mod_sign_45 a1 a2 2 σ n tl)
    · refine ox_R_to 4 (Y := if 0 ≤ a1 ∧ a1.toNat < 60 then ox_ev m_Mod_sign (ox_zz ox_ms (n + 2)) 35 0 tl [.inr (.inr (10, 0, 0)), .inl (a1), .inl (a2)] [.inl (σ 10 0 1 a1.toNat), .inr (.inr (10, 0, 0))] σ else none) rfl ?_
      refine ox_R_if (fun _ => ?_) (fun _ => ox_R_none)
      refine ox_R_to 2 (Y := if (σ 10 0 1 a1.toNat) = 24 then ox_ev m_Mod_sign (ox_zz ox_ms (n + 2)) 40 0 tl [.inr (.inr (10, 0, 0)), .inl (a1), .inl (a2)] [.inr (.inr (10, 0, 0))] σ else ox_ev m_Mod_sign (ox_zz ox_ms (n + 2)) 44 0 tl [.inr (.inr (10, 0, 0)), .inl (a1), .inl (a2)] [.inr (.inr (10, 0, 0))] σ) rfl ?_
      refine ox_R_if (fun _ => ?_) (fun _ => ?_)
      · refine ox_R_to 2 (Y := ox_ev m_Mod_sign (ox_zz ox_ms (n + 2)) 45 0 tl [.inr (.inr (10, 0, 0)), .inl (a1), .inl (a2)] [.inl (3), .inr (.inr (10, 0, 0))] σ) rfl ?_
        exact (L_Mod_sign_45 a1 a2 3 σ n tl)
      · refine ox_R_to 1 (Y := ox_ev m_Mod_sign (ox_zz ox_ms (n + 2)) 45 0 tl [.inr (.inr (10, 0, 0)), .inl (a1), .inl (a2)] [.inl (0), .inr (.inr (10, 0, 0))] σ) rfl ?_
        exact (L_Mod_sign_45 a1 a2 0 σ n tl)
def J_Mod_rub_14  (v1 : Int) (s0 : Int) (σ : ox_H) : Option (Int × ox_H) := (F_Mod_holds s0 σ).bind fun r1 => (if r1.1 = 0 then (if 0 ≤ v1 ∧ v1.toNat < 60 then (if (r1.2 10 0 1 v1.toNat) = 0 then ((F_Mod_close v1 1 r1.2).bind fun r2 => (some ((-1), r2))) else (if 0 ≤ v1 ∧ v1.toNat < 60 then (if 0 ≤ v1 ∧ v1.toNat < 60 then (if 0 ≤ v1 ∧ v1.toNat < 60 then (some ((ox_up r1.2 10 0 1 v1.toNat (ox_w ((r1.2 10 0 1 v1.toNat) - 1))) 10 0 1 v1.toNat, (ox_up r1.2 10 0 1 v1.toNat (ox_w ((r1.2 10 0 1 v1.toNat) - 1))))) else none) else none) else none)) else none) else (some ((-1), r1.2)))
theorem L_Mod_rub_14  (v1 : Int) (s0 : Int) (σ : ox_H) (n tl : Nat) : ox_R (fun r => some ((fun r : Int × ox_H => ((.inl (some (.inl r.1)), r.2) : ox_O)) r)) (J_Mod_rub_14 v1 s0 σ) (ox_ev m_Mod_rub (ox_zz ox_ms (n + 2)) 14 0 tl [.inr (.inr (10, 0, 0)), .inl (v1)] [.inl (s0), .inr (.inr (10, 0, 0))] σ) := by
  unfold J_Mod_rub_14
  refine ox_R_to 1 (Y := ox_back m_Mod_rub 14 1 [] ((ox_zz ox_ms (n + 2)) 43 tl [.inr (.inr (10, 0, 0)), .inl (s0)] σ) (fun pc9 x9 st9 σ9 => ox_ev m_Mod_rub (ox_zz ox_ms (n + 2)) pc9 0 tl (ox_kl (m_Mod_rub.2.2.1 pc9) (ox_xl x9 [.inr (.inr (10, 0, 0)), .inl (v1)])) st9 σ9)) rfl ?_
  refine ox_R_call (fc := (fun r : Int × ox_H => ((.inl (some (.inl r.1)), r.2) : ox_O))) (L_Mod_holds s0 σ (n + 1) tl) (fun r1 => ?_)
  refine ox_R_of (Y := ox_ev m_Mod_rub (ox_zz ox_ms (n + 2)) 17 0 tl [.inr (.inr (10, 0, 0)), .inl (v1)] [.inl (r1.1)] r1.2) rfl ?_
  refine ox_R_to 1 (Y := if r1.1 = 0 then ox_ev m_Mod_rub (ox_zz ox_ms (n + 2)) 22 0 tl [.inr (.inr (10, 0, 0)), .inl (v1)] [] r1.2 else ox_ev m_Mod_rub (ox_zz ox_ms (n + 2)) 20 0 tl [.inr (.inr (10, 0, 0)), .inl (v1)] [] r1.2) rfl ?_
  refine ox_R_if (fun _ => ?_) (fun _ => ?_)
  · refine ox_R_to 4 (Y := if 0 ≤ v1 ∧ v1.toNat < 60 then ox_ev m_Mod_rub (ox_zz ox_ms (n + 2)) 28 0 tl [.inr (.inr (10, 0, 0)), .inl (v1)] [.inl (r1.2 10 0 1 v1.toNat)] r1.2 else none) rfl ?_
    refine ox_R_if (fun _ => ?_) (fun _ => ox_R_none)
    refine ox_R_to 1 (Y := if (r1.2 10 0 1 v1.toNat) = 0 then ox_ev m_Mod_rub (ox_zz ox_ms (n + 2)) 31 0 tl [.inr (.inr (10, 0, 0)), .inl (v1)] [] r1.2 else ox_ev m_Mod_rub (ox_zz ox_ms (n + 2)) 39 0 tl [.inr (.inr (10, 0, 0)), .inl (v1)] [] r1.2) rfl ?_
    refine ox_R_if (fun _ => ?_) (fun _ => ?_)
    · refine ox_R_to 4 (Y := ox_back m_Mod_rub 34 0 [] ((ox_zz ox_ms (n + 2)) 65 tl [.inr (.inr (10, 0, 0)), .inl (v1), .inl (1)] r1.2) (fun pc9 x9 st9 σ9 => ox_ev m_Mod_rub (ox_zz ox_ms (n + 2)) pc9 0 tl (ox_kl (m_Mod_rub.2.2.1 pc9) (ox_xl x9 [.inr (.inr (10, 0, 0)), .inl (v1)])) st9 σ9)) rfl ?_
      refine ox_R_call (fc := (fun r : ox_H => ((.inl none, r) : ox_O))) (L_Mod_close v1 1 r1.2 (n + 1) tl) (fun r2 => ?_)
      refine ox_R_of (Y := ox_ev m_Mod_rub (ox_zz ox_ms (n + 2)) 37 0 tl [.inr (.inr (10, 0, 0)), .inl (v1)] [] r2) rfl ?_
      refine ox_R_to 2 (Y := some (.inl (some (.inl ((-1)))), r2)) rfl ?_
      exact ox_R_ret rfl
    · refine ox_R_to 5 (Y := if 0 ≤ v1 ∧ v1.toNat < 60 then ox_ev m_Mod_rub (ox_zz ox_ms (n + 2)) 46 0 tl [.inr (.inr (10, 0, 0)), .inl (v1)] [.inl (r1.2 10 0 1 v1.toNat), .inl (v1), .inr (.inr (110, 0, 1))] r1.2 else none) rfl ?_
      refine ox_R_if (fun _ => ?_) (fun _ => ox_R_none)
      refine ox_R_to 3 (Y := if 0 ≤ v1 ∧ v1.toNat < 60 then ox_ev m_Mod_rub (ox_zz ox_ms (n + 2)) 49 0 tl [.inr (.inr (10, 0, 0)), .inl (v1)] [] (ox_up r1.2 10 0 1 v1.toNat (ox_w ((r1.2 10 0 1 v1.toNat) - 1))) else none) rfl ?_
      refine ox_R_if (fun _ => ?_) (fun _ => ox_R_none)
      refine ox_R_to 4 (Y := if 0 ≤ v1 ∧ v1.toNat < 60 then ox_ev m_Mod_rub (ox_zz ox_ms (n + 2)) 55 0 tl [.inr (.inr (10, 0, 0)), .inl (v1)] [.inl ((ox_up r1.2 10 0 1 v1.toNat (ox_w ((r1.2 10 0 1 v1.toNat) - 1))) 10 0 1 v1.toNat)] (ox_up r1.2 10 0 1 v1.toNat (ox_w ((r1.2 10 0 1 v1.toNat) - 1))) else none) rfl ?_
      refine ox_R_if (fun _ => ?_) (fun _ => ox_R_none)
      refine ox_R_to 1 (Y := some (.inl (some (.inl ((ox_up r1.2 10 0 1 v1.toNat (ox_w ((r1.2 10 0 1 v1.toNat) - 1))) 10 0 1 v1.toNat))), (ox_up r1.2 10 0 1 v1.toNat (ox_w ((r1.2 10 0 1 v1.toNat) - 1))))) rfl ?_
      exact ox_R_ret rfl
  · refine ox_R_to 2 (Y := some (.inl (some (.inl ((-1)))), r1.2)) rfl ?_
    exact ox_R_ret rfl
def F_Mod_rub  (a1 : Int) (σ : ox_H) : Option (Int × ox_H) := (F_Mod_isLine a1 σ).bind fun r3 => (if r3 = 0 then (J_Mod_rub_14 a1 1 σ) else (J_Mod_rub_14 a1 0 σ))
theorem L_Mod_rub  (a1 : Int) (σ : ox_H) (n tl : Nat) : ox_R (fun r => some ((fun r : Int × ox_H => ((.inl (some (.inl r.1)), r.2) : ox_O)) r)) (F_Mod_rub a1 σ) (ox_zz ox_ms (n + 3) 68 tl [.inr (.inr (10, 0, 0)), .inl (a1)] σ) := by
  unfold F_Mod_rub
  refine ox_R_of (Y := ox_ev m_Mod_rub (ox_zz ox_ms (n + 2)) 0 0 tl [.inr (.inr (10, 0, 0)), .inl (a1)] [] σ) rfl ?_
  refine ox_R_to 4 (Y := ox_back m_Mod_rub 3 1 [.inr (.inr (10, 0, 0))] ((ox_zz ox_ms (n + 2)) 45 tl [.inr (.inr (10, 0, 0)), .inl (a1)] σ) (fun pc9 x9 st9 σ9 => ox_ev m_Mod_rub (ox_zz ox_ms (n + 2)) pc9 0 tl (ox_kl (m_Mod_rub.2.2.1 pc9) (ox_xl x9 [.inr (.inr (10, 0, 0)), .inl (a1)])) st9 σ9)) rfl ?_
  refine ox_R_call (fc := (fun r : Int => ((.inl (some (.inl r)), σ) : ox_O))) (L_Mod_isLine a1 σ (n + 0) tl) (fun r3 => ?_)
  refine ox_R_of (Y := ox_ev m_Mod_rub (ox_zz ox_ms (n + 2)) 6 0 tl [.inr (.inr (10, 0, 0)), .inl (a1)] [.inl (r3), .inr (.inr (10, 0, 0))] σ) rfl ?_
  refine ox_R_to 1 (Y := if r3 = 0 then ox_ev m_Mod_rub (ox_zz ox_ms (n + 2)) 13 0 tl [.inr (.inr (10, 0, 0)), .inl (a1)] [.inr (.inr (10, 0, 0))] σ else ox_ev m_Mod_rub (ox_zz ox_ms (n + 2)) 9 0 tl [.inr (.inr (10, 0, 0)), .inl (a1)] [.inr (.inr (10, 0, 0))] σ) rfl ?_
  refine ox_R_if (fun _ => ?_) (fun _ => ?_)
  · refine ox_R_to 1 (Y := ox_ev m_Mod_rub (ox_zz ox_ms (n + 2)) 14 0 tl [.inr (.inr (10, 0, 0)), .inl (a1)] [.inl (1), .inr (.inr (10, 0, 0))] σ) rfl ?_
    exact (L_Mod_rub_14 a1 1 σ n tl)
  · refine ox_R_to 2 (Y := ox_ev m_Mod_rub (ox_zz ox_ms (n + 2)) 14 0 tl [.inr (.inr (10, 0, 0)), .inl (a1)] [.inl (0), .inr (.inr (10, 0, 0))] σ) rfl ?_
    exact (L_Mod_rub_14 a1 0 σ n tl)
def F_Mod_lines  (σ : ox_H) : Option (Int × ox_H) := (F_Mod_holds 0 σ).bind fun r1 => (some (r1.2 10 0 2 0, r1.2))
theorem L_Mod_lines  (σ : ox_H) (n tl : Nat) : ox_R (fun r => some ((fun r : Int × ox_H => ((.inl (some (.inl r.1)), r.2) : ox_O)) r)) (F_Mod_lines σ) (ox_zz ox_ms (n + 2) 69 tl [.inr (.inr (10, 0, 0))] σ) := by
  unfold F_Mod_lines
  refine ox_R_of (Y := ox_ev m_Mod_lines (ox_zz ox_ms (n + 1)) 0 0 tl [.inr (.inr (10, 0, 0))] [] σ) rfl ?_
  refine ox_R_to 3 (Y := ox_back m_Mod_lines 2 1 [] ((ox_zz ox_ms (n + 1)) 43 tl [.inr (.inr (10, 0, 0)), .inl (0)] σ) (fun pc9 x9 st9 σ9 => ox_ev m_Mod_lines (ox_zz ox_ms (n + 1)) pc9 0 tl (ox_kl (m_Mod_lines.2.2.1 pc9) (ox_xl x9 [.inr (.inr (10, 0, 0))])) st9 σ9)) rfl ?_
  refine ox_R_call (fc := (fun r : Int × ox_H => ((.inl (some (.inl r.1)), r.2) : ox_O))) (L_Mod_holds 0 σ (n + 0) tl) (fun r1 => ?_)
  refine ox_R_of (Y := ox_ev m_Mod_lines (ox_zz ox_ms (n + 1)) 5 0 tl [.inr (.inr (10, 0, 0))] [.inl (r1.1)] r1.2) rfl ?_
  refine ox_R_to 4 (Y := some (.inl (some (.inl (r1.2 10 0 2 0))), r1.2)) rfl ?_
  exact ox_R_ret rfl
def J_Mod_signAt_35  (s0 : Int) (σ : ox_H) : Option (Int × ox_H) := some (s0 % 65536, σ)
theorem L_Mod_signAt_35  (s0 : Int) (σ : ox_H) (n tl : Nat) : ox_R (fun r => some ((fun r : Int × ox_H => ((.inl (some (.inl r.1)), r.2) : ox_O)) r)) (J_Mod_signAt_35 s0 σ) (ox_ev m_Mod_signAt (ox_zz ox_ms (n + 2)) 35 0 tl [ox_d, ox_d, ox_d] [.inl (s0)] σ) := by
  unfold J_Mod_signAt_35
  refine ox_R_to 1 (Y := some (.inl (some (.inl (s0 % 65536))), σ)) rfl ?_
  exact ox_R_ret rfl
def J_Mod_signAt_18  (v1 : Int) (v2 : Int) (s0 : Int) (σ : ox_H) : Option (Int × ox_H) := (F_Mod_holds s0 σ).bind fun r1 => (if r1.1 = 0 then ((F_Mod_look v1 v2 r1.2).bind fun r2 => (J_Mod_signAt_35 (r2 % 65536) r1.2)) else (J_Mod_signAt_35 0 r1.2))
theorem L_Mod_signAt_18  (v1 : Int) (v2 : Int) (s0 : Int) (σ : ox_H) (n tl : Nat) : ox_R (fun r => some ((fun r : Int × ox_H => ((.inl (some (.inl r.1)), r.2) : ox_O)) r)) (J_Mod_signAt_18 v1 v2 s0 σ) (ox_ev m_Mod_signAt (ox_zz ox_ms (n + 2)) 18 0 tl [.inr (.inr (10, 0, 0)), .inl (v1), .inl (v2)] [.inl (s0), .inr (.inr (10, 0, 0))] σ) := by
  unfold J_Mod_signAt_18
  refine ox_R_to 1 (Y := ox_back m_Mod_signAt 18 1 [] ((ox_zz ox_ms (n + 2)) 43 tl [.inr (.inr (10, 0, 0)), .inl (s0)] σ) (fun pc9 x9 st9 σ9 => ox_ev m_Mod_signAt (ox_zz ox_ms (n + 2)) pc9 0 tl (ox_kl (m_Mod_signAt.2.2.1 pc9) (ox_xl x9 [.inr (.inr (10, 0, 0)), .inl (v1), .inl (v2)])) st9 σ9)) rfl ?_
  refine ox_R_call (fc := (fun r : Int × ox_H => ((.inl (some (.inl r.1)), r.2) : ox_O))) (L_Mod_holds s0 σ (n + 1) tl) (fun r1 => ?_)
  refine ox_R_of (Y := ox_ev m_Mod_signAt (ox_zz ox_ms (n + 2)) 21 0 tl [.inr (.inr (10, 0, 0)), .inl (v1), .inl (v2)] [.inl (r1.1)] r1.2) rfl ?_
  refine ox_R_to 1 (Y := if r1.1 = 0 then ox_ev m_Mod_signAt (ox_zz ox_ms (n + 2)) 28 0 tl [.inr (.inr (10, 0, 0)), .inl (v1), .inl (v2)] [] r1.2 else ox_ev m_Mod_signAt (ox_zz ox_ms (n + 2)) 24 0 tl [.inr (.inr (10, 0, 0)), .inl (v1), .inl (v2)] [] r1.2) rfl ?_
  refine ox_R_if (fun _ => ?_) (fun _ => ?_)
  · refine ox_R_to 4 (Y := ox_back m_Mod_signAt 31 1 [] ((ox_zz ox_ms (n + 2)) 46 tl [.inr (.inr (10, 0, 0)), .inl (v1), .inl (v2)] r1.2) (fun pc9 x9 st9 σ9 => ox_ev m_Mod_signAt (ox_zz ox_ms (n + 2)) pc9 0 tl (ox_kl (m_Mod_signAt.2.2.1 pc9) (ox_xl x9 [.inr (.inr (10, 0, 0)), .inl (v1), .inl (v2)])) st9 σ9)) rfl ?_
    refine ox_R_call (fc := (fun r : Int => ((.inl (some (.inl r)), r1.2) : ox_O))) (L_Mod_look v1 v2 r1.2 (n + 1) tl) (fun r2 => ?_)
    refine ox_R_of (Y := ox_ev m_Mod_signAt (ox_zz ox_ms (n + 2)) 34 0 tl [.inr (.inr (10, 0, 0)), .inl (v1), .inl (v2)] [.inl (r2)] r1.2) rfl ?_
    refine ox_R_to 1 (Y := ox_ev m_Mod_signAt (ox_zz ox_ms (n + 2)) 35 0 tl [ox_d, ox_d, ox_d] [.inl (r2 % 65536)] r1.2) rfl ?_
    exact (L_Mod_signAt_35 (r2 % 65536) r1.2 n tl)
  · refine ox_R_to 2 (Y := ox_ev m_Mod_signAt (ox_zz ox_ms (n + 2)) 35 0 tl [ox_d, ox_d, ox_d] [.inl (0)] r1.2) rfl ?_
    exact (L_Mod_signAt_35 0 r1.2 n tl)
def J_Mod_signAt_17  (v1 : Int) (v2 : Int) (σ : ox_H) : Option (Int × ox_H) := (J_Mod_signAt_18 v1 v2 1 σ)
theorem L_Mod_signAt_17  (v1 : Int) (v2 : Int) (σ : ox_H) (n tl : Nat) : ox_R (fun r => some ((fun r : Int × ox_H => ((.inl (some (.inl r.1)), r.2) : ox_O)) r)) (J_Mod_signAt_17 v1 v2 σ) (ox_ev m_Mod_signAt (ox_zz ox_ms (n + 2)) 17 0 tl [.inr (.inr (10, 0, 0)), .inl (v1), .inl (v2)] [.inr (.inr (10, 0, 0))] σ) := by
  unfold J_Mod_signAt_17
  refine ox_R_to 1 (Y := ox_ev m_Mod_signAt (ox_zz ox_ms (n + 2)) 18 0 tl [.inr (.inr (10, 0, 0)), .inl (v1), .inl (v2)] [.inl (1), .inr (.inr (10, 0, 0))] σ) rfl ?_
  exact (L_Mod_signAt_18 v1 v2 1 σ n tl)
def F_Mod_signAt  (a1 : Int) (a2 : Int) (σ : ox_H) : Option (Int × ox_H) := (F_Mod_isLine a1 σ).bind fun r3 => (if r3 = 0 then (J_Mod_signAt_17 a1 a2 σ) else (if a2 < 0 then (J_Mod_signAt_17 a1 a2 σ) else (J_Mod_signAt_18 a1 a2 0 σ)))
theorem L_Mod_signAt  (a1 : Int) (a2 : Int) (σ : ox_H) (n tl : Nat) : ox_R (fun r => some ((fun r : Int × ox_H => ((.inl (some (.inl r.1)), r.2) : ox_O)) r)) (F_Mod_signAt a1 a2 σ) (ox_zz ox_ms (n + 3) 70 tl [.inr (.inr (10, 0, 0)), .inl (a1), .inl (a2)] σ) := by
  unfold F_Mod_signAt
  refine ox_R_of (Y := ox_ev m_Mod_signAt (ox_zz ox_ms (n + 2)) 0 0 tl [.inr (.inr (10, 0, 0)), .inl (a1), .inl (a2)] [] σ) rfl ?_
  refine ox_R_to 4 (Y := ox_back m_Mod_signAt 3 1 [.inr (.inr (10, 0, 0))] ((ox_zz ox_ms (n + 2)) 45 tl [.inr (.inr (10, 0, 0)), .inl (a1)] σ) (fun pc9 x9 st9 σ9 => ox_ev m_Mod_signAt (ox_zz ox_ms (n + 2)) pc9 0 tl (ox_kl (m_Mod_signAt.2.2.1 pc9) (ox_xl x9 [.inr (.inr (10, 0, 0)), .inl (a1), .inl (a2)])) st9 σ9)) rfl ?_
  refine ox_R_call (fc := (fun r : Int => ((.inl (some (.inl r)), σ) : ox_O))) (L_Mod_isLine a1 σ (n + 0) tl) (fun r3 => ?_)
  refine ox_R_of (Y := ox_ev m_Mod_signAt (ox_zz ox_ms (n + 2)) 6 0 tl [.inr (.inr (10, 0, 0)), .inl (a1), .inl (a2)] [.inl (r3), .inr (.inr (10, 0, 0))] σ) rfl ?_
  refine ox_R_to 1 (Y := if r3 = 0 then ox_ev m_Mod_signAt (ox_zz ox_ms (n + 2)) 17 0 tl [.inr (.inr (10, 0, 0)), .inl (a1), .inl (a2)] [.inr (.inr (10, 0, 0))] σ else ox_ev m_Mod_signAt (ox_zz ox_ms (n + 2)) 9 0 tl [.inr (.inr (10, 0, 0)), .inl (a1), .inl (a2)] [.inr (.inr (10, 0, 0))] σ) rfl ?_
  refine ox_R_if (fun _ => ?_) (fun _ => ?_)
  · exact (L_Mod_signAt_17 a1 a2 σ n tl)
  · refine ox_R_to 2 (Y := if a2 < 0 then ox_ev m_Mod_signAt (ox_zz ox_ms (n + 2)) 17 0 tl [.inr (.inr (10, 0, 0)), .inl (a1), .inl (a2)] [.inr (.inr (10, 0, 0))] σ else ox_ev m_Mod_signAt (ox_zz ox_ms (n + 2)) 13 0 tl [.inr (.inr (10, 0, 0)), .inl (a1), .inl (a2)] [.inr (.inr (10, 0, 0))] σ) rfl ?_
    refine ox_R_if (fun _ => ?_) (fun _ => ?_)
    · exact (L_Mod_signAt_17 a1 a2 σ n tl)
    · refine ox_R_to 2 (Y := ox_ev m_Mod_signAt (ox_zz ox_ms (n + 2)) 18 0 tl [.inr (.inr (10, 0, 0)), .inl (a1), .inl (a2)] [.inl (0), .inr (.inr (10, 0, 0))] σ) rfl ?_
      exact (L_Mod_signAt_18 a1 a2 0 σ n tl)
def J_Mod_kind_29  (s0 : Int) (σ : ox_H) : Option (Int × ox_H) := some (s0, σ)
theorem L_Mod_kind_29  (s0 : Int) (σ : ox_H) (n tl : Nat) : ox_R (fun r => some ((fun r : Int × ox_H => ((.inl (some (.inl r.1)), r.2) : ox_O)) r)) (J_Mod_kind_29 s0 σ) (ox_ev m_Mod_kind (ox_zz ox_ms (n + 7)) 29 0 tl [ox_d, ox_d] [.inl (s0)] σ) := by
  unfold J_Mod_kind_29
  refine ox_R_to 1 (Y := some (.inl (some (.inl (s0))), σ)) rfl ?_
  exact ox_R_ret rfl
def J_Mod_kind_14  (v1 : Int) (s0 : Int) (σ : ox_H) : Option (Int × ox_H) := (F_Mod_holds s0 σ).bind fun r1 => (if r1.1 = 0 then ((F_Mod_kindOf v1 r1.2).bind fun r2 => (J_Mod_kind_29 r2.1 r2.2)) else (J_Mod_kind_29 (-1) r1.2))
theorem L_Mod_kind_14  (v1 : Int) (s0 : Int) (σ : ox_H) (n tl : Nat) : ox_R (fun r => some ((fun r : Int × ox_H => ((.inl (some (.inl r.1)), r.2) : ox_O)) r)) (J_Mod_kind_14 v1 s0 σ) (ox_ev m_Mod_kind (ox_zz ox_ms (n + 7)) 14 0 tl [.inr (.inr (10, 0, 0)), .inl (v1)] [.inl (s0), .inr (.inr (10, 0, 0))] σ) := by
  unfold J_Mod_kind_14
  refine ox_R_to 1 (Y := ox_back m_Mod_kind 14 1 [] ((ox_zz ox_ms (n + 7)) 43 tl [.inr (.inr (10, 0, 0)), .inl (s0)] σ) (fun pc9 x9 st9 σ9 => ox_ev m_Mod_kind (ox_zz ox_ms (n + 7)) pc9 0 tl (ox_kl (m_Mod_kind.2.2.1 pc9) (ox_xl x9 [.inr (.inr (10, 0, 0)), .inl (v1)])) st9 σ9)) rfl ?_
  refine ox_R_call (fc := (fun r : Int × ox_H => ((.inl (some (.inl r.1)), r.2) : ox_O))) (L_Mod_holds s0 σ (n + 6) tl) (fun r1 => ?_)
  refine ox_R_of (Y := ox_ev m_Mod_kind (ox_zz ox_ms (n + 7)) 17 0 tl [.inr (.inr (10, 0, 0)), .inl (v1)] [.inl (r1.1)] r1.2) rfl ?_
  refine ox_R_to 1 (Y := if r1.1 = 0 then ox_ev m_Mod_kind (ox_zz ox_ms (n + 7)) 24 0 tl [.inr (.inr (10, 0, 0)), .inl (v1)] [] r1.2 else ox_ev m_Mod_kind (ox_zz ox_ms (n + 7)) 20 0 tl [.inr (.inr (10, 0, 0)), .inl (v1)] [] r1.2) rfl ?_
  refine ox_R_if (fun _ => ?_) (fun _ => ?_)
  · refine ox_R_to 3 (Y := ox_back m_Mod_kind 26 1 [] ((ox_zz ox_ms (n + 7)) 63 tl [.inr (.inr (10, 0, 0)), .inl (v1)] r1.2) (fun pc9 x9 st9 σ9 => ox_ev m_Mod_kind (ox_zz ox_ms (n + 7)) pc9 0 tl (ox_kl (m_Mod_kind.2.2.1 pc9) (ox_xl x9 [.inr (.inr (10, 0, 0)), .inl (v1)])) st9 σ9)) rfl ?_
    refine ox_R_call (fc := (fun r : Int × ox_H => ((.inl (some (.inl r.1)), r.2) : ox_O))) (L_Mod_kindOf v1 r1.2 (n + 0) tl) (fun r2 => ?_)
    refine ox_R_of (Y := ox_ev m_Mod_kind (ox_zz ox_ms (n + 7)) 29 0 tl [ox_d, ox_d] [.inl (r2.1)] r2.2) rfl ?_
    exact (L_Mod_kind_29 r2.1 r2.2 n tl)
  · refine ox_R_to 2 (Y := ox_ev m_Mod_kind (ox_zz ox_ms (n + 7)) 29 0 tl [ox_d, ox_d] [.inl ((-1))] r1.2) rfl ?_
    exact (L_Mod_kind_29 (-1) r1.2 n tl)
def F_Mod_kind  (a1 : Int) (σ : ox_H) : Option (Int × ox_H) := (F_Mod_isLine a1 σ).bind fun r3 => (if r3 = 0 then (J_Mod_kind_14 a1 1 σ) else (J_Mod_kind_14 a1 0 σ))
theorem L_Mod_kind  (a1 : Int) (σ : ox_H) (n tl : Nat) : ox_R (fun r => some ((fun r : Int × ox_H => ((.inl (some (.inl r.1)), r.2) : ox_O)) r)) (F_Mod_kind a1 σ) (ox_zz ox_ms (n + 8) 71 tl [.inr (.inr (10, 0, 0)), .inl (a1)] σ) := by
  unfold F_Mod_kind
  refine ox_R_of (Y := ox_ev m_Mod_kind (ox_zz ox_ms (n + 7)) 0 0 tl [.inr (.inr (10, 0, 0)), .inl (a1)] [] σ) rfl ?_
  refine ox_R_to 4 (Y := ox_back m_Mod_kind 3 1 [.inr (.inr (10, 0, 0))] ((ox_zz ox_ms (n + 7)) 45 tl [.inr (.inr (10, 0, 0)), .inl (a1)] σ) (fun pc9 x9 st9 σ9 => ox_ev m_Mod_kind (ox_zz ox_ms (n + 7)) pc9 0 tl (ox_kl (m_Mod_kind.2.2.1 pc9) (ox_xl x9 [.inr (.inr (10, 0, 0)), .inl (a1)])) st9 σ9)) rfl ?_
  refine ox_R_call (fc := (fun r : Int => ((.inl (some (.inl r)), σ) : ox_O))) (L_Mod_isLine a1 σ (n + 5) tl) (fun r3 => ?_)
  refine ox_R_of (Y := ox_ev m_Mod_kind (ox_zz ox_ms (n + 7)) 6 0 tl [.inr (.inr (10, 0, 0)), .inl (a1)] [.inl (r3), .inr (.inr (10, 0, 0))] σ) rfl ?_
  refine ox_R_to 1 (Y := if r3 = 0 then ox_ev m_Mod_kind (ox_zz ox_ms (n + 7)) 13 0 tl [.inr (.inr (10, 0, 0)), .inl (a1)] [.inr (.inr (10, 0, 0))] σ else ox_ev m_Mod_kind (ox_zz ox_ms (n + 7)) 9 0 tl [.inr (.inr (10, 0, 0)), .inl (a1)] [.inr (.inr (10, 0, 0))] σ) rfl ?_
  refine ox_R_if (fun _ => ?_) (fun _ => ?_)
  · refine ox_R_to 1 (Y := ox_ev m_Mod_kind (ox_zz ox_ms (n + 7)) 14 0 tl [.inr (.inr (10, 0, 0)), .inl (a1)] [.inl (1), .inr (.inr (10, 0, 0))] σ) rfl ?_
    exact (L_Mod_kind_14 a1 1 σ n tl)
  · refine ox_R_to 2 (Y := ox_ev m_Mod_kind (ox_zz ox_ms (n + 7)) 14 0 tl [.inr (.inr (10, 0, 0)), .inl (a1)] [.inl (0), .inr (.inr (10, 0, 0))] σ) rfl ?_
    exact (L_Mod_kind_14 a1 0 σ n tl)
def J_Mod_find_49  (σ : ox_H) : Option ox_H := if 0 ≤ (σ 10 0 22 0) ∧ (σ 10 0 22 0).toNat < 61 then (some (ox_up σ 10 0 21 ((σ 10 0 22 0).toNat) (σ 10 0 2 0))) else none
theorem L_Mod_find_49  (σ : ox_H) (n tl : Nat) : ox_R (fun r => some ((fun r : ox_H => ((.inl none, r) : ox_O)) r)) (J_Mod_find_49 σ) (ox_ev m_Mod_find (ox_zz ox_ms (n + 4)) 49 0 tl [.inr (.inr (10, 0, 0)), ox_d] [] σ) := by
  unfold J_Mod_find_49
  refine ox_R_to 7 (Y := if 0 ≤ (σ 10 0 22 0) ∧ (σ 10 0 22 0).toNat < 61 then ox_ev m_Mod_find (ox_zz ox_ms (n + 4)) 62 0 tl [.inr (.inr (10, 0, 0)), ox_d] [] (ox_up σ 10 0 21 ((σ 10 0 22 0).toNat) (σ 10 0 2 0)) else none) rfl ?_
  refine ox_R_if (fun _ => ?_) (fun _ => ox_R_none)
  refine ox_R_to 1 (Y := some (.inl none, (ox_up σ 10 0 21 ((σ 10 0 22 0).toNat) (σ 10 0 2 0)))) rfl ?_
  exact ox_R_ret rfl
def J_Mod_find_43  (v1 : Int) (σ : ox_H) : Option (((Int × ox_H) ⊕ ox_H)) := some (.inl (ox_w (v1 + 1), σ))
theorem L_Mod_find_43  (v1 : Int) (σ : ox_H) (n tl : Nat) : ox_R (Sum.elim (fun (s : Int × ox_H) => match s with | (v1, σ) => ox_ev m_Mod_find (ox_zz ox_ms (n + 4)) 7 0 tl [.inr (.inr (10, 0, 0)), .inl (v1)] [] σ) (fun r => some ((fun r : ox_H => ((.inl none, r) : ox_O)) r))) (J_Mod_find_43 v1 σ) (ox_ev m_Mod_find (ox_zz ox_ms (n + 4)) 43 0 tl [.inr (.inr (10, 0, 0)), .inl (v1)] [] σ) := by
  unfold J_Mod_find_43
  refine ox_R_to 2 (Y := ox_ev m_Mod_find (ox_zz ox_ms (n + 4)) 7 0 tl [.inr (.inr (10, 0, 0)), .inl (ox_w (v1 + 1))] [] σ) rfl ?_
  exact ox_R_ret rfl
def B_Mod_find_7  : (Int × ox_H) → Option (((Int × ox_H) ⊕ ox_H)) := fun (v1, σ) => if (σ 10 0 2 0) ≤ v1 then ((J_Mod_find_49 σ).map .inr) else ((F_Mod_heading v1 σ).bind fun r1 => (if r1.1 = 0 then (J_Mod_find_43 v1 r1.2) else (if 0 ≤ (r1.2 10 0 22 0) ∧ (r1.2 10 0 22 0).toNat < 61 then (J_Mod_find_43 v1 (ox_up (ox_up r1.2 10 0 21 ((r1.2 10 0 22 0).toNat) v1) 10 0 22 0 (ox_w ((r1.2 10 0 22 0) + 1)))) else none)))
def J_Mod_find_7  (v1 : Int) (σ : ox_H) : Option (ox_H) := ox_lp (B_Mod_find_7) ox_fu (v1, σ)
theorem L_Mod_find_7  (v1 : Int) (σ : ox_H) (n tl : Nat) : ox_R (fun r => some ((fun r : ox_H => ((.inl none, r) : ox_O)) r)) (J_Mod_find_7 v1 σ) (ox_ev m_Mod_find (ox_zz ox_ms (n + 4)) 7 0 tl [.inr (.inr (10, 0, 0)), .inl (v1)] [] σ) := by
  unfold J_Mod_find_7
  refine ox_R_lp (ψ := (fun (s : Int × ox_H) => match s with | (v1, σ) => ox_ev m_Mod_find (ox_zz ox_ms (n + 4)) 7 0 tl [.inr (.inr (10, 0, 0)), .inl (v1)] [] σ)) ?_ ox_fu (v1, σ)
  intro s
  obtain ⟨v1, σ⟩ := s
  unfold B_Mod_find_7
  refine ox_R_to 4 (Y := if (σ 10 0 2 0) ≤ v1 then ox_ev m_Mod_find (ox_zz ox_ms (n + 4)) 49 0 tl [.inr (.inr (10, 0, 0)), ox_d] [] σ else ox_ev m_Mod_find (ox_zz ox_ms (n + 4)) 15 0 tl [.inr (.inr (10, 0, 0)), .inl (v1)] [] σ) rfl ?_
  refine ox_R_if (fun _ => ?_) (fun _ => ?_)
  · exact ox_R_map ((L_Mod_find_49 σ n tl))
  · refine ox_R_to 3 (Y := ox_back m_Mod_find 17 1 [] ((ox_zz ox_ms (n + 4)) 55 tl [.inr (.inr (10, 0, 0)), .inl (v1)] σ) (fun pc9 x9 st9 σ9 => ox_ev m_Mod_find (ox_zz ox_ms (n + 4)) pc9 0 tl (ox_kl (m_Mod_find.2.2.1 pc9) (ox_xl x9 [.inr (.inr (10, 0, 0)), .inl (v1)])) st9 σ9)) rfl ?_
    refine ox_R_call (fc := (fun r : Int × ox_H => ((.inl (some (.inl r.1)), r.2) : ox_O))) (L_Mod_heading v1 σ (n + 0) tl) (fun r1 => ?_)
    refine ox_R_of (Y := ox_ev m_Mod_find (ox_zz ox_ms (n + 4)) 20 0 tl [.inr (.inr (10, 0, 0)), .inl (v1)] [.inl (r1.1)] r1.2) rfl ?_
    refine ox_R_to 1 (Y := if r1.1 = 0 then ox_ev m_Mod_find (ox_zz ox_ms (n + 4)) 43 0 tl [.inr (.inr (10, 0, 0)), .inl (v1)] [] r1.2 else ox_ev m_Mod_find (ox_zz ox_ms (n + 4)) 23 0 tl [.inr (.inr (10, 0, 0)), .inl (v1)] [] r1.2) rfl ?_
    refine ox_R_if (fun _ => ?_) (fun _ => ?_)
    · exact (L_Mod_find_43 v1 r1.2 n tl)
    · refine ox_R_to 6 (Y := if 0 ≤ (r1.2 10 0 22 0) ∧ (r1.2 10 0 22 0).toNat < 61 then ox_ev m_Mod_find (ox_zz ox_ms (n + 4)) 33 0 tl [.inr (.inr (10, 0, 0)), .inl (v1)] [] (ox_up r1.2 10 0 21 ((r1.2 10 0 22 0).toNat) v1) else none) rfl ?_
      refine ox_R_if (fun _ => ?_) (fun _ => ox_R_none)
      refine ox_R_to 6 (Y := ox_ev m_Mod_find (ox_zz ox_ms (n + 4)) 43 0 tl [.inr (.inr (10, 0, 0)), .inl (v1)] [] (ox_up (ox_up r1.2 10 0 21 ((r1.2 10 0 22 0).toNat) v1) 10 0 22 0 (ox_w ((r1.2 10 0 22 0) + 1)))) rfl ?_
      exact (L_Mod_find_43 v1 (ox_up (ox_up r1.2 10 0 21 ((r1.2 10 0 22 0).toNat) v1) 10 0 22 0 (ox_w ((r1.2 10 0 22 0) + 1))) n tl)
def F_Mod_find  (σ : ox_H) : Option (ox_H) := (J_Mod_find_7 0 (ox_up σ 10 0 22 0 0))
theorem L_Mod_find  (σ : ox_H) (n tl : Nat) : ox_R (fun r => some ((fun r : ox_H => ((.inl none, r) : ox_O)) r)) (F_Mod_find σ) (ox_zz ox_ms (n + 5) 72 tl [.inr (.inr (10, 0, 0))] σ) := by
  unfold F_Mod_find
  refine ox_R_of (Y := ox_ev m_Mod_find (ox_zz ox_ms (n + 4)) 0 0 tl [.inr (.inr (10, 0, 0)), ox_d] [] σ) rfl ?_
  refine ox_R_to 5 (Y := ox_ev m_Mod_find (ox_zz ox_ms (n + 4)) 7 0 tl [.inr (.inr (10, 0, 0)), .inl (0)] [] (ox_up σ 10 0 22 0 0)) rfl ?_
  exact (L_Mod_find_7 0 (ox_up σ 10 0 22 0 0) n tl)
def F_Mod_isEntry  (a1 : Int) (σ : ox_H) : Option (Int × ox_H) := (F_Mod_find σ).bind fun r1 => ((F_Mod_in a1 0 (ox_w ((r1 10 0 22 0) - 1)) r1).bind fun r2 => (some (r2 % 2, r1)))
theorem L_Mod_isEntry  (a1 : Int) (σ : ox_H) (n tl : Nat) : ox_R (fun r => some ((fun r : Int × ox_H => ((.inl (some (.inl r.1)), r.2) : ox_O)) r)) (F_Mod_isEntry a1 σ) (ox_zz ox_ms (n + 6) 73 tl [.inr (.inr (10, 0, 0)), .inl (a1)] σ) := by
  unfold F_Mod_isEntry
  refine ox_R_of (Y := ox_ev m_Mod_isEntry (ox_zz ox_ms (n + 5)) 0 0 tl [.inr (.inr (10, 0, 0)), .inl (a1)] [] σ) rfl ?_
  refine ox_R_to 2 (Y := ox_back m_Mod_isEntry 1 0 [] ((ox_zz ox_ms (n + 5)) 72 tl [.inr (.inr (10, 0, 0))] σ) (fun pc9 x9 st9 σ9 => ox_ev m_Mod_isEntry (ox_zz ox_ms (n + 5)) pc9 0 tl (ox_kl (m_Mod_isEntry.2.2.1 pc9) (ox_xl x9 [.inr (.inr (10, 0, 0)), .inl (a1)])) st9 σ9)) rfl ?_
  refine ox_R_call (fc := (fun r : ox_H => ((.inl none, r) : ox_O))) (L_Mod_find σ (n + 0) tl) (fun r1 => ?_)
  refine ox_R_of (Y := ox_ev m_Mod_isEntry (ox_zz ox_ms (n + 5)) 4 0 tl [.inr (.inr (10, 0, 0)), .inl (a1)] [] r1) rfl ?_
  refine ox_R_to 8 (Y := ox_back m_Mod_isEntry 13 1 [] ((ox_zz ox_ms (n + 5)) 44 tl [.inr (.inr (10, 0, 0)), .inl (a1), .inl (0), .inl (ox_w ((r1 10 0 22 0) - 1))] r1) (fun pc9 x9 st9 σ9 => ox_ev m_Mod_isEntry (ox_zz ox_ms (n + 5)) pc9 0 tl (ox_kl (m_Mod_isEntry.2.2.1 pc9) (ox_xl x9 [.inr (.inr (10, 0, 0)), .inl (a1)])) st9 σ9)) rfl ?_
  refine ox_R_call (fc := (fun r : Int => ((.inl (some (.inl r)), r1) : ox_O))) (L_Mod_in a1 0 (ox_w ((r1 10 0 22 0) - 1)) r1 (n + 4) tl) (fun r2 => ?_)
  refine ox_R_of (Y := ox_ev m_Mod_isEntry (ox_zz ox_ms (n + 5)) 16 0 tl [.inr (.inr (10, 0, 0)), .inl (a1)] [.inl (r2)] r1) rfl ?_
  refine ox_R_to 1 (Y := some (.inl (some (.inl (r2 % 2))), r1)) rfl ?_
  exact ox_R_ret rfl
def F_Mod_level  (a1 : Int) (σ : ox_H) : Option (Int × ox_H) := if 0 ≤ a1 ∧ a1.toNat < 61 then ((F_Mod_heading (σ 10 0 21 a1.toNat) σ).bind fun r1 => (some (r1.2 10 0 12 0, r1.2))) else none
theorem L_Mod_level  (a1 : Int) (σ : ox_H) (n tl : Nat) : ox_R (fun r => some ((fun r : Int × ox_H => ((.inl (some (.inl r.1)), r.2) : ox_O)) r)) (F_Mod_level a1 σ) (ox_zz ox_ms (n + 5) 74 tl [.inr (.inr (10, 0, 0)), .inl (a1)] σ) := by
  unfold F_Mod_level
  refine ox_R_of (Y := ox_ev m_Mod_level (ox_zz ox_ms (n + 4)) 0 0 tl [.inr (.inr (10, 0, 0)), .inl (a1)] [] σ) rfl ?_
  refine ox_R_to 5 (Y := if 0 ≤ a1 ∧ a1.toNat < 61 then ox_ev m_Mod_level (ox_zz ox_ms (n + 4)) 7 0 tl [.inr (.inr (10, 0, 0)), .inl (a1)] [.inl (σ 10 0 21 a1.toNat), .inr (.inr (10, 0, 0))] σ else none) rfl ?_
  refine ox_R_if (fun _ => ?_) (fun _ => ox_R_none)
  refine ox_R_to 1 (Y := ox_back m_Mod_level 7 1 [] ((ox_zz ox_ms (n + 4)) 55 tl [.inr (.inr (10, 0, 0)), .inl (σ 10 0 21 a1.toNat)] σ) (fun pc9 x9 st9 σ9 => ox_ev m_Mod_level (ox_zz ox_ms (n + 4)) pc9 0 tl (ox_kl (m_Mod_level.2.2.1 pc9) (ox_xl x9 [.inr (.inr (10, 0, 0)), .inl (a1)])) st9 σ9)) rfl ?_
  refine ox_R_call (fc := (fun r : Int × ox_H => ((.inl (some (.inl r.1)), r.2) : ox_O))) (L_Mod_heading (σ 10 0 21 a1.toNat) σ (n + 0) tl) (fun r1 => ?_)
  refine ox_R_of (Y := ox_ev m_Mod_level (ox_zz ox_ms (n + 4)) 10 0 tl [.inr (.inr (10, 0, 0)), .inl (a1)] [.inl (r1.1)] r1.2) rfl ?_
  refine ox_R_to 4 (Y := some (.inl (some (.inl (r1.2 10 0 12 0))), r1.2)) rfl ?_
  exact ox_R_ret rfl
def F_Mod_stateOf  (a1 : Int) (σ : ox_H) : Option (Int × ox_H) := if 0 ≤ a1 ∧ a1.toNat < 61 then ((F_Mod_heading (σ 10 0 21 a1.toNat) σ).bind fun r1 => (some (r1.2 10 0 13 0, r1.2))) else none
theorem L_Mod_stateOf  (a1 : Int) (σ : ox_H) (n tl : Nat) : ox_R (fun r => some ((fun r : Int × ox_H => ((.inl (some (.inl r.1)), r.2) : ox_O)) r)) (F_Mod_stateOf a1 σ) (ox_zz ox_ms (n + 5) 75 tl [.inr (.inr (10, 0, 0)), .inl (a1)] σ) := by
  unfold F_Mod_stateOf
  refine ox_R_of (Y := ox_ev m_Mod_stateOf (ox_zz ox_ms (n + 4)) 0 0 tl [.inr (.inr (10, 0, 0)), .inl (a1)] [] σ) rfl ?_
  refine ox_R_to 5 (Y := if 0 ≤ a1 ∧ a1.toNat < 61 then ox_ev m_Mod_stateOf (ox_zz ox_ms (n + 4)) 7 0 tl [.inr (.inr (10, 0, 0)), .inl (a1)] [.inl (σ 10 0 21 a1.toNat), .inr (.inr (10, 0, 0))] σ else none) rfl ?_
  refine ox_R_if (fun _ => ?_) (fun _ => ox_R_none)
  refine ox_R_to 1 (Y := ox_back m_Mod_stateOf 7 1 [] ((ox_zz ox_ms (n + 4)) 55 tl [.inr (.inr (10, 0, 0)), .inl (σ 10 0 21 a1.toNat)] σ) (fun pc9 x9 st9 σ9 => ox_ev m_Mod_stateOf (ox_zz ox_ms (n + 4)) pc9 0 tl (ox_kl (m_Mod_stateOf.2.2.1 pc9) (ox_xl x9 [.inr (.inr (10, 0, 0)), .inl (a1)])) st9 σ9)) rfl ?_
  refine ox_R_call (fc := (fun r : Int × ox_H => ((.inl (some (.inl r.1)), r.2) : ox_O))) (L_Mod_heading (σ 10 0 21 a1.toNat) σ (n + 0) tl) (fun r1 => ?_)
  refine ox_R_of (Y := ox_ev m_Mod_stateOf (ox_zz ox_ms (n + 4)) 10 0 tl [.inr (.inr (10, 0, 0)), .inl (a1)] [.inl (r1.1)] r1.2) rfl ?_
  refine ox_R_to 4 (Y := some (.inl (some (.inl (r1.2 10 0 13 0))), r1.2)) rfl ?_
  exact ox_R_ret rfl
def J_Mod_parent_29  (v3 : Int) (σ : ox_H) : Option (Int × ox_H) := some (v3, σ)
theorem L_Mod_parent_29  (v3 : Int) (σ : ox_H) (n tl : Nat) : ox_R (fun r => some ((fun r : Int × ox_H => ((.inl (some (.inl r.1)), r.2) : ox_O)) r)) (J_Mod_parent_29 v3 σ) (ox_ev m_Mod_parent (ox_zz ox_ms (n + 5)) 29 0 tl [ox_d, ox_d, ox_d, .inl (v3)] [] σ) := by
  unfold J_Mod_parent_29
  refine ox_R_to 2 (Y := some (.inl (some (.inl (v3))), σ)) rfl ?_
  exact ox_R_ret rfl
def B_Mod_parent_10  (v2 : Int) : (Int × ox_H) → Option (((Int × ox_H) ⊕ Int × ox_H)) := fun (v3, σ) => if v3 < 0 then ((J_Mod_parent_29 v3 σ).map .inr) else ((F_Mod_level v3 σ).bind fun r1 => (if r1.1 < v2 then ((J_Mod_parent_29 v3 r1.2).map .inr) else (some (.inl (ox_w (v3 + (-1)), r1.2)))))
def J_Mod_parent_10  (v2 : Int) (v3 : Int) (σ : ox_H) : Option (Int × ox_H) := ox_lp (B_Mod_parent_10 v2) ox_fu (v3, σ)
theorem L_Mod_parent_10  (v2 : Int) (v3 : Int) (σ : ox_H) (n tl : Nat) : ox_R (fun r => some ((fun r : Int × ox_H => ((.inl (some (.inl r.1)), r.2) : ox_O)) r)) (J_Mod_parent_10 v2 v3 σ) (ox_ev m_Mod_parent (ox_zz ox_ms (n + 5)) 10 0 tl [.inr (.inr (10, 0, 0)), ox_d, .inl (v2), .inl (v3)] [] σ) := by
  unfold J_Mod_parent_10
  refine ox_R_lp (ψ := (fun (s : Int × ox_H) => match s with | (v3, σ) => ox_ev m_Mod_parent (ox_zz ox_ms (n + 5)) 10 0 tl [.inr (.inr (10, 0, 0)), ox_d, .inl (v2), .inl (v3)] [] σ)) ?_ ox_fu (v3, σ)
  intro s
  obtain ⟨v3, σ⟩ := s
  unfold B_Mod_parent_10
  refine ox_R_to 2 (Y := if v3 < 0 then ox_ev m_Mod_parent (ox_zz ox_ms (n + 5)) 29 0 tl [ox_d, ox_d, ox_d, .inl (v3)] [] σ else ox_ev m_Mod_parent (ox_zz ox_ms (n + 5)) 14 0 tl [.inr (.inr (10, 0, 0)), ox_d, .inl (v2), .inl (v3)] [] σ) rfl ?_
  refine ox_R_if (fun _ => ?_) (fun _ => ?_)
  · exact ox_R_map ((L_Mod_parent_29 v3 σ n tl))
  · refine ox_R_to 3 (Y := ox_back m_Mod_parent 16 1 [] ((ox_zz ox_ms (n + 5)) 74 tl [.inr (.inr (10, 0, 0)), .inl (v3)] σ) (fun pc9 x9 st9 σ9 => ox_ev m_Mod_parent (ox_zz ox_ms (n + 5)) pc9 0 tl (ox_kl (m_Mod_parent.2.2.1 pc9) (ox_xl x9 [.inr (.inr (10, 0, 0)), ox_d, .inl (v2), .inl (v3)])) st9 σ9)) rfl ?_
    refine ox_R_call (fc := (fun r : Int × ox_H => ((.inl (some (.inl r.1)), r.2) : ox_O))) (L_Mod_level v3 σ (n + 0) tl) (fun r1 => ?_)
    refine ox_R_of (Y := ox_ev m_Mod_parent (ox_zz ox_ms (n + 5)) 19 0 tl [.inr (.inr (10, 0, 0)), ox_d, .inl (v2), .inl (v3)] [.inl (r1.1)] r1.2) rfl ?_
    refine ox_R_to 2 (Y := if r1.1 < v2 then ox_ev m_Mod_parent (ox_zz ox_ms (n + 5)) 29 0 tl [ox_d, ox_d, ox_d, .inl (v3)] [] r1.2 else ox_ev m_Mod_parent (ox_zz ox_ms (n + 5)) 23 0 tl [.inr (.inr (10, 0, 0)), ox_d, .inl (v2), .inl (v3)] [] r1.2) rfl ?_
    refine ox_R_if (fun _ => ?_) (fun _ => ?_)
    · exact ox_R_map ((L_Mod_parent_29 v3 r1.2 n tl))
    · refine ox_R_to 2 (Y := ox_ev m_Mod_parent (ox_zz ox_ms (n + 5)) 10 0 tl [.inr (.inr (10, 0, 0)), ox_d, .inl (v2), .inl (ox_w (v3 + (-1)))] [] r1.2) rfl ?_
      exact ox_R_ret rfl
def F_Mod_parent  (a1 : Int) (σ : ox_H) : Option (Int × ox_H) := (F_Mod_level a1 σ).bind fun r2 => (J_Mod_parent_10 r2.1 (ox_w (a1 - 1)) r2.2)
theorem L_Mod_parent  (a1 : Int) (σ : ox_H) (n tl : Nat) : ox_R (fun r => some ((fun r : Int × ox_H => ((.inl (some (.inl r.1)), r.2) : ox_O)) r)) (F_Mod_parent a1 σ) (ox_zz ox_ms (n + 6) 76 tl [.inr (.inr (10, 0, 0)), .inl (a1)] σ) := by
  unfold F_Mod_parent
  refine ox_R_of (Y := ox_ev m_Mod_parent (ox_zz ox_ms (n + 5)) 0 0 tl [.inr (.inr (10, 0, 0)), .inl (a1), ox_d, ox_d] [] σ) rfl ?_
  refine ox_R_to 3 (Y := ox_back m_Mod_parent 2 1 [] ((ox_zz ox_ms (n + 5)) 74 tl [.inr (.inr (10, 0, 0)), .inl (a1)] σ) (fun pc9 x9 st9 σ9 => ox_ev m_Mod_parent (ox_zz ox_ms (n + 5)) pc9 0 tl (ox_kl (m_Mod_parent.2.2.1 pc9) (ox_xl x9 [.inr (.inr (10, 0, 0)), .inl (a1), ox_d, ox_d])) st9 σ9)) rfl ?_
  refine ox_R_call (fc := (fun r : Int × ox_H => ((.inl (some (.inl r.1)), r.2) : ox_O))) (L_Mod_level a1 σ (n + 0) tl) (fun r2 => ?_)
  refine ox_R_of (Y := ox_ev m_Mod_parent (ox_zz ox_ms (n + 5)) 5 0 tl [.inr (.inr (10, 0, 0)), .inl (a1), ox_d, ox_d] [.inl (r2.1)] r2.2) rfl ?_
  refine ox_R_to 5 (Y := ox_ev m_Mod_parent (ox_zz ox_ms (n + 5)) 10 0 tl [.inr (.inr (10, 0, 0)), ox_d, .inl (r2.1), .inl (ox_w (a1 - 1))] [] r2.2) rfl ?_
  exact (L_Mod_parent_10 r2.1 (ox_w (a1 - 1)) r2.2 n tl)
def J_Mod_last_33  (v3 : Int) (σ : ox_H) : Option (Int × ox_H) := some (v3, σ)
theorem L_Mod_last_33  (v3 : Int) (σ : ox_H) (n tl : Nat) : ox_R (fun r => some ((fun r : Int × ox_H => ((.inl (some (.inl r.1)), r.2) : ox_O)) r)) (J_Mod_last_33 v3 σ) (ox_ev m_Mod_last (ox_zz ox_ms (n + 5)) 33 0 tl [ox_d, ox_d, ox_d, .inl (v3)] [] σ) := by
  unfold J_Mod_last_33
  refine ox_R_to 2 (Y := some (.inl (some (.inl (v3))), σ)) rfl ?_
  exact ox_R_ret rfl
def B_Mod_last_10  (v2 : Int) : (Int × ox_H) → Option (((Int × ox_H) ⊕ Int × ox_H)) := fun (v3, σ) => if (σ 10 0 22 0) ≤ v3 then ((J_Mod_last_33 v3 σ).map .inr) else ((F_Mod_level v3 σ).bind fun r1 => (if r1.1 ≤ v2 then ((J_Mod_last_33 v3 r1.2).map .inr) else (some (.inl (ox_w (v3 + 1), r1.2)))))
def J_Mod_last_10  (v2 : Int) (v3 : Int) (σ : ox_H) : Option (Int × ox_H) := ox_lp (B_Mod_last_10 v2) ox_fu (v3, σ)
theorem L_Mod_last_10  (v2 : Int) (v3 : Int) (σ : ox_H) (n tl : Nat) : ox_R (fun r => some ((fun r : Int × ox_H => ((.inl (some (.inl r.1)), r.2) : ox_O)) r)) (J_Mod_last_10 v2 v3 σ) (ox_ev m_Mod_last (ox_zz ox_ms (n + 5)) 10 0 tl [.inr (.inr (10, 0, 0)), ox_d, .inl (v2), .inl (v3)] [] σ) := by
  unfold J_Mod_last_10
  refine ox_R_lp (ψ := (fun (s : Int × ox_H) => match s with | (v3, σ) => ox_ev m_Mod_last (ox_zz ox_ms (n + 5)) 10 0 tl [.inr (.inr (10, 0, 0)), ox_d, .inl (v2), .inl (v3)] [] σ)) ?_ ox_fu (v3, σ)
  intro s
  obtain ⟨v3, σ⟩ := s
  unfold B_Mod_last_10
  refine ox_R_to 4 (Y := if (σ 10 0 22 0) ≤ v3 then ox_ev m_Mod_last (ox_zz ox_ms (n + 5)) 33 0 tl [ox_d, ox_d, ox_d, .inl (v3)] [] σ else ox_ev m_Mod_last (ox_zz ox_ms (n + 5)) 18 0 tl [.inr (.inr (10, 0, 0)), ox_d, .inl (v2), .inl (v3)] [] σ) rfl ?_
  refine ox_R_if (fun _ => ?_) (fun _ => ?_)
  · exact ox_R_map ((L_Mod_last_33 v3 σ n tl))
  · refine ox_R_to 3 (Y := ox_back m_Mod_last 20 1 [] ((ox_zz ox_ms (n + 5)) 74 tl [.inr (.inr (10, 0, 0)), .inl (v3)] σ) (fun pc9 x9 st9 σ9 => ox_ev m_Mod_last (ox_zz ox_ms (n + 5)) pc9 0 tl (ox_kl (m_Mod_last.2.2.1 pc9) (ox_xl x9 [.inr (.inr (10, 0, 0)), ox_d, .inl (v2), .inl (v3)])) st9 σ9)) rfl ?_
    refine ox_R_call (fc := (fun r : Int × ox_H => ((.inl (some (.inl r.1)), r.2) : ox_O))) (L_Mod_level v3 σ (n + 0) tl) (fun r1 => ?_)
    refine ox_R_of (Y := ox_ev m_Mod_last (ox_zz ox_ms (n + 5)) 23 0 tl [.inr (.inr (10, 0, 0)), ox_d, .inl (v2), .inl (v3)] [.inl (r1.1)] r1.2) rfl ?_
    refine ox_R_to 2 (Y := if r1.1 ≤ v2 then ox_ev m_Mod_last (ox_zz ox_ms (n + 5)) 33 0 tl [ox_d, ox_d, ox_d, .inl (v3)] [] r1.2 else ox_ev m_Mod_last (ox_zz ox_ms (n + 5)) 27 0 tl [.inr (.inr (10, 0, 0)), ox_d, .inl (v2), .inl (v3)] [] r1.2) rfl ?_
    refine ox_R_if (fun _ => ?_) (fun _ => ?_)
    · exact ox_R_map ((L_Mod_last_33 v3 r1.2 n tl))
    · refine ox_R_to 2 (Y := ox_ev m_Mod_last (ox_zz ox_ms (n + 5)) 10 0 tl [.inr (.inr (10, 0, 0)), ox_d, .inl (v2), .inl (ox_w (v3 + 1))] [] r1.2) rfl ?_
      exact ox_R_ret rfl
def F_Mod_last  (a1 : Int) (σ : ox_H) : Option (Int × ox_H) := (F_Mod_level a1 σ).bind fun r2 => (J_Mod_last_10 r2.1 (ox_w (a1 + 1)) r2.2)
theorem L_Mod_last  (a1 : Int) (σ : ox_H) (n tl : Nat) : ox_R (fun r => some ((fun r : Int × ox_H => ((.inl (some (.inl r.1)), r.2) : ox_O)) r)) (F_Mod_last a1 σ) (ox_zz ox_ms (n + 6) 77 tl [.inr (.inr (10, 0, 0)), .inl (a1)] σ) := by
  unfold F_Mod_last
  refine ox_R_of (Y := ox_ev m_Mod_last (ox_zz ox_ms (n + 5)) 0 0 tl [.inr (.inr (10, 0, 0)), .inl (a1), ox_d, ox_d] [] σ) rfl ?_
  refine ox_R_to 3 (Y := ox_back m_Mod_last 2 1 [] ((ox_zz ox_ms (n + 5)) 74 tl [.inr (.inr (10, 0, 0)), .inl (a1)] σ) (fun pc9 x9 st9 σ9 => ox_ev m_Mod_last (ox_zz ox_ms (n + 5)) pc9 0 tl (ox_kl (m_Mod_last.2.2.1 pc9) (ox_xl x9 [.inr (.inr (10, 0, 0)), .inl (a1), ox_d, ox_d])) st9 σ9)) rfl ?_
  refine ox_R_call (fc := (fun r : Int × ox_H => ((.inl (some (.inl r.1)), r.2) : ox_O))) (L_Mod_level a1 σ (n + 0) tl) (fun r2 => ?_)
  refine ox_R_of (Y := ox_ev m_Mod_last (ox_zz ox_ms (n + 5)) 5 0 tl [.inr (.inr (10, 0, 0)), .inl (a1), ox_d, ox_d] [.inl (r2.1)] r2.2) rfl ?_
  refine ox_R_to 5 (Y := ox_ev m_Mod_last (ox_zz ox_ms (n + 5)) 10 0 tl [.inr (.inr (10, 0, 0)), ox_d, .inl (r2.1), .inl (ox_w (a1 + 1))] [] r2.2) rfl ?_
  exact (L_Mod_last_10 r2.1 (ox_w (a1 + 1)) r2.2 n tl)
def F_Mod_end  (a1 : Int) (σ : ox_H) : Option (Int × ox_H) := (F_Mod_last a1 σ).bind fun r1 => (if 0 ≤ r1.1 ∧ r1.1.toNat < 61 then (some (r1.2 10 0 21 r1.1.toNat, r1.2)) else none)
theorem L_Mod_end  (a1 : Int) (σ : ox_H) (n tl : Nat) : ox_R (fun r => some ((fun r : Int × ox_H => ((.inl (some (.inl r.1)), r.2) : ox_O)) r)) (F_Mod_end a1 σ) (ox_zz ox_ms (n + 7) 78 tl [.inr (.inr (10, 0, 0)), .inl (a1)] σ) := by
  unfold F_Mod_end
  refine ox_R_of (Y := ox_ev m_Mod_end (ox_zz ox_ms (n + 6)) 0 0 tl [.inr (.inr (10, 0, 0)), .inl (a1)] [] σ) rfl ?_
  refine ox_R_to 5 (Y := ox_back m_Mod_end 6 1 [.inr (.inr (110, 0, 21))] ((ox_zz ox_ms (n + 6)) 77 tl [.inr (.inr (10, 0, 0)), .inl (a1)] σ) (fun pc9 x9 st9 σ9 => ox_ev m_Mod_end (ox_zz ox_ms (n + 6)) pc9 0 tl (ox_kl (m_Mod_end.2.2.1 pc9) (ox_xl x9 [.inr (.inr (10, 0, 0)), .inl (a1)])) st9 σ9)) rfl ?_
  refine ox_R_call (fc := (fun r : Int × ox_H => ((.inl (some (.inl r.1)), r.2) : ox_O))) (L_Mod_last a1 σ (n + 0) tl) (fun r1 => ?_)
  refine ox_R_of (Y := ox_ev m_Mod_end (ox_zz ox_ms (n + 6)) 9 0 tl [.inr (.inr (10, 0, 0)), .inl (a1)] [.inl (r1.1), .inr (.inr (110, 0, 21))] r1.2) rfl ?_
  refine ox_R_to 1 (Y := if 0 ≤ r1.1 ∧ r1.1.toNat < 61 then ox_ev m_Mod_end (ox_zz ox_ms (n + 6)) 10 0 tl [.inr (.inr (10, 0, 0)), .inl (a1)] [.inl (r1.2 10 0 21 r1.1.toNat)] r1.2 else none) rfl ?_
  refine ox_R_if (fun _ => ?_) (fun _ => ox_R_none)
  refine ox_R_to 1 (Y := some (.inl (some (.inl (r1.2 10 0 21 r1.1.toNat))), r1.2)) rfl ?_
  exact ox_R_ret rfl
def J_Mod_tagsOf_35  (v2 : Int) (σ : ox_H) : Option (Int × ox_H) := some (v2, σ)
theorem L_Mod_tagsOf_35  (v2 : Int) (σ : ox_H) (n tl : Nat) : ox_R (fun r => some ((fun r : Int × ox_H => ((.inl (some (.inl r.1)), r.2) : ox_O)) r)) (J_Mod_tagsOf_35 v2 σ) (ox_ev m_Mod_tagsOf (ox_zz ox_ms (n + 6)) 35 0 tl [ox_d, ox_d, .inl (v2), ox_d] [] σ) := by
  unfold J_Mod_tagsOf_35
  refine ox_R_to 2 (Y := some (.inl (some (.inl (v2))), σ)) rfl ?_
  exact ox_R_ret rfl
def B_Mod_tagsOf_4  : (Int × Int × ox_H) → Option (((Int × Int × ox_H) ⊕ Int × ox_H)) := fun (v2, v3, σ) => if v3 < 0 then ((J_Mod_tagsOf_35 v2 σ).map .inr) else (if 0 ≤ v3 ∧ v3.toNat < 61 then ((F_Mod_heading (σ 10 0 21 v3.toNat) σ).bind fun r1 => ((F_Mod_parent v3 r1.2).bind fun r2 => (some (.inl (ox_or v2 (r1.2 10 0 16 0), r2.1, r2.2))))) else none)
def J_Mod_tagsOf_4  (v2 : Int) (v3 : Int) (σ : ox_H) : Option (Int × ox_H) := ox_lp (B_Mod_tagsOf_4) ox_fu (v2, v3, σ)
theorem L_Mod_tagsOf_4  (v2 : Int) (v3 : Int) (σ : ox_H) (n tl : Nat) : ox_R (fun r => some ((fun r : Int × ox_H => ((.inl (some (.inl r.1)), r.2) : ox_O)) r)) (J_Mod_tagsOf_4 v2 v3 σ) (ox_ev m_Mod_tagsOf (ox_zz ox_ms (n + 6)) 4 0 tl [.inr (.inr (10, 0, 0)), ox_d, .inl (v2), .inl (v3)] [] σ) := by
  unfold J_Mod_tagsOf_4
  refine ox_R_lp (ψ := (fun (s : Int × Int × ox_H) => match s with | (v2, v3, σ) => ox_ev m_Mod_tagsOf (ox_zz ox_ms (n + 6)) 4 0 tl [.inr (.inr (10, 0, 0)), ox_d, .inl (v2), .inl (v3)] [] σ)) ?_ ox_fu (v2, v3, σ)
  intro s
  obtain ⟨v2, v3, σ⟩ := s
  unfold B_Mod_tagsOf_4
  refine ox_R_to 2 (Y := if v3 < 0 then ox_ev m_Mod_tagsOf (ox_zz ox_ms (n + 6)) 35 0 tl [ox_d, ox_d, .inl (v2), ox_d] [] σ else ox_ev m_Mod_tagsOf (ox_zz ox_ms (n + 6)) 8 0 tl [.inr (.inr (10, 0, 0)), ox_d, .inl (v2), .inl (v3)] [] σ) rfl ?_
  refine ox_R_if (fun _ => ?_) (fun _ => ?_)
  · exact ox_R_map ((L_Mod_tagsOf_35 v2 σ n tl))
  · refine ox_R_to 5 (Y := if 0 ≤ v3 ∧ v3.toNat < 61 then ox_ev m_Mod_tagsOf (ox_zz ox_ms (n + 6)) 15 0 tl [.inr (.inr (10, 0, 0)), ox_d, .inl (v2), .inl (v3)] [.inl (σ 10 0 21 v3.toNat), .inr (.inr (10, 0, 0))] σ else none) rfl ?_
    refine ox_R_if (fun _ => ?_) (fun _ => ox_R_none)
    refine ox_R_to 1 (Y := ox_back m_Mod_tagsOf 15 1 [] ((ox_zz ox_ms (n + 6)) 55 tl [.inr (.inr (10, 0, 0)), .inl (σ 10 0 21 v3.toNat)] σ) (fun pc9 x9 st9 σ9 => ox_ev m_Mod_tagsOf (ox_zz ox_ms (n + 6)) pc9 0 tl (ox_kl (m_Mod_tagsOf.2.2.1 pc9) (ox_xl x9 [.inr (.inr (10, 0, 0)), ox_d, .inl (v2), .inl (v3)])) st9 σ9)) rfl ?_
    refine ox_R_call (fc := (fun r : Int × ox_H => ((.inl (some (.inl r.1)), r.2) : ox_O))) (L_Mod_heading (σ 10 0 21 v3.toNat) σ (n + 2) tl) (fun r1 => ?_)
    refine ox_R_of (Y := ox_ev m_Mod_tagsOf (ox_zz ox_ms (n + 6)) 18 0 tl [.inr (.inr (10, 0, 0)), ox_d, .inl (v2), .inl (v3)] [.inl (r1.1)] r1.2) rfl ?_
    refine ox_R_to 9 (Y := ox_back m_Mod_tagsOf 28 1 [] ((ox_zz ox_ms (n + 6)) 76 tl [.inr (.inr (10, 0, 0)), .inl (v3)] r1.2) (fun pc9 x9 st9 σ9 => ox_ev m_Mod_tagsOf (ox_zz ox_ms (n + 6)) pc9 0 tl (ox_kl (m_Mod_tagsOf.2.2.1 pc9) (ox_xl x9 [.inr (.inr (10, 0, 0)), ox_d, .inl (ox_or v2 (r1.2 10 0 16 0)), .inl (v3)])) st9 σ9)) rfl ?_
    refine ox_R_call (fc := (fun r : Int × ox_H => ((.inl (some (.inl r.1)), r.2) : ox_O))) (L_Mod_parent v3 r1.2 (n + 0) tl) (fun r2 => ?_)
    refine ox_R_of (Y := ox_ev m_Mod_tagsOf (ox_zz ox_ms (n + 6)) 31 0 tl [.inr (.inr (10, 0, 0)), ox_d, .inl (ox_or v2 (r1.2 10 0 16 0)), .inl (v3)] [.inl (r2.1)] r2.2) rfl ?_
    refine ox_R_to 2 (Y := ox_ev m_Mod_tagsOf (ox_zz ox_ms (n + 6)) 4 0 tl [.inr (.inr (10, 0, 0)), ox_d, .inl (ox_or v2 (r1.2 10 0 16 0)), .inl (r2.1)] [] r2.2) rfl ?_
    exact ox_R_ret rfl
def F_Mod_tagsOf  (a1 : Int) (σ : ox_H) : Option (Int × ox_H) := (J_Mod_tagsOf_4 0 a1 σ)
theorem L_Mod_tagsOf  (a1 : Int) (σ : ox_H) (n tl : Nat) : ox_R (fun r => some ((fun r : Int × ox_H => ((.inl (some (.inl r.1)), r.2) : ox_O)) r)) (F_Mod_tagsOf a1 σ) (ox_zz ox_ms (n + 7) 79 tl [.inr (.inr (10, 0, 0)), .inl (a1)] σ) := by
  unfold F_Mod_tagsOf
  refine ox_R_of (Y := ox_ev m_Mod_tagsOf (ox_zz ox_ms (n + 6)) 0 0 tl [.inr (.inr (10, 0, 0)), .inl (a1), ox_d, ox_d] [] σ) rfl ?_
  refine ox_R_to 4 (Y := ox_ev m_Mod_tagsOf (ox_zz ox_ms (n + 6)) 4 0 tl [.inr (.inr (10, 0, 0)), ox_d, .inl (0), .inl (a1)] [] σ) rfl ?_
  exact (L_Mod_tagsOf_4 0 a1 σ n tl)
def J_Mod_dateOf_37  (σ : ox_H) : Option (Int × ox_H) := some ((-1), σ)
theorem L_Mod_dateOf_37  (σ : ox_H) (n tl : Nat) : ox_R (fun r => some ((fun r : Int × ox_H => ((.inl (some (.inl r.1)), r.2) : ox_O)) r)) (J_Mod_dateOf_37 σ) (ox_ev m_Mod_dateOf (ox_zz ox_ms (n + 4)) 37 0 tl [ox_d, ox_d, ox_d] [] σ) := by
  unfold J_Mod_dateOf_37
  refine ox_R_to 2 (Y := some (.inl (some (.inl ((-1)))), σ)) rfl ?_
  exact ox_R_ret rfl
def J_Mod_dateOf_29  (v2 : Int) (σ : ox_H) : Option (Int × ox_H) := some (v2, σ)
theorem L_Mod_dateOf_29  (v2 : Int) (σ : ox_H) (n tl : Nat) : ox_R (fun r => some ((fun r : Int × ox_H => ((.inl (some (.inl r.1)), r.2) : ox_O)) r)) (J_Mod_dateOf_29 v2 σ) (ox_ev m_Mod_dateOf (ox_zz ox_ms (n + 4)) 29 0 tl [ox_d, ox_d, .inl (v2)] [] σ) := by
  unfold J_Mod_dateOf_29
  refine ox_R_to 2 (Y := some (.inl (some (.inl (v2))), σ)) rfl ?_
  exact ox_R_ret rfl
def B_Mod_dateOf_9  (v1 : Int) : (Int × ox_H) → Option (((Int × ox_H) ⊕ Int × ox_H)) := fun (v2, σ) => if 0 ≤ (ox_w (v1 + 1)) ∧ (ox_w (v1 + 1)).toNat < 61 then (if (σ 10 0 21 ((ox_w (v1 + 1)).toNat)) ≤ v2 then ((J_Mod_dateOf_37 σ).map .inr) else ((F_Mod_date v2 σ).bind fun r1 => (if r1.1 = 0 then (some (.inl (ox_w (v2 + 1), r1.2))) else ((J_Mod_dateOf_29 v2 r1.2).map .inr)))) else none
def J_Mod_dateOf_9  (v1 : Int) (v2 : Int) (σ : ox_H) : Option (Int × ox_H) := ox_lp (B_Mod_dateOf_9 v1) ox_fu (v2, σ)
theorem L_Mod_dateOf_9  (v1 : Int) (v2 : Int) (σ : ox_H) (n tl : Nat) : ox_R (fun r => some ((fun r : Int × ox_H => ((.inl (some (.inl r.1)), r.2) : ox_O)) r)) (J_Mod_dateOf_9 v1 v2 σ) (ox_ev m_Mod_dateOf (ox_zz ox_ms (n + 4)) 9 0 tl [.inr (.inr (10, 0, 0)), .inl (v1), .inl (v2)] [] σ) := by
  unfold J_Mod_dateOf_9
  refine ox_R_lp (ψ := (fun (s : Int × ox_H) => match s with | (v2, σ) => ox_ev m_Mod_dateOf (ox_zz ox_ms (n + 4)) 9 0 tl [.inr (.inr (10, 0, 0)), .inl (v1), .inl (v2)] [] σ)) ?_ ox_fu (v2, σ)
  intro s
  obtain ⟨v2, σ⟩ := s
  unfold B_Mod_dateOf_9
  refine ox_R_to 7 (Y := if 0 ≤ (ox_w (v1 + 1)) ∧ (ox_w (v1 + 1)).toNat < 61 then ox_ev m_Mod_dateOf (ox_zz ox_ms (n + 4)) 18 0 tl [.inr (.inr (10, 0, 0)), .inl (v1), .inl (v2)] [.inl (σ 10 0 21 ((ox_w (v1 + 1)).toNat)), .inl (v2)] σ else none) rfl ?_
  refine ox_R_if (fun _ => ?_) (fun _ => ox_R_none)
  refine ox_R_to 1 (Y := if (σ 10 0 21 ((ox_w (v1 + 1)).toNat)) ≤ v2 then ox_ev m_Mod_dateOf (ox_zz ox_ms (n + 4)) 37 0 tl [ox_d, ox_d, ox_d] [] σ else ox_ev m_Mod_dateOf (ox_zz ox_ms (n + 4)) 21 0 tl [.inr (.inr (10, 0, 0)), .inl (v1), .inl (v2)] [] σ) rfl ?_
  refine ox_R_if (fun _ => ?_) (fun _ => ?_)
  · exact ox_R_map ((L_Mod_dateOf_37 σ n tl))
  · refine ox_R_to 3 (Y := ox_back m_Mod_dateOf 23 1 [] ((ox_zz ox_ms (n + 4)) 57 tl [.inr (.inr (10, 0, 0)), .inl (v2)] σ) (fun pc9 x9 st9 σ9 => ox_ev m_Mod_dateOf (ox_zz ox_ms (n + 4)) pc9 0 tl (ox_kl (m_Mod_dateOf.2.2.1 pc9) (ox_xl x9 [.inr (.inr (10, 0, 0)), .inl (v1), .inl (v2)])) st9 σ9)) rfl ?_
    refine ox_R_call (fc := (fun r : Int × ox_H => ((.inl (some (.inl r.1)), r.2) : ox_O))) (L_Mod_date v2 σ (n + 0) tl) (fun r1 => ?_)
    refine ox_R_of (Y := ox_ev m_Mod_dateOf (ox_zz ox_ms (n + 4)) 26 0 tl [.inr (.inr (10, 0, 0)), .inl (v1), .inl (v2)] [.inl (r1.1)] r1.2) rfl ?_
    refine ox_R_to 1 (Y := if r1.1 = 0 then ox_ev m_Mod_dateOf (ox_zz ox_ms (n + 4)) 31 0 tl [.inr (.inr (10, 0, 0)), .inl (v1), .inl (v2)] [] r1.2 else ox_ev m_Mod_dateOf (ox_zz ox_ms (n + 4)) 29 0 tl [ox_d, ox_d, .inl (v2)] [] r1.2) rfl ?_
    refine ox_R_if (fun _ => ?_) (fun _ => ?_)
    · refine ox_R_to 2 (Y := ox_ev m_Mod_dateOf (ox_zz ox_ms (n + 4)) 9 0 tl [.inr (.inr (10, 0, 0)), .inl (v1), .inl (ox_w (v2 + 1))] [] r1.2) rfl ?_
      exact ox_R_ret rfl
    · exact ox_R_map ((L_Mod_dateOf_29 v2 r1.2 n tl))
def F_Mod_dateOf  (a1 : Int) (σ : ox_H) : Option (Int × ox_H) := if 0 ≤ a1 ∧ a1.toNat < 61 then (J_Mod_dateOf_9 a1 (ox_w ((σ 10 0 21 a1.toNat) + 1)) σ) else none
theorem L_Mod_dateOf  (a1 : Int) (σ : ox_H) (n tl : Nat) : ox_R (fun r => some ((fun r : Int × ox_H => ((.inl (some (.inl r.1)), r.2) : ox_O)) r)) (F_Mod_dateOf a1 σ) (ox_zz ox_ms (n + 5) 80 tl [.inr (.inr (10, 0, 0)), .inl (a1)] σ) := by
  unfold F_Mod_dateOf
  refine ox_R_of (Y := ox_ev m_Mod_dateOf (ox_zz ox_ms (n + 4)) 0 0 tl [.inr (.inr (10, 0, 0)), .inl (a1), ox_d] [] σ) rfl ?_
  refine ox_R_to 4 (Y := if 0 ≤ a1 ∧ a1.toNat < 61 then ox_ev m_Mod_dateOf (ox_zz ox_ms (n + 4)) 6 0 tl [.inr (.inr (10, 0, 0)), .inl (a1), ox_d] [.inl (σ 10 0 21 a1.toNat)] σ else none) rfl ?_
  refine ox_R_if (fun _ => ?_) (fun _ => ox_R_none)
  refine ox_R_to 3 (Y := ox_ev m_Mod_dateOf (ox_zz ox_ms (n + 4)) 9 0 tl [.inr (.inr (10, 0, 0)), .inl (a1), .inl (ox_w ((σ 10 0 21 a1.toNat) + 1))] [] σ) rfl ?_
  exact (L_Mod_dateOf_9 a1 (ox_w ((σ 10 0 21 a1.toNat) + 1)) σ n tl)
def J_Mod_own_50  (σ : ox_H) : Option (Int × ox_H) := some ((-1), σ)
theorem L_Mod_own_50  (σ : ox_H) (n tl : Nat) : ox_R (fun r => some ((fun r : Int × ox_H => ((.inl (some (.inl r.1)), r.2) : ox_O)) r)) (J_Mod_own_50 σ) (ox_ev m_Mod_own (ox_zz ox_ms (n + 4)) 50 0 tl [ox_d, ox_d, ox_d, ox_d] [] σ) := by
  unfold J_Mod_own_50
  refine ox_R_to 2 (Y := some (.inl (some (.inl ((-1)))), σ)) rfl ?_
  exact ox_R_ret rfl
def J_Mod_own_44  (v1 : Int) (v2 : Int) (v3 : Int) (σ : ox_H) : Option (((Int × ox_H) ⊕ Int × ox_H)) := some (.inl (ox_w (v3 + 1), σ))
theorem L_Mod_own_44  (v1 : Int) (v2 : Int) (v3 : Int) (σ : ox_H) (n tl : Nat) : ox_R (Sum.elim (fun (s : Int × ox_H) => match s with | (v3, σ) => ox_ev m_Mod_own (ox_zz ox_ms (n + 4)) 9 0 tl [.inr (.inr (10, 0, 0)), .inl (v1), .inl (v2), .inl (v3)] [] σ) (fun r => some ((fun r : Int × ox_H => ((.inl (some (.inl r.1)), r.2) : ox_O)) r))) (J_Mod_own_44 v1 v2 v3 σ) (ox_ev m_Mod_own (ox_zz ox_ms (n + 4)) 44 0 tl [.inr (.inr (10, 0, 0)), .inl (v1), .inl (v2), .inl (v3)] [] σ) := by
  unfold J_Mod_own_44
  refine ox_R_to 2 (Y := ox_ev m_Mod_own (ox_zz ox_ms (n + 4)) 9 0 tl [.inr (.inr (10, 0, 0)), .inl (v1), .inl (v2), .inl (ox_w (v3 + 1))] [] σ) rfl ?_
  exact ox_R_ret rfl
def J_Mod_own_39  (σ : ox_H) : Option (Int × ox_H) := some (σ 10 0 17 0, σ)
theorem L_Mod_own_39  (σ : ox_H) (n tl : Nat) : ox_R (fun r => some ((fun r : Int × ox_H => ((.inl (some (.inl r.1)), r.2) : ox_O)) r)) (J_Mod_own_39 σ) (ox_ev m_Mod_own (ox_zz ox_ms (n + 4)) 39 0 tl [.inr (.inr (10, 0, 0)), ox_d, ox_d, ox_d] [] σ) := by
  unfold J_Mod_own_39
  refine ox_R_to 3 (Y := some (.inl (some (.inl (σ 10 0 17 0))), σ)) rfl ?_
  exact ox_R_ret rfl
def B_Mod_own_9  (v1 : Int) (v2 : Int) : (Int × ox_H) → Option (((Int × ox_H) ⊕ Int × ox_H)) := fun (v3, σ) => if 0 ≤ (ox_w (v1 + 1)) ∧ (ox_w (v1 + 1)).toNat < 61 then (if (σ 10 0 21 ((ox_w (v1 + 1)).toNat)) ≤ v3 then ((J_Mod_own_50 σ).map .inr) else ((F_Mod_isProperty v3 σ).bind fun r1 => (if r1.1 = 0 then (J_Mod_own_44 v1 v2 v3 r1.2) else ((F_Mod_look v3 1 r1.2).bind fun r2 => (if r2 = v2 then ((J_Mod_own_39 r1.2).map .inr) else (J_Mod_own_44 v1 v2 v3 r1.2)))))) else none
def J_Mod_own_9  (v1 : Int) (v2 : Int) (v3 : Int) (σ : ox_H) : Option (Int × ox_H) := ox_lp (B_Mod_own_9 v1 v2) ox_fu (v3, σ)
theorem L_Mod_own_9  (v1 : Int) (v2 : Int) (v3 : Int) (σ : ox_H) (n tl : Nat) : ox_R (fun r => some ((fun r : Int × ox_H => ((.inl (some (.inl r.1)), r.2) : ox_O)) r)) (J_Mod_own_9 v1 v2 v3 σ) (ox_ev m_Mod_own (ox_zz ox_ms (n + 4)) 9 0 tl [.inr (.inr (10, 0, 0)), .inl (v1), .inl (v2), .inl (v3)] [] σ) := by
  unfold J_Mod_own_9
  refine ox_R_lp (ψ := (fun (s : Int × ox_H) => match s with | (v3, σ) => ox_ev m_Mod_own (ox_zz ox_ms (n + 4)) 9 0 tl [.inr (.inr (10, 0, 0)), .inl (v1), .inl (v2), .inl (v3)] [] σ)) ?_ ox_fu (v3, σ)
  intro s
  obtain ⟨v3, σ⟩ := s
  unfold B_Mod_own_9
  refine ox_R_to 7 (Y := if 0 ≤ (ox_w (v1 + 1)) ∧ (ox_w (v1 + 1)).toNat < 61 then ox_ev m_Mod_own (ox_zz ox_ms (n + 4)) 18 0 tl [.inr (.inr (10, 0, 0)), .inl (v1), .inl (v2), .inl (v3)] [.inl (σ 10 0 21 ((ox_w (v1 + 1)).toNat)), .inl (v3)] σ else none) rfl ?_
  refine ox_R_if (fun _ => ?_) (fun _ => ox_R_none)
  refine ox_R_to 1 (Y := if (σ 10 0 21 ((ox_w (v1 + 1)).toNat)) ≤ v3 then ox_ev m_Mod_own (ox_zz ox_ms (n + 4)) 50 0 tl [ox_d, ox_d, ox_d, ox_d] [] σ else ox_ev m_Mod_own (ox_zz ox_ms (n + 4)) 21 0 tl [.inr (.inr (10, 0, 0)), .inl (v1), .inl (v2), .inl (v3)] [] σ) rfl ?_
  refine ox_R_if (fun _ => ?_) (fun _ => ?_)
  · exact ox_R_map ((L_Mod_own_50 σ n tl))
  · refine ox_R_to 3 (Y := ox_back m_Mod_own 23 1 [] ((ox_zz ox_ms (n + 4)) 56 tl [.inr (.inr (10, 0, 0)), .inl (v3)] σ) (fun pc9 x9 st9 σ9 => ox_ev m_Mod_own (ox_zz ox_ms (n + 4)) pc9 0 tl (ox_kl (m_Mod_own.2.2.1 pc9) (ox_xl x9 [.inr (.inr (10, 0, 0)), .inl (v1), .inl (v2), .inl (v3)])) st9 σ9)) rfl ?_
    refine ox_R_call (fc := (fun r : Int × ox_H => ((.inl (some (.inl r.1)), r.2) : ox_O))) (L_Mod_isProperty v3 σ (n + 0) tl) (fun r1 => ?_)
    refine ox_R_of (Y := ox_ev m_Mod_own (ox_zz ox_ms (n + 4)) 26 0 tl [.inr (.inr (10, 0, 0)), .inl (v1), .inl (v2), .inl (v3)] [.inl (r1.1)] r1.2) rfl ?_
    refine ox_R_to 1 (Y := if r1.1 = 0 then ox_ev m_Mod_own (ox_zz ox_ms (n + 4)) 44 0 tl [.inr (.inr (10, 0, 0)), .inl (v1), .inl (v2), .inl (v3)] [] r1.2 else ox_ev m_Mod_own (ox_zz ox_ms (n + 4)) 29 0 tl [.inr (.inr (10, 0, 0)), .inl (v1), .inl (v2), .inl (v3)] [] r1.2) rfl ?_
    refine ox_R_if (fun _ => ?_) (fun _ => ?_)
    · exact (L_Mod_own_44 v1 v2 v3 r1.2 n tl)
    · refine ox_R_to 4 (Y := ox_back m_Mod_own 32 1 [] ((ox_zz ox_ms (n + 4)) 46 tl [.inr (.inr (10, 0, 0)), .inl (v3), .inl (1)] r1.2) (fun pc9 x9 st9 σ9 => ox_ev m_Mod_own (ox_zz ox_ms (n + 4)) pc9 0 tl (ox_kl (m_Mod_own.2.2.1 pc9) (ox_xl x9 [.inr (.inr (10, 0, 0)), .inl (v1), .inl (v2), .inl (v3)])) st9 σ9)) rfl ?_
      refine ox_R_call (fc := (fun r : Int => ((.inl (some (.inl r)), r1.2) : ox_O))) (L_Mod_look v3 1 r1.2 (n + 3) tl) (fun r2 => ?_)
      refine ox_R_of (Y := ox_ev m_Mod_own (ox_zz ox_ms (n + 4)) 35 0 tl [.inr (.inr (10, 0, 0)), .inl (v1), .inl (v2), .inl (v3)] [.inl (r2)] r1.2) rfl ?_
      refine ox_R_to 2 (Y := if r2 = v2 then ox_ev m_Mod_own (ox_zz ox_ms (n + 4)) 39 0 tl [.inr (.inr (10, 0, 0)), ox_d, ox_d, ox_d] [] r1.2 else ox_ev m_Mod_own (ox_zz ox_ms (n + 4)) 44 0 tl [.inr (.inr (10, 0, 0)), .inl (v1), .inl (v2), .inl (v3)] [] r1.2) rfl ?_
      refine ox_R_if (fun _ => ?_) (fun _ => ?_)
      · exact ox_R_map ((L_Mod_own_39 r1.2 n tl))
      · exact (L_Mod_own_44 v1 v2 v3 r1.2 n tl)
def F_Mod_own  (a1 : Int) (a2 : Int) (σ : ox_H) : Option (Int × ox_H) := if 0 ≤ a1 ∧ a1.toNat < 61 then (J_Mod_own_9 a1 a2 (ox_w ((σ 10 0 21 a1.toNat) + 1)) σ) else none
theorem L_Mod_own  (a1 : Int) (a2 : Int) (σ : ox_H) (n tl : Nat) : ox_R (fun r => some ((fun r : Int × ox_H => ((.inl (some (.inl r.1)), r.2) : ox_O)) r)) (F_Mod_own a1 a2 σ) (ox_zz ox_ms (n + 5) 81 tl [.inr (.inr (10, 0, 0)), .inl (a1), .inl (a2)] σ) := by
  unfold F_Mod_own
  refine ox_R_of (Y := ox_ev m_Mod_own (ox_zz ox_ms (n + 4)) 0 0 tl [.inr (.inr (10, 0, 0)), .inl (a1), .inl (a2), ox_d] [] σ) rfl ?_
  refine ox_R_to 4 (Y := if 0 ≤ a1 ∧ a1.toNat < 61 then ox_ev m_Mod_own (ox_zz ox_ms (n + 4)) 6 0 tl [.inr (.inr (10, 0, 0)), .inl (a1), .inl (a2), ox_d] [.inl (σ 10 0 21 a1.toNat)] σ else none) rfl ?_
  refine ox_R_if (fun _ => ?_) (fun _ => ox_R_none)
  refine ox_R_to 3 (Y := ox_ev m_Mod_own (ox_zz ox_ms (n + 4)) 9 0 tl [.inr (.inr (10, 0, 0)), .inl (a1), .inl (a2), .inl (ox_w ((σ 10 0 21 a1.toNat) + 1))] [] σ) rfl ?_
  exact (L_Mod_own_9 a1 a2 (ox_w ((σ 10 0 21 a1.toNat) + 1)) σ n tl)
def J_Mod_has_33  (v3 : Int) (σ : ox_H) : Option (Int × ox_H) := some (v3, σ)
theorem L_Mod_has_33  (v3 : Int) (σ : ox_H) (n tl : Nat) : ox_R (fun r => some ((fun r : Int × ox_H => ((.inl (some (.inl r.1)), r.2) : ox_O)) r)) (J_Mod_has_33 v3 σ) (ox_ev m_Mod_has (ox_zz ox_ms (n + 6)) 33 0 tl [ox_d, ox_d, ox_d, .inl (v3), ox_d] [] σ) := by
  unfold J_Mod_has_33
  refine ox_R_to 2 (Y := some (.inl (some (.inl (v3))), σ)) rfl ?_
  exact ox_R_ret rfl
def B_Mod_has_5  (v2 : Int) : (Int × Int × ox_H) → Option (((Int × Int × ox_H) ⊕ Int × ox_H)) := fun (v3, v4, σ) => if v4 < 0 then ((J_Mod_has_33 v3 σ).map .inr) else (if 0 ≤ v3 then ((J_Mod_has_33 v3 σ).map .inr) else ((F_Mod_own v4 v2 σ).bind fun r1 => ((F_Mod_parent v4 r1.2).bind fun r2 => (some (.inl (r1.1, r2.1, r2.2))))))
def J_Mod_has_5  (v2 : Int) (v3 : Int) (v4 : Int) (σ : ox_H) : Option (Int × ox_H) := ox_lp (B_Mod_has_5 v2) ox_fu (v3, v4, σ)
theorem L_Mod_has_5  (v2 : Int) (v3 : Int) (v4 : Int) (σ : ox_H) (n tl : Nat) : ox_R (fun r => some ((fun r : Int × ox_H => ((.inl (some (.inl r.1)), r.2) : ox_O)) r)) (J_Mod_has_5 v2 v3 v4 σ) (ox_ev m_Mod_has (ox_zz ox_ms (n + 6)) 5 0 tl [.inr (.inr (10, 0, 0)), ox_d, .inl (v2), .inl (v3), .inl (v4)] [] σ) := by
  unfold J_Mod_has_5
  refine ox_R_lp (ψ := (fun (s : Int × Int × ox_H) => match s with | (v3, v4, σ) => ox_ev m_Mod_has (ox_zz ox_ms (n + 6)) 5 0 tl [.inr (.inr (10, 0, 0)), ox_d, .inl (v2), .inl (v3), .inl (v4)] [] σ)) ?_ ox_fu (v3, v4, σ)
  intro s
  obtain ⟨v3, v4, σ⟩ := s
  unfold B_Mod_has_5
  refine ox_R_to 2 (Y := if v4 < 0 then ox_ev m_Mod_has (ox_zz ox_ms (n + 6)) 33 0 tl [ox_d, ox_d, ox_d, .inl (v3), ox_d] [] σ else ox_ev m_Mod_has (ox_zz ox_ms (n + 6)) 10 0 tl [.inr (.inr (10, 0, 0)), ox_d, .inl (v2), .inl (v3), .inl (v4)] [] σ) rfl ?_
  refine ox_R_if (fun _ => ?_) (fun _ => ?_)
  · exact ox_R_map ((L_Mod_has_33 v3 σ n tl))
  · refine ox_R_to 2 (Y := if 0 ≤ v3 then ox_ev m_Mod_has (ox_zz ox_ms (n + 6)) 33 0 tl [ox_d, ox_d, ox_d, .inl (v3), ox_d] [] σ else ox_ev m_Mod_has (ox_zz ox_ms (n + 6)) 14 0 tl [.inr (.inr (10, 0, 0)), ox_d, .inl (v2), .inl (v3), .inl (v4)] [] σ) rfl ?_
    refine ox_R_if (fun _ => ?_) (fun _ => ?_)
    · exact ox_R_map ((L_Mod_has_33 v3 σ n tl))
    · refine ox_R_to 4 (Y := ox_back m_Mod_has 18 1 [] ((ox_zz ox_ms (n + 6)) 81 tl [.inr (.inr (10, 0, 0)), .inl (v4), .inl (v2)] σ) (fun pc9 x9 st9 σ9 => ox_ev m_Mod_has (ox_zz ox_ms (n + 6)) pc9 0 tl (ox_kl (m_Mod_has.2.2.1 pc9) (ox_xl x9 [.inr (.inr (10, 0, 0)), ox_d, .inl (v2), .inl (v3), .inl (v4)])) st9 σ9)) rfl ?_
      refine ox_R_call (fc := (fun r : Int × ox_H => ((.inl (some (.inl r.1)), r.2) : ox_O))) (L_Mod_own v4 v2 σ (n + 1) tl) (fun r1 => ?_)
      refine ox_R_of (Y := ox_ev m_Mod_has (ox_zz ox_ms (n + 6)) 21 0 tl [.inr (.inr (10, 0, 0)), ox_d, .inl (v2), .inl (v3), .inl (v4)] [.inl (r1.1)] r1.2) rfl ?_
      refine ox_R_to 4 (Y := ox_back m_Mod_has 25 1 [] ((ox_zz ox_ms (n + 6)) 76 tl [.inr (.inr (10, 0, 0)), .inl (v4)] r1.2) (fun pc9 x9 st9 σ9 => ox_ev m_Mod_has (ox_zz ox_ms (n + 6)) pc9 0 tl (ox_kl (m_Mod_has.2.2.1 pc9) (ox_xl x9 [.inr (.inr (10, 0, 0)), ox_d, .inl (v2), .inl (r1.1), .inl (v4)])) st9 σ9)) rfl ?_
      refine ox_R_call (fc := (fun r : Int × ox_H => ((.inl (some (.inl r.1)), r.2) : ox_O))) (L_Mod_parent v4 r1.2 (n + 0) tl) (fun r2 => ?_)
      refine ox_R_of (Y := ox_ev m_Mod_has (ox_zz ox_ms (n + 6)) 28 0 tl [.inr (.inr (10, 0, 0)), ox_d, .inl (v2), .inl (r1.1), .inl (v4)] [.inl (r2.1)] r2.2) rfl ?_
      refine ox_R_to 2 (Y := ox_ev m_Mod_has (ox_zz ox_ms (n + 6)) 5 0 tl [.inr (.inr (10, 0, 0)), ox_d, .inl (v2), .inl (r1.1), .inl (r2.1)] [] r2.2) rfl ?_
      exact ox_R_ret rfl
def F_Mod_has  (a1 : Int) (a2 : Int) (σ : ox_H) : Option (Int × ox_H) := (J_Mod_has_5 a2 (-1) a1 σ)
theorem L_Mod_has  (a1 : Int) (a2 : Int) (σ : ox_H) (n tl : Nat) : ox_R (fun r => some ((fun r : Int × ox_H => ((.inl (some (.inl r.1)), r.2) : ox_O)) r)) (F_Mod_has a1 a2 σ) (ox_zz ox_ms (n + 7) 82 tl [.inr (.inr (10, 0, 0)), .inl (a1), .inl (a2)] σ) := by
  unfold F_Mod_has
  refine ox_R_of (Y := ox_ev m_Mod_has (ox_zz ox_ms (n + 6)) 0 0 tl [.inr (.inr (10, 0, 0)), .inl (a1), .inl (a2), ox_d, ox_d] [] σ) rfl ?_
  refine ox_R_to 4 (Y := ox_ev m_Mod_has (ox_zz ox_ms (n + 6)) 5 0 tl [.inr (.inr (10, 0, 0)), ox_d, .inl (a2), .inl ((-1)), .inl (a1)] [] σ) rfl ?_
  exact (L_Mod_has_5 a2 (-1) a1 σ n tl)
def J_Mod_initial_40  (s0 : Int) (σ : ox_H) : Option (Int × ox_H) := some (s0, σ)
theorem L_Mod_initial_40  (s0 : Int) (σ : ox_H) (n tl : Nat) : ox_R (fun r => some ((fun r : Int × ox_H => ((.inl (some (.inl r.1)), r.2) : ox_O)) r)) (J_Mod_initial_40 s0 σ) (ox_ev m_Mod_initial (ox_zz ox_ms (n + 4)) 40 0 tl [ox_d, ox_d] [.inl (s0)] σ) := by
  unfold J_Mod_initial_40
  refine ox_R_to 1 (Y := some (.inl (some (.inl (s0))), σ)) rfl ?_
  exact ox_R_ret rfl
def F_Mod_initial  (a1 : Int) (σ : ox_H) : Option (Int × ox_H) := if 0 ≤ a1 ∧ a1.toNat < 61 then ((F_Mod_heading (σ 10 0 21 a1.toNat) σ).bind fun r1 => (if (r1.2 10 0 15 0) ≤ (r1.2 10 0 14 0) then (J_Mod_initial_40 (-1) r1.2) else (if 0 ≤ a1 ∧ a1.toNat < 61 then ((F_Mod_look (r1.2 10 0 21 a1.toNat) (r1.2 10 0 14 0) r1.2).bind fun r2 => (J_Mod_initial_40 r2 r1.2)) else none))) else none
theorem L_Mod_initial  (a1 : Int) (σ : ox_H) (n tl : Nat) : ox_R (fun r => some ((fun r : Int × ox_H => ((.inl (some (.inl r.1)), r.2) : ox_O)) r)) (F_Mod_initial a1 σ) (ox_zz ox_ms (n + 5) 83 tl [.inr (.inr (10, 0, 0)), .inl (a1)] σ) := by
  unfold F_Mod_initial
  refine ox_R_of (Y := ox_ev m_Mod_initial (ox_zz ox_ms (n + 4)) 0 0 tl [.inr (.inr (10, 0, 0)), .inl (a1)] [] σ) rfl ?_
  refine ox_R_to 5 (Y := if 0 ≤ a1 ∧ a1.toNat < 61 then ox_ev m_Mod_initial (ox_zz ox_ms (n + 4)) 7 0 tl [.inr (.inr (10, 0, 0)), .inl (a1)] [.inl (σ 10 0 21 a1.toNat), .inr (.inr (10, 0, 0))] σ else none) rfl ?_
  refine ox_R_if (fun _ => ?_) (fun _ => ox_R_none)
  refine ox_R_to 1 (Y := ox_back m_Mod_initial 7 1 [] ((ox_zz ox_ms (n + 4)) 55 tl [.inr (.inr (10, 0, 0)), .inl (σ 10 0 21 a1.toNat)] σ) (fun pc9 x9 st9 σ9 => ox_ev m_Mod_initial (ox_zz ox_ms (n + 4)) pc9 0 tl (ox_kl (m_Mod_initial.2.2.1 pc9) (ox_xl x9 [.inr (.inr (10, 0, 0)), .inl (a1)])) st9 σ9)) rfl ?_
  refine ox_R_call (fc := (fun r : Int × ox_H => ((.inl (some (.inl r.1)), r.2) : ox_O))) (L_Mod_heading (σ 10 0 21 a1.toNat) σ (n + 0) tl) (fun r1 => ?_)
  refine ox_R_of (Y := ox_ev m_Mod_initial (ox_zz ox_ms (n + 4)) 10 0 tl [.inr (.inr (10, 0, 0)), .inl (a1)] [.inl (r1.1)] r1.2) rfl ?_
  refine ox_R_to 6 (Y := if (r1.2 10 0 15 0) ≤ (r1.2 10 0 14 0) then ox_ev m_Mod_initial (ox_zz ox_ms (n + 4)) 39 0 tl [.inr (.inr (10, 0, 0)), .inl (a1)] [] r1.2 else ox_ev m_Mod_initial (ox_zz ox_ms (n + 4)) 22 0 tl [.inr (.inr (10, 0, 0)), .inl (a1)] [] r1.2) rfl ?_
  refine ox_R_if (fun _ => ?_) (fun _ => ?_)
  · refine ox_R_to 1 (Y := ox_ev m_Mod_initial (ox_zz ox_ms (n + 4)) 40 0 tl [ox_d, ox_d] [.inl ((-1))] r1.2) rfl ?_
    exact (L_Mod_initial_40 (-1) r1.2 n tl)
  · refine ox_R_to 5 (Y := if 0 ≤ a1 ∧ a1.toNat < 61 then ox_ev m_Mod_initial (ox_zz ox_ms (n + 4)) 29 0 tl [.inr (.inr (10, 0, 0)), .inl (a1)] [.inl (r1.2 10 0 21 a1.toNat), .inr (.inr (10, 0, 0))] r1.2 else none) rfl ?_
    refine ox_R_if (fun _ => ?_) (fun _ => ox_R_none)
    refine ox_R_to 3 (Y := ox_back m_Mod_initial 33 1 [] ((ox_zz ox_ms (n + 4)) 46 tl [.inr (.inr (10, 0, 0)), .inl (r1.2 10 0 21 a1.toNat), .inl (r1.2 10 0 14 0)] r1.2) (fun pc9 x9 st9 σ9 => ox_ev m_Mod_initial (ox_zz ox_ms (n + 4)) pc9 0 tl (ox_kl (m_Mod_initial.2.2.1 pc9) (ox_xl x9 [.inr (.inr (10, 0, 0)), .inl (a1)])) st9 σ9)) rfl ?_
    refine ox_R_call (fc := (fun r : Int => ((.inl (some (.inl r)), r1.2) : ox_O))) (L_Mod_look (r1.2 10 0 21 a1.toNat) (r1.2 10 0 14 0) r1.2 (n + 3) tl) (fun r2 => ?_)
    refine ox_R_of (Y := ox_ev m_Mod_initial (ox_zz ox_ms (n + 4)) 36 0 tl [.inr (.inr (10, 0, 0)), .inl (a1)] [.inl (r2)] r1.2) rfl ?_
    refine ox_R_to 1 (Y := ox_ev m_Mod_initial (ox_zz ox_ms (n + 4)) 40 0 tl [ox_d, ox_d] [.inl (r2)] r1.2) rfl ?_
    exact (L_Mod_initial_40 r2 r1.2 n tl)
def J_Mod_titled_38  (s0 : Int) (σ : ox_H) : Option (Int × ox_H) := some (s0, σ)
theorem L_Mod_titled_38  (s0 : Int) (σ : ox_H) (n tl : Nat) : ox_R (fun r => some ((fun r : Int × ox_H => ((.inl (some (.inl r.1)), r.2) : ox_O)) r)) (J_Mod_titled_38 s0 σ) (ox_ev m_Mod_titled (ox_zz ox_ms (n + 5)) 38 0 tl [ox_d, ox_d, ox_d] [.inl (s0)] σ) := by
  unfold J_Mod_titled_38
  refine ox_R_to 1 (Y := some (.inl (some (.inl (s0))), σ)) rfl ?_
  exact ox_R_ret rfl
def J_Mod_titled_25  (v2 : Int) (σ : ox_H) : Option (Int × ox_H) := if (σ 10 0 22 0) ≤ v2 then (J_Mod_titled_38 (-1) σ) else (J_Mod_titled_38 v2 σ)
theorem L_Mod_titled_25  (v2 : Int) (σ : ox_H) (n tl : Nat) : ox_R (fun r => some ((fun r : Int × ox_H => ((.inl (some (.inl r.1)), r.2) : ox_O)) r)) (J_Mod_titled_25 v2 σ) (ox_ev m_Mod_titled (ox_zz ox_ms (n + 5)) 25 0 tl [.inr (.inr (10, 0, 0)), ox_d, .inl (v2)] [] σ) := by
  unfold J_Mod_titled_25
  refine ox_R_to 4 (Y := if (σ 10 0 22 0) ≤ v2 then ox_ev m_Mod_titled (ox_zz ox_ms (n + 5)) 37 0 tl [.inr (.inr (10, 0, 0)), ox_d, .inl (v2)] [] σ else ox_ev m_Mod_titled (ox_zz ox_ms (n + 5)) 33 0 tl [.inr (.inr (10, 0, 0)), ox_d, .inl (v2)] [] σ) rfl ?_
  refine ox_R_if (fun _ => ?_) (fun _ => ?_)
  · refine ox_R_to 1 (Y := ox_ev m_Mod_titled (ox_zz ox_ms (n + 5)) 38 0 tl [ox_d, ox_d, ox_d] [.inl ((-1))] σ) rfl ?_
    exact (L_Mod_titled_38 (-1) σ n tl)
  · refine ox_R_to 2 (Y := ox_ev m_Mod_titled (ox_zz ox_ms (n + 5)) 38 0 tl [ox_d, ox_d, ox_d] [.inl (v2)] σ) rfl ?_
    exact (L_Mod_titled_38 v2 σ n tl)
def B_Mod_titled_2  (v1 : Int) : (Int × ox_H) → Option (((Int × ox_H) ⊕ Int × ox_H)) := fun (v2, σ) => if (σ 10 0 22 0) ≤ v2 then ((J_Mod_titled_25 v2 σ).map .inr) else ((F_Mod_initial v2 σ).bind fun r1 => (if r1.1 = v1 then ((J_Mod_titled_25 v2 r1.2).map .inr) else (some (.inl (ox_w (v2 + 1), r1.2)))))
def J_Mod_titled_2  (v1 : Int) (v2 : Int) (σ : ox_H) : Option (Int × ox_H) := ox_lp (B_Mod_titled_2 v1) ox_fu (v2, σ)
theorem L_Mod_titled_2  (v1 : Int) (v2 : Int) (σ : ox_H) (n tl : Nat) : ox_R (fun r => some ((fun r : Int × ox_H => ((.inl (some (.inl r.1)), r.2) : ox_O)) r)) (J_Mod_titled_2 v1 v2 σ) (ox_ev m_Mod_titled (ox_zz ox_ms (n + 5)) 2 0 tl [.inr (.inr (10, 0, 0)), .inl (v1), .inl (v2)] [] σ) := by
  unfold J_Mod_titled_2
  refine ox_R_lp (ψ := (fun (s : Int × ox_H) => match s with | (v2, σ) => ox_ev m_Mod_titled (ox_zz ox_ms (n + 5)) 2 0 tl [.inr (.inr (10, 0, 0)), .inl (v1), .inl (v2)] [] σ)) ?_ ox_fu (v2, σ)
  intro s
  obtain ⟨v2, σ⟩ := s
  unfold B_Mod_titled_2
  refine ox_R_to 4 (Y := if (σ 10 0 22 0) ≤ v2 then ox_ev m_Mod_titled (ox_zz ox_ms (n + 5)) 25 0 tl [.inr (.inr (10, 0, 0)), ox_d, .inl (v2)] [] σ else ox_ev m_Mod_titled (ox_zz ox_ms (n + 5)) 10 0 tl [.inr (.inr (10, 0, 0)), .inl (v1), .inl (v2)] [] σ) rfl ?_
  refine ox_R_if (fun _ => ?_) (fun _ => ?_)
  · exact ox_R_map ((L_Mod_titled_25 v2 σ n tl))
  · refine ox_R_to 3 (Y := ox_back m_Mod_titled 12 1 [] ((ox_zz ox_ms (n + 5)) 83 tl [.inr (.inr (10, 0, 0)), .inl (v2)] σ) (fun pc9 x9 st9 σ9 => ox_ev m_Mod_titled (ox_zz ox_ms (n + 5)) pc9 0 tl (ox_kl (m_Mod_titled.2.2.1 pc9) (ox_xl x9 [.inr (.inr (10, 0, 0)), .inl (v1), .inl (v2)])) st9 σ9)) rfl ?_
    refine ox_R_call (fc := (fun r : Int × ox_H => ((.inl (some (.inl r.1)), r.2) : ox_O))) (L_Mod_initial v2 σ (n + 0) tl) (fun r1 => ?_)
    refine ox_R_of (Y := ox_ev m_Mod_titled (ox_zz ox_ms (n + 5)) 15 0 tl [.inr (.inr (10, 0, 0)), .inl (v1), .inl (v2)] [.inl (r1.1)] r1.2) rfl ?_
    refine ox_R_to 2 (Y := if r1.1 = v1 then ox_ev m_Mod_titled (ox_zz ox_ms (n + 5)) 25 0 tl [.inr (.inr (10, 0, 0)), ox_d, .inl (v2)] [] r1.2 else ox_ev m_Mod_titled (ox_zz ox_ms (n + 5)) 19 0 tl [.inr (.inr (10, 0, 0)), .inl (v1), .inl (v2)] [] r1.2) rfl ?_
    refine ox_R_if (fun _ => ?_) (fun _ => ?_)
    · exact ox_R_map ((L_Mod_titled_25 v2 r1.2 n tl))
    · refine ox_R_to 2 (Y := ox_ev m_Mod_titled (ox_zz ox_ms (n + 5)) 2 0 tl [.inr (.inr (10, 0, 0)), .inl (v1), .inl (ox_w (v2 + 1))] [] r1.2) rfl ?_
      exact ox_R_ret rfl
def F_Mod_titled  (a1 : Int) (σ : ox_H) : Option (Int × ox_H) := (J_Mod_titled_2 a1 0 σ)
theorem L_Mod_titled  (a1 : Int) (σ : ox_H) (n tl : Nat) : ox_R (fun r => some ((fun r : Int × ox_H => ((.inl (some (.inl r.1)), r.2) : ox_O)) r)) (F_Mod_titled a1 σ) (ox_zz ox_ms (n + 6) 84 tl [.inr (.inr (10, 0, 0)), .inl (a1)] σ) := by
  unfold F_Mod_titled
  refine ox_R_of (Y := ox_ev m_Mod_titled (ox_zz ox_ms (n + 5)) 0 0 tl [.inr (.inr (10, 0, 0)), .inl (a1), ox_d] [] σ) rfl ?_
  refine ox_R_to 2 (Y := ox_ev m_Mod_titled (ox_zz ox_ms (n + 5)) 2 0 tl [.inr (.inr (10, 0, 0)), .inl (a1), .inl (0)] [] σ) rfl ?_
  exact (L_Mod_titled_2 a1 0 σ n tl)
def F_Mod_entries  (σ : ox_H) : Option (Int × ox_H) := (F_Mod_holds 0 σ).bind fun r1 => ((F_Mod_find r1.2).bind fun r2 => (some (r2 10 0 22 0, r2)))
theorem L_Mod_entries  (σ : ox_H) (n tl : Nat) : ox_R (fun r => some ((fun r : Int × ox_H => ((.inl (some (.inl r.1)), r.2) : ox_O)) r)) (F_Mod_entries σ) (ox_zz ox_ms (n + 6) 85 tl [.inr (.inr (10, 0, 0))] σ) := by
  unfold F_Mod_entries
  refine ox_R_of (Y := ox_ev m_Mod_entries (ox_zz ox_ms (n + 5)) 0 0 tl [.inr (.inr (10, 0, 0))] [] σ) rfl ?_
  refine ox_R_to 3 (Y := ox_back m_Mod_entries 2 1 [] ((ox_zz ox_ms (n + 5)) 43 tl [.inr (.inr (10, 0, 0)), .inl (0)] σ) (fun pc9 x9 st9 σ9 => ox_ev m_Mod_entries (ox_zz ox_ms (n + 5)) pc9 0 tl (ox_kl (m_Mod_entries.2.2.1 pc9) (ox_xl x9 [.inr (.inr (10, 0, 0))])) st9 σ9)) rfl ?_
  refine ox_R_call (fc := (fun r : Int × ox_H => ((.inl (some (.inl r.1)), r.2) : ox_O))) (L_Mod_holds 0 σ (n + 4) tl) (fun r1 => ?_)
  refine ox_R_of (Y := ox_ev m_Mod_entries (ox_zz ox_ms (n + 5)) 5 0 tl [.inr (.inr (10, 0, 0))] [.inl (r1.1)] r1.2) rfl ?_
  refine ox_R_to 3 (Y := ox_back m_Mod_entries 7 0 [] ((ox_zz ox_ms (n + 5)) 72 tl [.inr (.inr (10, 0, 0))] r1.2) (fun pc9 x9 st9 σ9 => ox_ev m_Mod_entries (ox_zz ox_ms (n + 5)) pc9 0 tl (ox_kl (m_Mod_entries.2.2.1 pc9) (ox_xl x9 [.inr (.inr (10, 0, 0))])) st9 σ9)) rfl ?_
  refine ox_R_call (fc := (fun r : ox_H => ((.inl none, r) : ox_O))) (L_Mod_find r1.2 (n + 0) tl) (fun r2 => ?_)
  refine ox_R_of (Y := ox_ev m_Mod_entries (ox_zz ox_ms (n + 5)) 10 0 tl [.inr (.inr (10, 0, 0))] [] r2) rfl ?_
  refine ox_R_to 3 (Y := some (.inl (some (.inl (r2 10 0 22 0))), r2)) rfl ?_
  exact ox_R_ret rfl
def J_Mod_entry_154  (s0 : Int) (σ : ox_H) : Option (Int × ox_H) := some (s0, σ)
theorem L_Mod_entry_154  (s0 : Int) (σ : ox_H) (n tl : Nat) : ox_R (fun r => some ((fun r : Int × ox_H => ((.inl (some (.inl r.1)), r.2) : ox_O)) r)) (J_Mod_entry_154 s0 σ) (ox_ev m_Mod_entry (ox_zz ox_ms (n + 7)) 154 0 tl [ox_d, ox_d, ox_d, ox_d, ox_d, ox_d] [.inl (s0)] σ) := by
  unfold J_Mod_entry_154
  refine ox_R_to 1 (Y := some (.inl (some (.inl (s0))), σ)) rfl ?_
  exact ox_R_ret rfl
def J_Mod_entry_201  (v3 : Int) (σ : ox_H) : Option (Int × ox_H) := some (v3, σ)
theorem L_Mod_entry_201  (v3 : Int) (σ : ox_H) (n tl : Nat) : ox_R (fun r => some ((fun r : Int × ox_H => ((.inl (some (.inl r.1)), r.2) : ox_O)) r)) (J_Mod_entry_201 v3 σ) (ox_ev m_Mod_entry (ox_zz ox_ms (n + 7)) 201 0 tl [ox_d, ox_d, ox_d, .inl (v3), ox_d, ox_d] [] σ) := by
  unfold J_Mod_entry_201
  refine ox_R_to 2 (Y := some (.inl (some (.inl (v3))), σ)) rfl ?_
  exact ox_R_ret rfl
def J_Mod_entry_193  (v1 : Int) (v4 : Int) (v5 : Int) (s0 : Int) (s1 : Int) (σ : ox_H) : Option (((Int × Int × ox_H) ⊕ Int × ox_H)) := some (.inl (ox_w (s1 + s0), ox_w (v5 + 1), σ))
theorem L_Mod_entry_193  (v1 : Int) (v4 : Int) (v5 : Int) (s0 : Int) (s1 : Int) (σ : ox_H) (n tl : Nat) : ox_R (Sum.elim (fun (s : Int × Int × ox_H) => match s with | (v3, v5, σ) => ox_ev m_Mod_entry (ox_zz ox_ms (n + 7)) 170 0 tl [.inr (.inr (10, 0, 0)), .inl (v1), ox_d, .inl (v3), .inl (v4), .inl (v5)] [] σ) (fun r => some ((fun r : Int × ox_H => ((.inl (some (.inl r.1)), r.2) : ox_O)) r))) (J_Mod_entry_193 v1 v4 v5 s0 s1 σ) (ox_ev m_Mod_entry (ox_zz ox_ms (n + 7)) 193 0 tl [.inr (.inr (10, 0, 0)), .inl (v1), ox_d, ox_d, .inl (v4), .inl (v5)] [.inl (s0), .inl (s1)] σ) := by
  unfold J_Mod_entry_193
  refine ox_R_to 4 (Y := ox_ev m_Mod_entry (ox_zz ox_ms (n + 7)) 170 0 tl [.inr (.inr (10, 0, 0)), .inl (v1), ox_d, .inl (ox_w (s1 + s0)), .inl (v4), .inl (ox_w (v5 + 1))] [] σ) rfl ?_
  exact ox_R_ret rfl
def B_Mod_entry_170  (v1 : Int) (v4 : Int) : (Int × Int × ox_H) → Option (((Int × Int × ox_H) ⊕ Int × ox_H)) := fun (v3, v5, σ) => if v1 ≤ v5 then ((J_Mod_entry_201 v3 σ).map .inr) else ((F_Mod_parent v5 σ).bind fun r1 => (if r1.1 = v4 then (J_Mod_entry_193 v1 v4 v5 1 v3 r1.2) else (J_Mod_entry_193 v1 v4 v5 0 v3 r1.2)))
def J_Mod_entry_170  (v1 : Int) (v3 : Int) (v4 : Int) (v5 : Int) (σ : ox_H) : Option (Int × ox_H) := ox_lp (B_Mod_entry_170 v1 v4) ox_fu (v3, v5, σ)
theorem L_Mod_entry_170  (v1 : Int) (v3 : Int) (v4 : Int) (v5 : Int) (σ : ox_H) (n tl : Nat) : ox_R (fun r => some ((fun r : Int × ox_H => ((.inl (some (.inl r.1)), r.2) : ox_O)) r)) (J_Mod_entry_170 v1 v3 v4 v5 σ) (ox_ev m_Mod_entry (ox_zz ox_ms (n + 7)) 170 0 tl [.inr (.inr (10, 0, 0)), .inl (v1), ox_d, .inl (v3), .inl (v4), .inl (v5)] [] σ) := by
  unfold J_Mod_entry_170
  refine ox_R_lp (ψ := (fun (s : Int × Int × ox_H) => match s with | (v3, v5, σ) => ox_ev m_Mod_entry (ox_zz ox_ms (n + 7)) 170 0 tl [.inr (.inr (10, 0, 0)), .inl (v1), ox_d, .inl (v3), .inl (v4), .inl (v5)] [] σ)) ?_ ox_fu (v3, v5, σ)
  intro s
  obtain ⟨v3, v5, σ⟩ := s
  unfold B_Mod_entry_170
  refine ox_R_to 3 (Y := if v1 ≤ v5 then ox_ev m_Mod_entry (ox_zz ox_ms (n + 7)) 201 0 tl [ox_d, ox_d, ox_d, .inl (v3), ox_d, ox_d] [] σ else ox_ev m_Mod_entry (ox_zz ox_ms (n + 7)) 176 0 tl [.inr (.inr (10, 0, 0)), .inl (v1), ox_d, .inl (v3), .inl (v4), .inl (v5)] [] σ) rfl ?_
  refine ox_R_if (fun _ => ?_) (fun _ => ?_)
  · exact ox_R_map ((L_Mod_entry_201 v3 σ n tl))
  · refine ox_R_to 4 (Y := ox_back m_Mod_entry 180 1 [.inl (v3)] ((ox_zz ox_ms (n + 7)) 76 tl [.inr (.inr (10, 0, 0)), .inl (v5)] σ) (fun pc9 x9 st9 σ9 => ox_ev m_Mod_entry (ox_zz ox_ms (n + 7)) pc9 0 tl (ox_kl (m_Mod_entry.2.2.1 pc9) (ox_xl x9 [.inr (.inr (10, 0, 0)), .inl (v1), ox_d, .inl (v3), .inl (v4), .inl (v5)])) st9 σ9)) rfl ?_
    refine ox_R_call (fc := (fun r : Int × ox_H => ((.inl (some (.inl r.1)), r.2) : ox_O))) (L_Mod_parent v5 σ (n + 1) tl) (fun r1 => ?_)
    refine ox_R_of (Y := ox_ev m_Mod_entry (ox_zz ox_ms (n + 7)) 183 0 tl [.inr (.inr (10, 0, 0)), .inl (v1), ox_d, .inl (v3), .inl (v4), .inl (v5)] [.inl (r1.1), .inl (v3)] r1.2) rfl ?_
    refine ox_R_to 2 (Y := if r1.1 = v4 then ox_ev m_Mod_entry (ox_zz ox_ms (n + 7)) 188 0 tl [.inr (.inr (10, 0, 0)), .inl (v1), ox_d, .inl (v3), .inl (v4), .inl (v5)] [.inl (v3)] r1.2 else ox_ev m_Mod_entry (ox_zz ox_ms (n + 7)) 192 0 tl [.inr (.inr (10, 0, 0)), .inl (v1), ox_d, .inl (v3), .inl (v4), .inl (v5)] [.inl (v3)] r1.2) rfl ?_
    refine ox_R_if (fun _ => ?_) (fun _ => ?_)
    · refine ox_R_to 2 (Y := ox_ev m_Mod_entry (ox_zz ox_ms (n + 7)) 193 0 tl [.inr (.inr (10, 0, 0)), .inl (v1), ox_d, ox_d, .inl (v4), .inl (v5)] [.inl (1), .inl (v3)] r1.2) rfl ?_
      exact (L_Mod_entry_193 v1 v4 v5 1 v3 r1.2 n tl)
    · refine ox_R_to 1 (Y := ox_ev m_Mod_entry (ox_zz ox_ms (n + 7)) 193 0 tl [.inr (.inr (10, 0, 0)), .inl (v1), ox_d, ox_d, .inl (v4), .inl (v5)] [.inl (0), .inl (v3)] r1.2) rfl ?_
      exact (L_Mod_entry_193 v1 v4 v5 0 v3 r1.2 n tl)
def J_Mod_entry_29  (v1 : Int) (v2 : Int) (s0 : Int) (σ : ox_H) : Option (Int × ox_H) := (F_Mod_holds s0 σ).bind fun r2 => (if r2.1 = 0 then (if v2 = ((0 : Nat) : Int) then (if 0 ≤ v1 ∧ v1.toNat < 61 then (some (r2.2 10 0 21 v1.toNat, r2.2)) else none) else if v2 = ((1 : Nat) : Int) then ((F_Mod_level v1 r2.2).bind fun r3 => (some (r3.1, r3.2))) else if v2 = ((2 : Nat) : Int) then ((F_Mod_parent v1 r2.2).bind fun r4 => (some (r4.1, r4.2))) else if v2 = ((3 : Nat) : Int) then ((F_Mod_stateOf v1 r2.2).bind fun r5 => (some (r5.1, r5.2))) else if v2 = ((4 : Nat) : Int) then ((F_Mod_last v1 r2.2).bind fun r6 => (some (ox_w ((ox_w (r6.1 - v1)) - 1), r6.2))) else if v2 = ((5 : Nat) : Int) then ((F_Mod_end v1 r2.2).bind fun r7 => (if 0 ≤ v1 ∧ v1.toNat < 61 then (some (ox_w (r7.1 - (r7.2 10 0 21 v1.toNat)), r7.2)) else none)) else if v2 = ((6 : Nat) : Int) then ((F_Mod_tagsOf v1 r2.2).bind fun r8 => (some (r8.1, r8.2))) else if v2 = ((7 : Nat) : Int) then ((F_Mod_dateOf v1 r2.2).bind fun r9 => (if 0 ≤ r9.1 then (J_Mod_entry_154 (r9.2 10 0 17 0) r9.2) else (J_Mod_entry_154 (-1) r9.2))) else ((F_Mod_parent v1 r2.2).bind fun r10 => (J_Mod_entry_170 v1 1 r10.1 (ox_w (r10.1 + 1)) r10.2))) else (some ((-1), r2.2)))
theorem L_Mod_entry_29  (v1 : Int) (v2 : Int) (s0 : Int) (σ : ox_H) (n tl : Nat) : ox_R (fun r => some ((fun r : Int × ox_H => ((.inl (some (.inl r.1)), r.2) : ox_O)) r)) (J_Mod_entry_29 v1 v2 s0 σ) (ox_ev m_Mod_entry (ox_zz ox_ms (n + 7)) 29 0 tl [.inr (.inr (10, 0, 0)), .inl (v1), .inl (v2), ox_d, ox_d, ox_d] [.inl (s0), .inr (.inr (10, 0, 0))] σ) := by
  unfold J_Mod_entry_29
  refine ox_R_to 1 (Y := ox_back m_Mod_entry 29 1 [] ((ox_zz ox_ms (n + 7)) 43 tl [.inr (.inr (10, 0, 0)), .inl (s0)] σ) (fun pc9 x9 st9 σ9 => ox_ev m_Mod_entry (ox_zz ox_ms (n + 7)) pc9 0 tl (ox_kl (m_Mod_entry.2.2.1 pc9) (ox_xl x9 [.inr (.inr (10, 0, 0)), .inl (v1), .inl (v2), ox_d, ox_d, ox_d])) st9 σ9)) rfl ?_
  refine ox_R_call (fc := (fun r : Int × ox_H => ((.inl (some (.inl r.1)), r.2) : ox_O))) (L_Mod_holds s0 σ (n + 6) tl) (fun r2 => ?_)
  refine ox_R_of (Y := ox_ev m_Mod_entry (ox_zz ox_ms (n + 7)) 32 0 tl [.inr (.inr (10, 0, 0)), .inl (v1), .inl (v2), ox_d, ox_d, ox_d] [.inl (r2.1)] r2.2) rfl ?_
  refine ox_R_to 1 (Y := if r2.1 = 0 then ox_ev m_Mod_entry (ox_zz ox_ms (n + 7)) 37 0 tl [.inr (.inr (10, 0, 0)), .inl (v1), .inl (v2), ox_d, ox_d, ox_d] [] r2.2 else ox_ev m_Mod_entry (ox_zz ox_ms (n + 7)) 35 0 tl [.inr (.inr (10, 0, 0)), .inl (v1), .inl (v2), ox_d, ox_d, ox_d] [] r2.2) rfl ?_
  refine ox_R_if (fun _ => ?_) (fun _ => ?_)
  · refine ox_R_to 2 (Y := if v2 = ((0 : Nat) : Int) then ox_ev m_Mod_entry (ox_zz ox_ms (n + 7)) 84 0 tl [.inr (.inr (10, 0, 0)), .inl (v1), .inl (v2), ox_d, ox_d, ox_d] [] r2.2 else if v2 = ((1 : Nat) : Int) then ox_ev m_Mod_entry (ox_zz ox_ms (n + 7)) 91 0 tl [.inr (.inr (10, 0, 0)), .inl (v1), .inl (v2), ox_d, ox_d, ox_d] [] r2.2 else if v2 = ((2 : Nat) : Int) then ox_ev m_Mod_entry (ox_zz ox_ms (n + 7)) 97 0 tl [.inr (.inr (10, 0, 0)), .inl (v1), .inl (v2), ox_d, ox_d, ox_d] [] r2.2 else if v2 = ((3 : Nat) : Int) then ox_ev m_Mod_entry (ox_zz ox_ms (n + 7)) 103 0 tl [.inr (.inr (10, 0, 0)), .inl (v1), .inl (v2), ox_d, ox_d, ox_d] [] r2.2 else if v2 = ((4 : Nat) : Int) then ox_ev m_Mod_entry (ox_zz ox_ms (n + 7)) 109 0 tl [.inr (.inr (10, 0, 0)), .inl (v1), .inl (v2), ox_d, ox_d, ox_d] [] r2.2 else if v2 = ((5 : Nat) : Int) then ox_ev m_Mod_entry (ox_zz ox_ms (n + 7)) 119 0 tl [.inr (.inr (10, 0, 0)), .inl (v1), .inl (v2), ox_d, ox_d, ox_d] [] r2.2 else if v2 = ((6 : Nat) : Int) then ox_ev m_Mod_entry (ox_zz ox_ms (n + 7)) 132 0 tl [.inr (.inr (10, 0, 0)), .inl (v1), .inl (v2), ox_d, ox_d, ox_d] [] r2.2 else if v2 = ((7 : Nat) : Int) then ox_ev m_Mod_entry (ox_zz ox_ms (n + 7)) 138 0 tl [.inr (.inr (10, 0, 0)), .inl (v1), .inl (v2), ox_d, ox_d, ox_d] [] r2.2 else ox_ev m_Mod_entry (ox_zz ox_ms (n + 7)) 155 0 tl [.inr (.inr (10, 0, 0)), .inl (v1), .inl (v2), ox_d, ox_d, ox_d] [] r2.2) rfl ?_
    refine ox_R_if (fun _ => ?_) (fun _ => ?_)
    · refine ox_R_to 4 (Y := if 0 ≤ v1 ∧ v1.toNat < 61 then ox_ev m_Mod_entry (ox_zz ox_ms (n + 7)) 90 0 tl [.inr (.inr (10, 0, 0)), .inl (v1), .inl (v2), ox_d, ox_d, ox_d] [.inl (r2.2 10 0 21 v1.toNat)] r2.2 else none) rfl ?_
      refine ox_R_if (fun _ => ?_) (fun _ => ox_R_none)
      refine ox_R_to 1 (Y := some (.inl (some (.inl (r2.2 10 0 21 v1.toNat))), r2.2)) rfl ?_
      exact ox_R_ret rfl
    refine ox_R_if (fun _ => ?_) (fun _ => ?_)
    · refine ox_R_to 3 (Y := ox_back m_Mod_entry 93 1 [] ((ox_zz ox_ms (n + 7)) 74 tl [.inr (.inr (10, 0, 0)), .inl (v1)] r2.2) (fun pc9 x9 st9 σ9 => ox_ev m_Mod_entry (ox_zz ox_ms (n + 7)) pc9 0 tl (ox_kl (m_Mod_entry.2.2.1 pc9) (ox_xl x9 [.inr (.inr (10, 0, 0)), .inl (v1), .inl (v2), ox_d, ox_d, ox_d])) st9 σ9)) rfl ?_
      refine ox_R_call (fc := (fun r : Int × ox_H => ((.inl (some (.inl r.1)), r.2) : ox_O))) (L_Mod_level v1 r2.2 (n + 2) tl) (fun r3 => ?_)
      refine ox_R_of (Y := ox_ev m_Mod_entry (ox_zz ox_ms (n + 7)) 96 0 tl [.inr (.inr (10, 0, 0)), .inl (v1), .inl (v2), ox_d, ox_d, ox_d] [.inl (r3.1)] r3.2) rfl ?_
      refine ox_R_to 1 (Y := some (.inl (some (.inl (r3.1))), r3.2)) rfl ?_
      exact ox_R_ret rfl
    refine ox_R_if (fun _ => ?_) (fun _ => ?_)
    · refine ox_R_to 3 (Y := ox_back m_Mod_entry 99 1 [] ((ox_zz ox_ms (n + 7)) 76 tl [.inr (.inr (10, 0, 0)), .inl (v1)] r2.2) (fun pc9 x9 st9 σ9 => ox_ev m_Mod_entry (ox_zz ox_ms (n + 7)) pc9 0 tl (ox_kl (m_Mod_entry.2.2.1 pc9) (ox_xl x9 [.inr (.inr (10, 0, 0)), .inl (v1), .inl (v2), ox_d, ox_d, ox_d])) st9 σ9)) rfl ?_
      refine ox_R_call (fc := (fun r : Int × ox_H => ((.inl (some (.inl r.1)), r.2) : ox_O))) (L_Mod_parent v1 r2.2 (n + 1) tl) (fun r4 => ?_)
      refine ox_R_of (Y := ox_ev m_Mod_entry (ox_zz ox_ms (n + 7)) 102 0 tl [.inr (.inr (10, 0, 0)), .inl (v1), .inl (v2), ox_d, ox_d, ox_d] [.inl (r4.1)] r4.2) rfl ?_
      refine ox_R_to 1 (Y := some (.inl (some (.inl (r4.1))), r4.2)) rfl ?_
      exact ox_R_ret rfl
    refine ox_R_if (fun _ => ?_) (fun _ => ?_)
    · refine ox_R_to 3 (Y := ox_back m_Mod_entry 105 1 [] ((ox_zz ox_ms (n + 7)) 75 tl [.inr (.inr (10, 0, 0)), .inl (v1)] r2.2) (fun pc9 x9 st9 σ9 => ox_ev m_Mod_entry (ox_zz ox_ms (n + 7)) pc9 0 tl (ox_kl (m_Mod_entry.2.2.1 pc9) (ox_xl x9 [.inr (.inr (10, 0, 0)), .inl (v1), .inl (v2), ox_d, ox_d, ox_d])) st9 σ9)) rfl ?_
      refine ox_R_call (fc := (fun r : Int × ox_H => ((.inl (some (.inl r.1)), r.2) : ox_O))) (L_Mod_stateOf v1 r2.2 (n + 2) tl) (fun r5 => ?_)
      refine ox_R_of (Y := ox_ev m_Mod_entry (ox_zz ox_ms (n + 7)) 108 0 tl [.inr (.inr (10, 0, 0)), .inl (v1), .inl (v2), ox_d, ox_d, ox_d] [.inl (r5.1)] r5.2) rfl ?_
      refine ox_R_to 1 (Y := some (.inl (some (.inl (r5.1))), r5.2)) rfl ?_
      exact ox_R_ret rfl
    refine ox_R_if (fun _ => ?_) (fun _ => ?_)
    · refine ox_R_to 3 (Y := ox_back m_Mod_entry 111 1 [] ((ox_zz ox_ms (n + 7)) 77 tl [.inr (.inr (10, 0, 0)), .inl (v1)] r2.2) (fun pc9 x9 st9 σ9 => ox_ev m_Mod_entry (ox_zz ox_ms (n + 7)) pc9 0 tl (ox_kl (m_Mod_entry.2.2.1 pc9) (ox_xl x9 [.inr (.inr (10, 0, 0)), .inl (v1), .inl (v2), ox_d, ox_d, ox_d])) st9 σ9)) rfl ?_
      refine ox_R_call (fc := (fun r : Int × ox_H => ((.inl (some (.inl r.1)), r.2) : ox_O))) (L_Mod_last v1 r2.2 (n + 1) tl) (fun r6 => ?_)
      refine ox_R_of (Y := ox_ev m_Mod_entry (ox_zz ox_ms (n + 7)) 114 0 tl [.inr (.inr (10, 0, 0)), .inl (v1), .inl (v2), ox_d, ox_d, ox_d] [.inl (r6.1)] r6.2) rfl ?_
      refine ox_R_to 5 (Y := some (.inl (some (.inl (ox_w ((ox_w (r6.1 - v1)) - 1)))), r6.2)) rfl ?_
      exact ox_R_ret rfl
    refine ox_R_if (fun _ => ?_) (fun _ => ?_)
    · refine ox_R_to 3 (Y := ox_back m_Mod_entry 121 1 [] ((ox_zz ox_ms (n + 7)) 78 tl [.inr (.inr (10, 0, 0)), .inl (v1)] r2.2) (fun pc9 x9 st9 σ9 => ox_ev m_Mod_entry (ox_zz ox_ms (n + 7)) pc9 0 tl (ox_kl (m_Mod_entry.2.2.1 pc9) (ox_xl x9 [.inr (.inr (10, 0, 0)), .inl (v1), .inl (v2), ox_d, ox_d, ox_d])) st9 σ9)) rfl ?_
      refine ox_R_call (fc := (fun r : Int × ox_H => ((.inl (some (.inl r.1)), r.2) : ox_O))) (L_Mod_end v1 r2.2 (n + 0) tl) (fun r7 => ?_)
      refine ox_R_of (Y := ox_ev m_Mod_entry (ox_zz ox_ms (n + 7)) 124 0 tl [.inr (.inr (10, 0, 0)), .inl (v1), .inl (v2), ox_d, ox_d, ox_d] [.inl (r7.1)] r7.2) rfl ?_
      refine ox_R_to 4 (Y := if 0 ≤ v1 ∧ v1.toNat < 61 then ox_ev m_Mod_entry (ox_zz ox_ms (n + 7)) 130 0 tl [.inr (.inr (10, 0, 0)), .inl (v1), .inl (v2), ox_d, ox_d, ox_d] [.inl (r7.2 10 0 21 v1.toNat), .inl (r7.1)] r7.2 else none) rfl ?_
      refine ox_R_if (fun _ => ?_) (fun _ => ox_R_none)
      refine ox_R_to 2 (Y := some (.inl (some (.inl (ox_w (r7.1 - (r7.2 10 0 21 v1.toNat))))), r7.2)) rfl ?_
      exact ox_R_ret rfl
    refine ox_R_if (fun _ => ?_) (fun _ => ?_)
    · refine ox_R_to 3 (Y := ox_back m_Mod_entry 134 1 [] ((ox_zz ox_ms (n + 7)) 79 tl [.inr (.inr (10, 0, 0)), .inl (v1)] r2.2) (fun pc9 x9 st9 σ9 => ox_ev m_Mod_entry (ox_zz ox_ms (n + 7)) pc9 0 tl (ox_kl (m_Mod_entry.2.2.1 pc9) (ox_xl x9 [.inr (.inr (10, 0, 0)), .inl (v1), .inl (v2), ox_d, ox_d, ox_d])) st9 σ9)) rfl ?_
      refine ox_R_call (fc := (fun r : Int × ox_H => ((.inl (some (.inl r.1)), r.2) : ox_O))) (L_Mod_tagsOf v1 r2.2 (n + 0) tl) (fun r8 => ?_)
      refine ox_R_of (Y := ox_ev m_Mod_entry (ox_zz ox_ms (n + 7)) 137 0 tl [.inr (.inr (10, 0, 0)), .inl (v1), .inl (v2), ox_d, ox_d, ox_d] [.inl (r8.1)] r8.2) rfl ?_
      refine ox_R_to 1 (Y := some (.inl (some (.inl (r8.1))), r8.2)) rfl ?_
      exact ox_R_ret rfl
    refine ox_R_if (fun _ => ?_) (fun _ => ?_)
    · refine ox_R_to 3 (Y := ox_back m_Mod_entry 140 1 [] ((ox_zz ox_ms (n + 7)) 80 tl [.inr (.inr (10, 0, 0)), .inl (v1)] r2.2) (fun pc9 x9 st9 σ9 => ox_ev m_Mod_entry (ox_zz ox_ms (n + 7)) pc9 0 tl (ox_kl (m_Mod_entry.2.2.1 pc9) (ox_xl x9 [.inr (.inr (10, 0, 0)), .inl (v1), .inl (v2), ox_d, ox_d, ox_d])) st9 σ9)) rfl ?_
      refine ox_R_call (fc := (fun r : Int × ox_H => ((.inl (some (.inl r.1)), r.2) : ox_O))) (L_Mod_dateOf v1 r2.2 (n + 2) tl) (fun r9 => ?_)
      refine ox_R_of (Y := ox_ev m_Mod_entry (ox_zz ox_ms (n + 7)) 143 0 tl [.inr (.inr (10, 0, 0)), .inl (v1), .inl (v2), ox_d, ox_d, ox_d] [.inl (r9.1)] r9.2) rfl ?_
      refine ox_R_to 1 (Y := if 0 ≤ r9.1 then ox_ev m_Mod_entry (ox_zz ox_ms (n + 7)) 150 0 tl [.inr (.inr (10, 0, 0)), .inl (v1), .inl (v2), ox_d, ox_d, ox_d] [] r9.2 else ox_ev m_Mod_entry (ox_zz ox_ms (n + 7)) 146 0 tl [.inr (.inr (10, 0, 0)), .inl (v1), .inl (v2), ox_d, ox_d, ox_d] [] r9.2) rfl ?_
      refine ox_R_if (fun _ => ?_) (fun _ => ?_)
      · refine ox_R_to 2 (Y := ox_ev m_Mod_entry (ox_zz ox_ms (n + 7)) 154 0 tl [ox_d, ox_d, ox_d, ox_d, ox_d, ox_d] [.inl (r9.2 10 0 17 0)] r9.2) rfl ?_
        exact (L_Mod_entry_154 (r9.2 10 0 17 0) r9.2 n tl)
      · refine ox_R_to 2 (Y := ox_ev m_Mod_entry (ox_zz ox_ms (n + 7)) 154 0 tl [ox_d, ox_d, ox_d, ox_d, ox_d, ox_d] [.inl ((-1))] r9.2) rfl ?_
        exact (L_Mod_entry_154 (-1) r9.2 n tl)
    · refine ox_R_to 5 (Y := ox_back m_Mod_entry 159 1 [] ((ox_zz ox_ms (n + 7)) 76 tl [.inr (.inr (10, 0, 0)), .inl (v1)] r2.2) (fun pc9 x9 st9 σ9 => ox_ev m_Mod_entry (ox_zz ox_ms (n + 7)) pc9 0 tl (ox_kl (m_Mod_entry.2.2.1 pc9) (ox_xl x9 [.inr (.inr (10, 0, 0)), .inl (v1), .inl (v2), .inl (1), ox_d, ox_d])) st9 σ9)) rfl ?_
      refine ox_R_call (fc := (fun r : Int × ox_H => ((.inl (some (.inl r.1)), r.2) : ox_O))) (L_Mod_parent v1 r2.2 (n + 1) tl) (fun r10 => ?_)
      refine ox_R_of (Y := ox_ev m_Mod_entry (ox_zz ox_ms (n + 7)) 162 0 tl [.inr (.inr (10, 0, 0)), .inl (v1), .inl (v2), .inl (1), ox_d, ox_d] [.inl (r10.1)] r10.2) rfl ?_
      refine ox_R_to 5 (Y := ox_ev m_Mod_entry (ox_zz ox_ms (n + 7)) 170 0 tl [.inr (.inr (10, 0, 0)), .inl (v1), ox_d, .inl (1), .inl (r10.1), .inl (ox_w (r10.1 + 1))] [] r10.2) rfl ?_
      exact (L_Mod_entry_170 v1 1 r10.1 (ox_w (r10.1 + 1)) r10.2 n tl)
  · refine ox_R_to 2 (Y := some (.inl (some (.inl ((-1)))), r2.2)) rfl ?_
    exact ox_R_ret rfl
def F_Mod_entry  (a1 : Int) (a2 : Int) (σ : ox_H) : Option (Int × ox_H) := (F_Mod_isEntry a1 σ).bind fun r11 => (if r11.1 = 0 then (J_Mod_entry_29 a1 a2 1 r11.2) else ((F_Mod_in a2 0 8 r11.2).bind fun r12 => (if r12 = 0 then (J_Mod_entry_29 a1 a2 2 r11.2) else (J_Mod_entry_29 a1 a2 0 r11.2))))
theorem L_Mod_entry  (a1 : Int) (a2 : Int) (σ : ox_H) (n tl : Nat) : ox_R (fun r => some ((fun r : Int × ox_H => ((.inl (some (.inl r.1)), r.2) : ox_O)) r)) (F_Mod_entry a1 a2 σ) (ox_zz ox_ms (n + 8) 86 tl [.inr (.inr (10, 0, 0)), .inl (a1), .inl (a2)] σ) := by
  unfold F_Mod_entry
  refine ox_R_of (Y := ox_ev m_Mod_entry (ox_zz ox_ms (n + 7)) 0 0 tl [.inr (.inr (10, 0, 0)), .inl (a1), .inl (a2), ox_d, ox_d, ox_d] [] σ) rfl ?_
  refine ox_R_to 4 (Y := ox_back m_Mod_entry 3 1 [.inr (.inr (10, 0, 0))] ((ox_zz ox_ms (n + 7)) 73 tl [.inr (.inr (10, 0, 0)), .inl (a1)] σ) (fun pc9 x9 st9 σ9 => ox_ev m_Mod_entry (ox_zz ox_ms (n + 7)) pc9 0 tl (ox_kl (m_Mod_entry.2.2.1 pc9) (ox_xl x9 [.inr (.inr (10, 0, 0)), .inl (a1), .inl (a2), ox_d, ox_d, ox_d])) st9 σ9)) rfl ?_
  refine ox_R_call (fc := (fun r : Int × ox_H => ((.inl (some (.inl r.1)), r.2) : ox_O))) (L_Mod_isEntry a1 σ (n + 1) tl) (fun r11 => ?_)
  refine ox_R_of (Y := ox_ev m_Mod_entry (ox_zz ox_ms (n + 7)) 6 0 tl [.inr (.inr (10, 0, 0)), .inl (a1), .inl (a2), ox_d, ox_d, ox_d] [.inl (r11.1), .inr (.inr (10, 0, 0))] r11.2) rfl ?_
  refine ox_R_to 1 (Y := if r11.1 = 0 then ox_ev m_Mod_entry (ox_zz ox_ms (n + 7)) 9 0 tl [.inr (.inr (10, 0, 0)), .inl (a1), .inl (a2), ox_d, ox_d, ox_d] [.inr (.inr (10, 0, 0))] r11.2 else ox_ev m_Mod_entry (ox_zz ox_ms (n + 7)) 13 0 tl [.inr (.inr (10, 0, 0)), .inl (a1), .inl (a2), ox_d, ox_d, ox_d] [.inr (.inr (10, 0, 0))] r11.2) rfl ?_
  refine ox_R_if (fun _ => ?_) (fun _ => ?_)
  · refine ox_R_to 2 (Y := ox_ev m_Mod_entry (ox_zz ox_ms (n + 7)) 29 0 tl [.inr (.inr (10, 0, 0)), .inl (a1), .inl (a2), ox_d, ox_d, ox_d] [.inl (1), .inr (.inr (10, 0, 0))] r11.2) rfl ?_
    exact (L_Mod_entry_29 a1 a2 1 r11.2 n tl)
  · refine ox_R_to 5 (Y := ox_back m_Mod_entry 18 1 [.inr (.inr (10, 0, 0))] ((ox_zz ox_ms (n + 7)) 44 tl [.inr (.inr (10, 0, 0)), .inl (a2), .inl (0), .inl (8)] r11.2) (fun pc9 x9 st9 σ9 => ox_ev m_Mod_entry (ox_zz ox_ms (n + 7)) pc9 0 tl (ox_kl (m_Mod_entry.2.2.1 pc9) (ox_xl x9 [.inr (.inr (10, 0, 0)), .inl (a1), .inl (a2), ox_d, ox_d, ox_d])) st9 σ9)) rfl ?_
    refine ox_R_call (fc := (fun r : Int => ((.inl (some (.inl r)), r11.2) : ox_O))) (L_Mod_in a2 0 8 r11.2 (n + 6) tl) (fun r12 => ?_)
    refine ox_R_of (Y := ox_ev m_Mod_entry (ox_zz ox_ms (n + 7)) 21 0 tl [.inr (.inr (10, 0, 0)), .inl (a1), .inl (a2), ox_d, ox_d, ox_d] [.inl (r12), .inr (.inr (10, 0, 0))] r11.2) rfl ?_
    refine ox_R_to 1 (Y := if r12 = 0 then ox_ev m_Mod_entry (ox_zz ox_ms (n + 7)) 28 0 tl [.inr (.inr (10, 0, 0)), .inl (a1), .inl (a2), ox_d, ox_d, ox_d] [.inr (.inr (10, 0, 0))] r11.2 else ox_ev m_Mod_entry (ox_zz ox_ms (n + 7)) 24 0 tl [.inr (.inr (10, 0, 0)), .inl (a1), .inl (a2), ox_d, ox_d, ox_d] [.inr (.inr (10, 0, 0))] r11.2) rfl ?_
    refine ox_R_if (fun _ => ?_) (fun _ => ?_)
    · refine ox_R_to 1 (Y := ox_ev m_Mod_entry (ox_zz ox_ms (n + 7)) 29 0 tl [.inr (.inr (10, 0, 0)), .inl (a1), .inl (a2), ox_d, ox_d, ox_d] [.inl (2), .inr (.inr (10, 0, 0))] r11.2) rfl ?_
      exact (L_Mod_entry_29 a1 a2 2 r11.2 n tl)
    · refine ox_R_to 2 (Y := ox_ev m_Mod_entry (ox_zz ox_ms (n + 7)) 29 0 tl [.inr (.inr (10, 0, 0)), .inl (a1), .inl (a2), ox_d, ox_d, ox_d] [.inl (0), .inr (.inr (10, 0, 0))] r11.2) rfl ?_
      exact (L_Mod_entry_29 a1 a2 0 r11.2 n tl)
def J_Mod_property_105  (v4 : Int) (σ : ox_H) : Option (Int × ox_H) := some (v4, σ)
theorem L_Mod_property_105  (v4 : Int) (σ : ox_H) (n tl : Nat) : ox_R (fun r => some ((fun r : Int × ox_H => ((.inl (some (.inl r.1)), r.2) : ox_O)) r)) (J_Mod_property_105 v4 σ) (ox_ev m_Mod_property (ox_zz ox_ms (n + 7)) 105 0 tl [ox_d, ox_d, ox_d, ox_d, .inl (v4), ox_d, ox_d, ox_d] [] σ) := by
  unfold J_Mod_property_105
  refine ox_R_to 2 (Y := some (.inl (some (.inl (v4))), σ)) rfl ?_
  exact ox_R_ret rfl
def J_Mod_property_96  (v2 : Int) (v5 : Int) (v6 : Int) (s0 : Int) (s1 : Int) (σ : ox_H) : Option (((Int × Int × ox_H) ⊕ Int × ox_H)) := some (.inl (ox_w (s1 + s0), ox_w (v6 + 1), σ))
theorem L_Mod_property_96  (v2 : Int) (v5 : Int) (v6 : Int) (s0 : Int) (s1 : Int) (σ : ox_H) (n tl : Nat) : ox_R (Sum.elim (fun (s : Int × Int × ox_H) => match s with | (v4, v6, σ) => ox_ev m_Mod_property (ox_zz ox_ms (n + 7)) 64 0 tl [.inr (.inr (10, 0, 0)), ox_d, .inl (v2), ox_d, .inl (v4), .inl (v5), .inl (v6), ox_d] [] σ) (fun r => some ((fun r : Int × ox_H => ((.inl (some (.inl r.1)), r.2) : ox_O)) r))) (J_Mod_property_96 v2 v5 v6 s0 s1 σ) (ox_ev m_Mod_property (ox_zz ox_ms (n + 7)) 96 0 tl [.inr (.inr (10, 0, 0)), ox_d, .inl (v2), ox_d, ox_d, .inl (v5), .inl (v6), ox_d] [.inl (s0), .inl (s1)] σ) := by
  unfold J_Mod_property_96
  refine ox_R_to 4 (Y := ox_ev m_Mod_property (ox_zz ox_ms (n + 7)) 64 0 tl [.inr (.inr (10, 0, 0)), ox_d, .inl (v2), ox_d, .inl (ox_w (s1 + s0)), .inl (v5), .inl (ox_w (v6 + 1)), ox_d] [] σ) rfl ?_
  exact ox_R_ret rfl
def B_Mod_property_64  (v2 : Int) (v5 : Int) : (Int × Int × ox_H) → Option (((Int × Int × ox_H) ⊕ Int × ox_H)) := fun (v4, v6, σ) => if v5 ≤ v6 then ((J_Mod_property_105 v4 σ).map .inr) else ((F_Mod_own v6 (ox_w (97 + v2)) σ).bind fun r1 => (if 0 ≤ r1.1 then (J_Mod_property_96 v2 v5 v6 r1.1 v4 r1.2) else (J_Mod_property_96 v2 v5 v6 0 v4 r1.2)))
def J_Mod_property_64  (v2 : Int) (v4 : Int) (v5 : Int) (v6 : Int) (σ : ox_H) : Option (Int × ox_H) := ox_lp (B_Mod_property_64 v2 v5) ox_fu (v4, v6, σ)
theorem L_Mod_property_64  (v2 : Int) (v4 : Int) (v5 : Int) (v6 : Int) (σ : ox_H) (n tl : Nat) : ox_R (fun r => some ((fun r : Int × ox_H => ((.inl (some (.inl r.1)), r.2) : ox_O)) r)) (J_Mod_property_64 v2 v4 v5 v6 σ) (ox_ev m_Mod_property (ox_zz ox_ms (n + 7)) 64 0 tl [.inr (.inr (10, 0, 0)), ox_d, .inl (v2), ox_d, .inl (v4), .inl (v5), .inl (v6), ox_d] [] σ) := by
  unfold J_Mod_property_64
  refine ox_R_lp (ψ := (fun (s : Int × Int × ox_H) => match s with | (v4, v6, σ) => ox_ev m_Mod_property (ox_zz ox_ms (n + 7)) 64 0 tl [.inr (.inr (10, 0, 0)), ox_d, .inl (v2), ox_d, .inl (v4), .inl (v5), .inl (v6), ox_d] [] σ)) ?_ ox_fu (v4, v6, σ)
  intro s
  obtain ⟨v4, v6, σ⟩ := s
  unfold B_Mod_property_64
  refine ox_R_to 3 (Y := if v5 ≤ v6 then ox_ev m_Mod_property (ox_zz ox_ms (n + 7)) 105 0 tl [ox_d, ox_d, ox_d, ox_d, .inl (v4), ox_d, ox_d, ox_d] [] σ else ox_ev m_Mod_property (ox_zz ox_ms (n + 7)) 71 0 tl [.inr (.inr (10, 0, 0)), ox_d, .inl (v2), ox_d, .inl (v4), .inl (v5), .inl (v6), ox_d] [] σ) rfl ?_
  refine ox_R_if (fun _ => ?_) (fun _ => ?_)
  · exact ox_R_map ((L_Mod_property_105 v4 σ n tl))
  · refine ox_R_to 6 (Y := ox_back m_Mod_property 78 1 [] ((ox_zz ox_ms (n + 7)) 81 tl [.inr (.inr (10, 0, 0)), .inl (v6), .inl (ox_w (97 + v2))] σ) (fun pc9 x9 st9 σ9 => ox_ev m_Mod_property (ox_zz ox_ms (n + 7)) pc9 0 tl (ox_kl (m_Mod_property.2.2.1 pc9) (ox_xl x9 [.inr (.inr (10, 0, 0)), ox_d, .inl (v2), ox_d, .inl (v4), .inl (v5), .inl (v6), ox_d])) st9 σ9)) rfl ?_
    refine ox_R_call (fc := (fun r : Int × ox_H => ((.inl (some (.inl r.1)), r.2) : ox_O))) (L_Mod_own v6 (ox_w (97 + v2)) σ (n + 2) tl) (fun r1 => ?_)
    refine ox_R_of (Y := ox_ev m_Mod_property (ox_zz ox_ms (n + 7)) 81 0 tl [.inr (.inr (10, 0, 0)), ox_d, .inl (v2), ox_d, .inl (v4), .inl (v5), .inl (v6), ox_d] [.inl (r1.1)] r1.2) rfl ?_
    refine ox_R_to 4 (Y := if 0 ≤ r1.1 then ox_ev m_Mod_property (ox_zz ox_ms (n + 7)) 94 0 tl [.inr (.inr (10, 0, 0)), ox_d, .inl (v2), ox_d, .inl (v4), .inl (v5), .inl (v6), .inl (r1.1)] [.inl (v4)] r1.2 else ox_ev m_Mod_property (ox_zz ox_ms (n + 7)) 90 0 tl [.inr (.inr (10, 0, 0)), ox_d, .inl (v2), ox_d, .inl (v4), .inl (v5), .inl (v6), .inl (r1.1)] [.inl (v4)] r1.2) rfl ?_
    refine ox_R_if (fun _ => ?_) (fun _ => ?_)
    · refine ox_R_to 1 (Y := ox_ev m_Mod_property (ox_zz ox_ms (n + 7)) 96 0 tl [.inr (.inr (10, 0, 0)), ox_d, .inl (v2), ox_d, ox_d, .inl (v5), .inl (v6), ox_d] [.inl (r1.1), .inl (v4)] r1.2) rfl ?_
      exact (L_Mod_property_96 v2 v5 v6 r1.1 v4 r1.2 n tl)
    · refine ox_R_to 2 (Y := ox_ev m_Mod_property (ox_zz ox_ms (n + 7)) 96 0 tl [.inr (.inr (10, 0, 0)), ox_d, .inl (v2), ox_d, ox_d, .inl (v5), .inl (v6), ox_d] [.inl (0), .inl (v4)] r1.2) rfl ?_
      exact (L_Mod_property_96 v2 v5 v6 0 v4 r1.2 n tl)
def J_Mod_property_29  (v1 : Int) (v2 : Int) (v3 : Int) (s0 : Int) (σ : ox_H) : Option (Int × ox_H) := (F_Mod_holds s0 σ).bind fun r2 => (if r2.1 = 0 then (if v3 = 0 then ((F_Mod_has v1 (ox_w (97 + v2)) r2.2).bind fun r3 => (some (r3.1, r3.2))) else ((F_Mod_last v1 r2.2).bind fun r4 => (J_Mod_property_64 v2 0 r4.1 v1 r4.2))) else (some ((-1), r2.2)))
theorem L_Mod_property_29  (v1 : Int) (v2 : Int) (v3 : Int) (s0 : Int) (σ : ox_H) (n tl : Nat) : ox_R (fun r => some ((fun r : Int × ox_H => ((.inl (some (.inl r.1)), r.2) : ox_O)) r)) (J_Mod_property_29 v1 v2 v3 s0 σ) (ox_ev m_Mod_property (ox_zz ox_ms (n + 7)) 29 0 tl [.inr (.inr (10, 0, 0)), .inl (v1), .inl (v2), .inl (v3), ox_d, ox_d, ox_d, ox_d] [.inl (s0), .inr (.inr (10, 0, 0))] σ) := by
  unfold J_Mod_property_29
  refine ox_R_to 1 (Y := ox_back m_Mod_property 29 1 [] ((ox_zz ox_ms (n + 7)) 43 tl [.inr (.inr (10, 0, 0)), .inl (s0)] σ) (fun pc9 x9 st9 σ9 => ox_ev m_Mod_property (ox_zz ox_ms (n + 7)) pc9 0 tl (ox_kl (m_Mod_property.2.2.1 pc9) (ox_xl x9 [.inr (.inr (10, 0, 0)), .inl (v1), .inl (v2), .inl (v3), ox_d, ox_d, ox_d, ox_d])) st9 σ9)) rfl ?_
  refine ox_R_call (fc := (fun r : Int × ox_H => ((.inl (some (.inl r.1)), r.2) : ox_O))) (L_Mod_holds s0 σ (n + 6) tl) (fun r2 => ?_)
  refine ox_R_of (Y := ox_ev m_Mod_property (ox_zz ox_ms (n + 7)) 32 0 tl [.inr (.inr (10, 0, 0)), .inl (v1), .inl (v2), .inl (v3), ox_d, ox_d, ox_d, ox_d] [.inl (r2.1)] r2.2) rfl ?_
  refine ox_R_to 1 (Y := if r2.1 = 0 then ox_ev m_Mod_property (ox_zz ox_ms (n + 7)) 37 0 tl [.inr (.inr (10, 0, 0)), .inl (v1), .inl (v2), .inl (v3), ox_d, ox_d, ox_d, ox_d] [] r2.2 else ox_ev m_Mod_property (ox_zz ox_ms (n + 7)) 35 0 tl [.inr (.inr (10, 0, 0)), .inl (v1), .inl (v2), .inl (v3), ox_d, ox_d, ox_d, ox_d] [] r2.2) rfl ?_
  refine ox_R_if (fun _ => ?_) (fun _ => ?_)
  · refine ox_R_to 2 (Y := if v3 = 0 then ox_ev m_Mod_property (ox_zz ox_ms (n + 7)) 41 0 tl [.inr (.inr (10, 0, 0)), .inl (v1), .inl (v2), .inl (v3), ox_d, ox_d, ox_d, ox_d] [] r2.2 else ox_ev m_Mod_property (ox_zz ox_ms (n + 7)) 51 0 tl [.inr (.inr (10, 0, 0)), .inl (v1), .inl (v2), .inl (v3), ox_d, ox_d, ox_d, ox_d] [] r2.2) rfl ?_
    refine ox_R_if (fun _ => ?_) (fun _ => ?_)
    · refine ox_R_to 6 (Y := ox_back m_Mod_property 47 1 [] ((ox_zz ox_ms (n + 7)) 82 tl [.inr (.inr (10, 0, 0)), .inl (v1), .inl (ox_w (97 + v2))] r2.2) (fun pc9 x9 st9 σ9 => ox_ev m_Mod_property (ox_zz ox_ms (n + 7)) pc9 0 tl (ox_kl (m_Mod_property.2.2.1 pc9) (ox_xl x9 [.inr (.inr (10, 0, 0)), .inl (v1), .inl (v2), .inl (v3), ox_d, ox_d, ox_d, ox_d])) st9 σ9)) rfl ?_
      refine ox_R_call (fc := (fun r : Int × ox_H => ((.inl (some (.inl r.1)), r.2) : ox_O))) (L_Mod_has v1 (ox_w (97 + v2)) r2.2 (n + 0) tl) (fun r3 => ?_)
      refine ox_R_of (Y := ox_ev m_Mod_property (ox_zz ox_ms (n + 7)) 50 0 tl [.inr (.inr (10, 0, 0)), .inl (v1), .inl (v2), .inl (v3), ox_d, ox_d, ox_d, ox_d] [.inl (r3.1)] r3.2) rfl ?_
      refine ox_R_to 1 (Y := some (.inl (some (.inl (r3.1))), r3.2)) rfl ?_
      exact ox_R_ret rfl
    · refine ox_R_to 5 (Y := ox_back m_Mod_property 56 1 [] ((ox_zz ox_ms (n + 7)) 77 tl [.inr (.inr (10, 0, 0)), .inl (v1)] r2.2) (fun pc9 x9 st9 σ9 => ox_ev m_Mod_property (ox_zz ox_ms (n + 7)) pc9 0 tl (ox_kl (m_Mod_property.2.2.1 pc9) (ox_xl x9 [.inr (.inr (10, 0, 0)), .inl (v1), .inl (v2), .inl (v3), .inl (0), ox_d, ox_d, ox_d])) st9 σ9)) rfl ?_
      refine ox_R_call (fc := (fun r : Int × ox_H => ((.inl (some (.inl r.1)), r.2) : ox_O))) (L_Mod_last v1 r2.2 (n + 1) tl) (fun r4 => ?_)
      refine ox_R_of (Y := ox_ev m_Mod_property (ox_zz ox_ms (n + 7)) 59 0 tl [.inr (.inr (10, 0, 0)), .inl (v1), .inl (v2), .inl (v3), .inl (0), ox_d, ox_d, ox_d] [.inl (r4.1)] r4.2) rfl ?_
      refine ox_R_to 3 (Y := ox_ev m_Mod_property (ox_zz ox_ms (n + 7)) 64 0 tl [.inr (.inr (10, 0, 0)), ox_d, .inl (v2), ox_d, .inl (0), .inl (r4.1), .inl (v1), ox_d] [] r4.2) rfl ?_
      exact (L_Mod_property_64 v2 0 r4.1 v1 r4.2 n tl)
  · refine ox_R_to 2 (Y := some (.inl (some (.inl ((-1)))), r2.2)) rfl ?_
    exact ox_R_ret rfl
def F_Mod_property  (a1 : Int) (a2 : Int) (a3 : Int) (σ : ox_H) : Option (Int × ox_H) := (F_Mod_isEntry a1 σ).bind fun r5 => (if r5.1 = 0 then (J_Mod_property_29 a1 a2 a3 1 r5.2) else ((F_Mod_in a2 0 25 r5.2).bind fun r6 => (if r6 = 0 then (J_Mod_property_29 a1 a2 a3 2 r5.2) else (J_Mod_property_29 a1 a2 a3 0 r5.2))))
theorem L_Mod_property  (a1 : Int) (a2 : Int) (a3 : Int) (σ : ox_H) (n tl : Nat) : ox_R (fun r => some ((fun r : Int × ox_H => ((.inl (some (.inl r.1)), r.2) : ox_O)) r)) (F_Mod_property a1 a2 a3 σ) (ox_zz ox_ms (n + 8) 87 tl [.inr (.inr (10, 0, 0)), .inl (a1), .inl (a2), .inl (a3)] σ) := by
  unfold F_Mod_property
  refine ox_R_of (Y := ox_ev m_Mod_property (ox_zz ox_ms (n + 7)) 0 0 tl [.inr (.inr (10, 0, 0)), .inl (a1), .inl (a2), .inl (a3), ox_d, ox_d, ox_d, ox_d] [] σ) rfl ?_
  refine ox_R_to 4 (Y := ox_back m_Mod_property 3 1 [.inr (.inr (10, 0, 0))] ((ox_zz ox_ms (n + 7)) 73 tl [.inr (.inr (10, 0, 0)), .inl (a1)] σ) (fun pc9 x9 st9 σ9 => ox_ev m_Mod_property (ox_zz ox_ms (n + 7)) pc9 0 tl (ox_kl (m_Mod_property.2.2.1 pc9) (ox_xl x9 [.inr (.inr (10, 0, 0)), .inl (a1), .inl (a2), .inl (a3), ox_d, ox_d, ox_d, ox_d])) st9 σ9)) rfl ?_
  refine ox_R_call (fc := (fun r : Int × ox_H => ((.inl (some (.inl r.1)), r.2) : ox_O))) (L_Mod_isEntry a1 σ (n + 1) tl) (fun r5 => ?_)
  refine ox_R_of (Y := ox_ev m_Mod_property (ox_zz ox_ms (n + 7)) 6 0 tl [.inr (.inr (10, 0, 0)), .inl (a1), .inl (a2), .inl (a3), ox_d, ox_d, ox_d, ox_d] [.inl (r5.1), .inr (.inr (10, 0, 0))] r5.2) rfl ?_
  refine ox_R_to 1 (Y := if r5.1 = 0 then ox_ev m_Mod_property (ox_zz ox_ms (n + 7)) 9 0 tl [.inr (.inr (10, 0, 0)), .inl (a1), .inl (a2), .inl (a3), ox_d, ox_d, ox_d, ox_d] [.inr (.inr (10, 0, 0))] r5.2 else ox_ev m_Mod_property (ox_zz ox_ms (n + 7)) 13 0 tl [.inr (.inr (10, 0, 0)), .inl (a1), .inl (a2), .inl (a3), ox_d, ox_d, ox_d, ox_d] [.inr (.inr (10, 0, 0))] r5.2) rfl ?_
  refine ox_R_if (fun _ => ?_) (fun _ => ?_)
  · refine ox_R_to 2 (Y := ox_ev m_Mod_property (ox_zz ox_ms (n + 7)) 29 0 tl [.inr (.inr (10, 0, 0)), .inl (a1), .inl (a2), .inl (a3), ox_d, ox_d, ox_d, ox_d] [.inl (1), .inr (.inr (10, 0, 0))] r5.2) rfl ?_
    exact (L_Mod_property_29 a1 a2 a3 1 r5.2 n tl)
  · refine ox_R_to 5 (Y := ox_back m_Mod_property 18 1 [.inr (.inr (10, 0, 0))] ((ox_zz ox_ms (n + 7)) 44 tl [.inr (.inr (10, 0, 0)), .inl (a2), .inl (0), .inl (25)] r5.2) (fun pc9 x9 st9 σ9 => ox_ev m_Mod_property (ox_zz ox_ms (n + 7)) pc9 0 tl (ox_kl (m_Mod_property.2.2.1 pc9) (ox_xl x9 [.inr (.inr (10, 0, 0)), .inl (a1), .inl (a2), .inl (a3), ox_d, ox_d, ox_d, ox_d])) st9 σ9)) rfl ?_
    refine ox_R_call (fc := (fun r : Int => ((.inl (some (.inl r)), r5.2) : ox_O))) (L_Mod_in a2 0 25 r5.2 (n + 6) tl) (fun r6 => ?_)
    refine ox_R_of (Y := ox_ev m_Mod_property (ox_zz ox_ms (n + 7)) 21 0 tl [.inr (.inr (10, 0, 0)), .inl (a1), .inl (a2), .inl (a3), ox_d, ox_d, ox_d, ox_d] [.inl (r6), .inr (.inr (10, 0, 0))] r5.2) rfl ?_
    refine ox_R_to 1 (Y := if r6 = 0 then ox_ev m_Mod_property (ox_zz ox_ms (n + 7)) 28 0 tl [.inr (.inr (10, 0, 0)), .inl (a1), .inl (a2), .inl (a3), ox_d, ox_d, ox_d, ox_d] [.inr (.inr (10, 0, 0))] r5.2 else ox_ev m_Mod_property (ox_zz ox_ms (n + 7)) 24 0 tl [.inr (.inr (10, 0, 0)), .inl (a1), .inl (a2), .inl (a3), ox_d, ox_d, ox_d, ox_d] [.inr (.inr (10, 0, 0))] r5.2) rfl ?_
    refine ox_R_if (fun _ => ?_) (fun _ => ?_)
    · refine ox_R_to 1 (Y := ox_ev m_Mod_property (ox_zz ox_ms (n + 7)) 29 0 tl [.inr (.inr (10, 0, 0)), .inl (a1), .inl (a2), .inl (a3), ox_d, ox_d, ox_d, ox_d] [.inl (2), .inr (.inr (10, 0, 0))] r5.2) rfl ?_
      exact (L_Mod_property_29 a1 a2 a3 2 r5.2 n tl)
    · refine ox_R_to 2 (Y := ox_ev m_Mod_property (ox_zz ox_ms (n + 7)) 29 0 tl [.inr (.inr (10, 0, 0)), .inl (a1), .inl (a2), .inl (a3), ox_d, ox_d, ox_d, ox_d] [.inl (0), .inr (.inr (10, 0, 0))] r5.2) rfl ?_
      exact (L_Mod_property_29 a1 a2 a3 0 r5.2 n tl)
def J_Mod_stretch_103  (v1 : Int) (v3 : Int) (σ : ox_H) : Option ox_H := if 0 ≤ v1 ∧ v1.toNat < 60 then (if 0 ≤ v1 ∧ v1.toNat < 60 then (some (ox_up σ 10 0 1 v1.toNat (ox_w ((σ 10 0 1 v1.toNat) + v3)))) else none) else none
theorem L_Mod_stretch_103  (v1 : Int) (v3 : Int) (σ : ox_H) (n tl : Nat) : ox_R (fun r => some ((fun r : ox_H => ((.inl none, r) : ox_O)) r)) (J_Mod_stretch_103 v1 v3 σ) (ox_ev m_Mod_stretch (ox_zz ox_ms (n + 0)) 103 0 tl [.inr (.inr (10, 0, 0)), .inl (v1), ox_d, .inl (v3), ox_d] [] σ) := by
  unfold J_Mod_stretch_103
  refine ox_R_to 5 (Y := if 0 ≤ v1 ∧ v1.toNat < 60 then ox_ev m_Mod_stretch (ox_zz ox_ms (n + 0)) 110 0 tl [.inr (.inr (10, 0, 0)), .inl (v1), ox_d, .inl (v3), ox_d] [.inl (σ 10 0 1 v1.toNat), .inl (v1), .inr (.inr (110, 0, 1))] σ else none) rfl ?_
  refine ox_R_if (fun _ => ?_) (fun _ => ox_R_none)
  refine ox_R_to 3 (Y := if 0 ≤ v1 ∧ v1.toNat < 60 then ox_ev m_Mod_stretch (ox_zz ox_ms (n + 0)) 113 0 tl [.inr (.inr (10, 0, 0)), .inl (v1), ox_d, .inl (v3), ox_d] [] (ox_up σ 10 0 1 v1.toNat (ox_w ((σ 10 0 1 v1.toNat) + v3))) else none) rfl ?_
  refine ox_R_if (fun _ => ?_) (fun _ => ox_R_none)
  refine ox_R_to 1 (Y := some (.inl none, (ox_up σ 10 0 1 v1.toNat (ox_w ((σ 10 0 1 v1.toNat) + v3))))) rfl ?_
  exact ox_R_ret rfl
def J_Mod_stretch_52  (v1 : Int) (v3 : Int) (σ : ox_H) : Option ox_H := (J_Mod_stretch_103 v1 v3 σ)
theorem L_Mod_stretch_52  (v1 : Int) (v3 : Int) (σ : ox_H) (n tl : Nat) : ox_R (fun r => some ((fun r : ox_H => ((.inl none, r) : ox_O)) r)) (J_Mod_stretch_52 v1 v3 σ) (ox_ev m_Mod_stretch (ox_zz ox_ms (n + 0)) 52 0 tl [.inr (.inr (10, 0, 0)), .inl (v1), ox_d, .inl (v3), ox_d] [] σ) := by
  unfold J_Mod_stretch_52
  refine ox_R_to 1 (Y := ox_ev m_Mod_stretch (ox_zz ox_ms (n + 0)) 103 0 tl [.inr (.inr (10, 0, 0)), .inl (v1), ox_d, .inl (v3), ox_d] [] σ) rfl ?_
  exact (L_Mod_stretch_103 v1 v3 σ n tl)
def B_Mod_stretch_14  (v1 : Int) (v2 : Int) (v3 : Int) : (Int × ox_H) → Option (((Int × ox_H) ⊕ ox_H)) := fun (v4, σ) => if v4 < v2 then ((J_Mod_stretch_52 v1 v3 σ).map .inr) else (if 0 ≤ (ox_w ((ox_w (24 * v1)) + v4)) ∧ (ox_w ((ox_w (24 * v1)) + v4)).toNat < 1440 then (if 0 ≤ (ox_w ((ox_w ((ox_w (24 * v1)) + v4)) + v3)) ∧ (ox_w ((ox_w ((ox_w (24 * v1)) + v4)) + v3)).toNat < 1440 then (some (.inl (ox_w (v4 + (-1)), (ox_up σ 10 0 0 ((ox_w ((ox_w ((ox_w (24 * v1)) + v4)) + v3)).toNat) (σ 10 0 0 ((ox_w ((ox_w (24 * v1)) + v4)).toNat)))))) else none) else none)
def J_Mod_stretch_14  (v1 : Int) (v2 : Int) (v3 : Int) (v4 : Int) (σ : ox_H) : Option (ox_H) := ox_lp (B_Mod_stretch_14 v1 v2 v3) ox_fu (v4, σ)
theorem L_Mod_stretch_14  (v1 : Int) (v2 : Int) (v3 : Int) (v4 : Int) (σ : ox_H) (n tl : Nat) : ox_R (fun r => some ((fun r : ox_H => ((.inl none, r) : ox_O)) r)) (J_Mod_stretch_14 v1 v2 v3 v4 σ) (ox_ev m_Mod_stretch (ox_zz ox_ms (n + 0)) 14 0 tl [.inr (.inr (10, 0, 0)), .inl (v1), .inl (v2), .inl (v3), .inl (v4)] [] σ) := by
  unfold J_Mod_stretch_14
  refine ox_R_lp (ψ := (fun (s : Int × ox_H) => match s with | (v4, σ) => ox_ev m_Mod_stretch (ox_zz ox_ms (n + 0)) 14 0 tl [.inr (.inr (10, 0, 0)), .inl (v1), .inl (v2), .inl (v3), .inl (v4)] [] σ)) ?_ ox_fu (v4, σ)
  intro s
  obtain ⟨v4, σ⟩ := s
  unfold B_Mod_stretch_14
  refine ox_R_to 3 (Y := if v4 < v2 then ox_ev m_Mod_stretch (ox_zz ox_ms (n + 0)) 52 0 tl [.inr (.inr (10, 0, 0)), .inl (v1), ox_d, .inl (v3), ox_d] [] σ else ox_ev m_Mod_stretch (ox_zz ox_ms (n + 0)) 20 0 tl [.inr (.inr (10, 0, 0)), .inl (v1), .inl (v2), .inl (v3), .inl (v4)] [] σ) rfl ?_
  refine ox_R_if (fun _ => ?_) (fun _ => ?_)
  · exact ox_R_map ((L_Mod_stretch_52 v1 v3 σ n tl))
  · refine ox_R_to 17 (Y := if 0 ≤ (ox_w ((ox_w (24 * v1)) + v4)) ∧ (ox_w ((ox_w (24 * v1)) + v4)).toNat < 1440 then ox_ev m_Mod_stretch (ox_zz ox_ms (n + 0)) 45 0 tl [.inr (.inr (10, 0, 0)), .inl (v1), .inl (v2), .inl (v3), .inl (v4)] [.inl (σ 10 0 0 ((ox_w ((ox_w (24 * v1)) + v4)).toNat)), .inl (ox_w ((ox_w ((ox_w (24 * v1)) + v4)) + v3)), .inr (.inr (110, 0, 0))] σ else none) rfl ?_
    refine ox_R_if (fun _ => ?_) (fun _ => ox_R_none)
    refine ox_R_to 1 (Y := if 0 ≤ (ox_w ((ox_w ((ox_w (24 * v1)) + v4)) + v3)) ∧ (ox_w ((ox_w ((ox_w (24 * v1)) + v4)) + v3)).toNat < 1440 then ox_ev m_Mod_stretch (ox_zz ox_ms (n + 0)) 46 0 tl [.inr (.inr (10, 0, 0)), .inl (v1), .inl (v2), .inl (v3), .inl (v4)] [] (ox_up σ 10 0 0 ((ox_w ((ox_w ((ox_w (24 * v1)) + v4)) + v3)).toNat) (σ 10 0 0 ((ox_w ((ox_w (24 * v1)) + v4)).toNat))) else none) rfl ?_
    refine ox_R_if (fun _ => ?_) (fun _ => ox_R_none)
    refine ox_R_to 2 (Y := ox_ev m_Mod_stretch (ox_zz ox_ms (n + 0)) 14 0 tl [.inr (.inr (10, 0, 0)), .inl (v1), .inl (v2), .inl (v3), .inl (ox_w (v4 + (-1)))] [] (ox_up σ 10 0 0 ((ox_w ((ox_w ((ox_w (24 * v1)) + v4)) + v3)).toNat) (σ 10 0 0 ((ox_w ((ox_w (24 * v1)) + v4)).toNat)))) rfl ?_
    exact ox_R_ret rfl
def B_Mod_stretch_58  (v1 : Int) (v3 : Int) : (Int × ox_H) → Option (((Int × ox_H) ⊕ ox_H)) := fun (v4, σ) => if 0 ≤ v1 ∧ v1.toNat < 60 then (if (ox_w ((σ 10 0 1 v1.toNat) + v3)) ≤ v4 then ((J_Mod_stretch_103 v1 v3 σ).map .inr) else (if 0 ≤ (ox_w ((ox_w ((ox_w (24 * v1)) + v4)) - v3)) ∧ (ox_w ((ox_w ((ox_w (24 * v1)) + v4)) - v3)).toNat < 1440 then (if 0 ≤ (ox_w ((ox_w (24 * v1)) + v4)) ∧ (ox_w ((ox_w (24 * v1)) + v4)).toNat < 1440 then (some (.inl (ox_w (v4 + 1), (ox_up σ 10 0 0 ((ox_w ((ox_w (24 * v1)) + v4)).toNat) (σ 10 0 0 ((ox_w ((ox_w ((ox_w (24 * v1)) + v4)) - v3)).toNat)))))) else none) else none)) else none
def J_Mod_stretch_58  (v1 : Int) (v3 : Int) (v4 : Int) (σ : ox_H) : Option (ox_H) := ox_lp (B_Mod_stretch_58 v1 v3) ox_fu (v4, σ)
theorem L_Mod_stretch_58  (v1 : Int) (v3 : Int) (v4 : Int) (σ : ox_H) (n tl : Nat) : ox_R (fun r => some ((fun r : ox_H => ((.inl none, r) : ox_O)) r)) (J_Mod_stretch_58 v1 v3 v4 σ) (ox_ev m_Mod_stretch (ox_zz ox_ms (n + 0)) 58 0 tl [.inr (.inr (10, 0, 0)), .inl (v1), ox_d, .inl (v3), .inl (v4)] [] σ) := by
  unfold J_Mod_stretch_58
  refine ox_R_lp (ψ := (fun (s : Int × ox_H) => match s with | (v4, σ) => ox_ev m_Mod_stretch (ox_zz ox_ms (n + 0)) 58 0 tl [.inr (.inr (10, 0, 0)), .inl (v1), ox_d, .inl (v3), .inl (v4)] [] σ)) ?_ ox_fu (v4, σ)
  intro s
  obtain ⟨v4, σ⟩ := s
  unfold B_Mod_stretch_58
  refine ox_R_to 5 (Y := if 0 ≤ v1 ∧ v1.toNat < 60 then ox_ev m_Mod_stretch (ox_zz ox_ms (n + 0)) 66 0 tl [.inr (.inr (10, 0, 0)), .inl (v1), ox_d, .inl (v3), .inl (v4)] [.inl (σ 10 0 1 v1.toNat), .inl (v4)] σ else none) rfl ?_
  refine ox_R_if (fun _ => ?_) (fun _ => ox_R_none)
  refine ox_R_to 3 (Y := if (ox_w ((σ 10 0 1 v1.toNat) + v3)) ≤ v4 then ox_ev m_Mod_stretch (ox_zz ox_ms (n + 0)) 103 0 tl [.inr (.inr (10, 0, 0)), .inl (v1), ox_d, .inl (v3), ox_d] [] σ else ox_ev m_Mod_stretch (ox_zz ox_ms (n + 0)) 71 0 tl [.inr (.inr (10, 0, 0)), .inl (v1), ox_d, .inl (v3), .inl (v4)] [] σ) rfl ?_
  refine ox_R_if (fun _ => ?_) (fun _ => ?_)
  · exact ox_R_map ((L_Mod_stretch_103 v1 v3 σ n tl))
  · refine ox_R_to 17 (Y := if 0 ≤ (ox_w ((ox_w ((ox_w (24 * v1)) + v4)) - v3)) ∧ (ox_w ((ox_w ((ox_w (24 * v1)) + v4)) - v3)).toNat < 1440 then ox_ev m_Mod_stretch (ox_zz ox_ms (n + 0)) 96 0 tl [.inr (.inr (10, 0, 0)), .inl (v1), ox_d, .inl (v3), .inl (v4)] [.inl (σ 10 0 0 ((ox_w ((ox_w ((ox_w (24 * v1)) + v4)) - v3)).toNat)), .inl (ox_w ((ox_w (24 * v1)) + v4)), .inr (.inr (110, 0, 0))] σ else none) rfl ?_
    refine ox_R_if (fun _ => ?_) (fun _ => ox_R_none)
    refine ox_R_to 1 (Y := if 0 ≤ (ox_w ((ox_w (24 * v1)) + v4)) ∧ (ox_w ((ox_w (24 * v1)) + v4)).toNat < 1440 then ox_ev m_Mod_stretch (ox_zz ox_ms (n + 0)) 97 0 tl [.inr (.inr (10, 0, 0)), .inl (v1), ox_d, .inl (v3), .inl (v4)] [] (ox_up σ 10 0 0 ((ox_w ((ox_w (24 * v1)) + v4)).toNat) (σ 10 0 0 ((ox_w ((ox_w ((ox_w (24 * v1)) + v4)) - v3)).toNat))) else none) rfl ?_
    refine ox_R_if (fun _ => ?_) (fun _ => ox_R_none)
    refine ox_R_to 2 (Y := ox_ev m_Mod_stretch (ox_zz ox_ms (n + 0)) 58 0 tl [.inr (.inr (10, 0, 0)), .inl (v1), ox_d, .inl (v3), .inl (ox_w (v4 + 1))] [] (ox_up σ 10 0 0 ((ox_w ((ox_w (24 * v1)) + v4)).toNat) (σ 10 0 0 ((ox_w ((ox_w ((ox_w (24 * v1)) + v4)) - v3)).toNat)))) rfl ?_
    exact ox_R_ret rfl
def F_Mod_stretch  (a1 : Int) (a2 : Int) (a3 : Int) (σ : ox_H) : Option (ox_H) := if a3 ≤ 0 then (J_Mod_stretch_58 a1 a3 a2 σ) else (if 0 ≤ a1 ∧ a1.toNat < 60 then (J_Mod_stretch_14 a1 a2 a3 (ox_w ((σ 10 0 1 a1.toNat) - 1)) σ) else none)
theorem L_Mod_stretch  (a1 : Int) (a2 : Int) (a3 : Int) (σ : ox_H) (n tl : Nat) : ox_R (fun r => some ((fun r : ox_H => ((.inl none, r) : ox_O)) r)) (F_Mod_stretch a1 a2 a3 σ) (ox_zz ox_ms (n + 1) 88 tl [.inr (.inr (10, 0, 0)), .inl (a1), .inl (a2), .inl (a3)] σ) := by
  unfold F_Mod_stretch
  refine ox_R_of (Y := ox_ev m_Mod_stretch (ox_zz ox_ms (n + 0)) 0 0 tl [.inr (.inr (10, 0, 0)), .inl (a1), .inl (a2), .inl (a3), ox_d] [] σ) rfl ?_
  refine ox_R_to 2 (Y := if a3 ≤ 0 then ox_ev m_Mod_stretch (ox_zz ox_ms (n + 0)) 55 0 tl [.inr (.inr (10, 0, 0)), .inl (a1), .inl (a2), .inl (a3), ox_d] [] σ else ox_ev m_Mod_stretch (ox_zz ox_ms (n + 0)) 4 0 tl [.inr (.inr (10, 0, 0)), .inl (a1), .inl (a2), .inl (a3), ox_d] [] σ) rfl ?_
  refine ox_R_if (fun _ => ?_) (fun _ => ?_)
  · refine ox_R_to 2 (Y := ox_ev m_Mod_stretch (ox_zz ox_ms (n + 0)) 58 0 tl [.inr (.inr (10, 0, 0)), .inl (a1), ox_d, .inl (a3), .inl (a2)] [] σ) rfl ?_
    exact (L_Mod_stretch_58 a1 a3 a2 σ n tl)
  · refine ox_R_to 4 (Y := if 0 ≤ a1 ∧ a1.toNat < 60 then ox_ev m_Mod_stretch (ox_zz ox_ms (n + 0)) 10 0 tl [.inr (.inr (10, 0, 0)), .inl (a1), .inl (a2), .inl (a3), ox_d] [.inl (σ 10 0 1 a1.toNat)] σ else none) rfl ?_
    refine ox_R_if (fun _ => ?_) (fun _ => ox_R_none)
    refine ox_R_to 3 (Y := ox_ev m_Mod_stretch (ox_zz ox_ms (n + 0)) 14 0 tl [.inr (.inr (10, 0, 0)), .inl (a1), .inl (a2), .inl (a3), .inl (ox_w ((σ 10 0 1 a1.toNat) - 1))] [] σ) rfl ?_
    exact (L_Mod_stretch_14 a1 a2 a3 (ox_w ((σ 10 0 1 a1.toNat) - 1)) σ n tl)
def J_Mod_star_33  (σ : ox_H) : Option ox_H := some σ
theorem L_Mod_star_33  (σ : ox_H) (n tl : Nat) : ox_R (fun r => some ((fun r : ox_H => ((.inl none, r) : ox_O)) r)) (J_Mod_star_33 σ) (ox_ev m_Mod_star (ox_zz ox_ms (n + 1)) 33 0 tl [ox_d, ox_d, ox_d, ox_d] [] σ) := by
  unfold J_Mod_star_33
  refine ox_R_to 1 (Y := some (.inl none, σ)) rfl ?_
  exact ox_R_ret rfl
def B_Mod_star_9  (v1 : Int) (v2 : Int) : (Int × ox_H) → Option (((Int × ox_H) ⊕ ox_H)) := fun (v3, σ) => if v2 ≤ v3 then ((J_Mod_star_33 σ).map .inr) else (if 0 ≤ (ox_w ((ox_w (24 * v1)) + v3)) ∧ (ox_w ((ox_w (24 * v1)) + v3)).toNat < 1440 then (some (.inl (ox_w (v3 + 1), (ox_up σ 10 0 0 ((ox_w ((ox_w (24 * v1)) + v3)).toNat) 42)))) else none)
def J_Mod_star_9  (v1 : Int) (v2 : Int) (v3 : Int) (σ : ox_H) : Option (ox_H) := ox_lp (B_Mod_star_9 v1 v2) ox_fu (v3, σ)
theorem L_Mod_star_9  (v1 : Int) (v2 : Int) (v3 : Int) (σ : ox_H) (n tl : Nat) : ox_R (fun r => some ((fun r : ox_H => ((.inl none, r) : ox_O)) r)) (J_Mod_star_9 v1 v2 v3 σ) (ox_ev m_Mod_star (ox_zz ox_ms (n + 1)) 9 0 tl [.inr (.inr (10, 0, 0)), .inl (v1), .inl (v2), .inl (v3)] [] σ) := by
  unfold J_Mod_star_9
  refine ox_R_lp (ψ := (fun (s : Int × ox_H) => match s with | (v3, σ) => ox_ev m_Mod_star (ox_zz ox_ms (n + 1)) 9 0 tl [.inr (.inr (10, 0, 0)), .inl (v1), .inl (v2), .inl (v3)] [] σ)) ?_ ox_fu (v3, σ)
  intro s
  obtain ⟨v3, σ⟩ := s
  unfold B_Mod_star_9
  refine ox_R_to 3 (Y := if v2 ≤ v3 then ox_ev m_Mod_star (ox_zz ox_ms (n + 1)) 33 0 tl [ox_d, ox_d, ox_d, ox_d] [] σ else ox_ev m_Mod_star (ox_zz ox_ms (n + 1)) 14 0 tl [.inr (.inr (10, 0, 0)), .inl (v1), .inl (v2), .inl (v3)] [] σ) rfl ?_
  refine ox_R_if (fun _ => ?_) (fun _ => ?_)
  · exact ox_R_map ((L_Mod_star_33 σ n tl))
  · refine ox_R_to 9 (Y := if 0 ≤ (ox_w ((ox_w (24 * v1)) + v3)) ∧ (ox_w ((ox_w (24 * v1)) + v3)).toNat < 1440 then ox_ev m_Mod_star (ox_zz ox_ms (n + 1)) 27 0 tl [.inr (.inr (10, 0, 0)), .inl (v1), .inl (v2), .inl (v3)] [] (ox_up σ 10 0 0 ((ox_w ((ox_w (24 * v1)) + v3)).toNat) 42) else none) rfl ?_
    refine ox_R_if (fun _ => ?_) (fun _ => ox_R_none)
    refine ox_R_to 2 (Y := ox_ev m_Mod_star (ox_zz ox_ms (n + 1)) 9 0 tl [.inr (.inr (10, 0, 0)), .inl (v1), .inl (v2), .inl (ox_w (v3 + 1))] [] (ox_up σ 10 0 0 ((ox_w ((ox_w (24 * v1)) + v3)).toNat) 42)) rfl ?_
    exact ox_R_ret rfl
def F_Mod_star  (a1 : Int) (a2 : Int) (σ : ox_H) : Option (ox_H) := (F_Mod_stretch a1 0 a2 σ).bind fun r1 => (J_Mod_star_9 a1 a2 0 r1)
theorem L_Mod_star  (a1 : Int) (a2 : Int) (σ : ox_H) (n tl : Nat) : ox_R (fun r => some ((fun r : ox_H => ((.inl none, r) : ox_O)) r)) (F_Mod_star a1 a2 σ) (ox_zz ox_ms (n + 2) 89 tl [.inr (.inr (10, 0, 0)), .inl (a1), .inl (a2)] σ) := by
  unfold F_Mod_star
  refine ox_R_of (Y := ox_ev m_Mod_star (ox_zz ox_ms (n + 1)) 0 0 tl [.inr (.inr (10, 0, 0)), .inl (a1), .inl (a2), ox_d] [] σ) rfl ?_
  refine ox_R_to 5 (Y := ox_back m_Mod_star 4 0 [] ((ox_zz ox_ms (n + 1)) 88 tl [.inr (.inr (10, 0, 0)), .inl (a1), .inl (0), .inl (a2)] σ) (fun pc9 x9 st9 σ9 => ox_ev m_Mod_star (ox_zz ox_ms (n + 1)) pc9 0 tl (ox_kl (m_Mod_star.2.2.1 pc9) (ox_xl x9 [.inr (.inr (10, 0, 0)), .inl (a1), .inl (a2), ox_d])) st9 σ9)) rfl ?_
  refine ox_R_call (fc := (fun r : ox_H => ((.inl none, r) : ox_O))) (L_Mod_stretch a1 0 a2 σ (n + 0) tl) (fun r1 => ?_)
  refine ox_R_of (Y := ox_ev m_Mod_star (ox_zz ox_ms (n + 1)) 7 0 tl [.inr (.inr (10, 0, 0)), .inl (a1), .inl (a2), ox_d] [] r1) rfl ?_
  refine ox_R_to 2 (Y := ox_ev m_Mod_star (ox_zz ox_ms (n + 1)) 9 0 tl [.inr (.inr (10, 0, 0)), .inl (a1), .inl (a2), .inl (0)] [] r1) rfl ?_
  exact (L_Mod_star_9 a1 a2 0 r1 n tl)
def J_Mod_shift_166  (v1 : Int) (σ : ox_H) : Option (Int × ox_H) := (F_Mod_level v1 σ).bind fun r1 => (some (r1.1, r1.2))
theorem L_Mod_shift_166  (v1 : Int) (σ : ox_H) (n tl : Nat) : ox_R (fun r => some ((fun r : Int × ox_H => ((.inl (some (.inl r.1)), r.2) : ox_O)) r)) (J_Mod_shift_166 v1 σ) (ox_ev m_Mod_shift (ox_zz ox_ms (n + 6)) 166 0 tl [.inr (.inr (10, 0, 0)), .inl (v1), ox_d, ox_d, ox_d, ox_d, ox_d] [] σ) := by
  unfold J_Mod_shift_166
  refine ox_R_to 3 (Y := ox_back m_Mod_shift 168 1 [] ((ox_zz ox_ms (n + 6)) 74 tl [.inr (.inr (10, 0, 0)), .inl (v1)] σ) (fun pc9 x9 st9 σ9 => ox_ev m_Mod_shift (ox_zz ox_ms (n + 6)) pc9 0 tl (ox_kl (m_Mod_shift.2.2.1 pc9) (ox_xl x9 [.inr (.inr (10, 0, 0)), .inl (v1), ox_d, ox_d, ox_d, ox_d, ox_d])) st9 σ9)) rfl ?_
  refine ox_R_call (fc := (fun r : Int × ox_H => ((.inl (some (.inl r.1)), r.2) : ox_O))) (L_Mod_level v1 σ (n + 1) tl) (fun r1 => ?_)
  refine ox_R_of (Y := ox_ev m_Mod_shift (ox_zz ox_ms (n + 6)) 171 0 tl [.inr (.inr (10, 0, 0)), .inl (v1), ox_d, ox_d, ox_d, ox_d, ox_d] [.inl (r1.1)] r1.2) rfl ?_
  refine ox_R_to 1 (Y := some (.inl (some (.inl (r1.1))), r1.2)) rfl ?_
  exact ox_R_ret rfl
def J_Mod_shift_157  (v1 : Int) (v2 : Int) (v5 : Int) (v6 : Int) (s0 : Int) (s1 : Int) (σ : ox_H) : Option (((Int × ox_H) ⊕ Int × ox_H)) := (F_Mod_star s1 s0 σ).bind fun r2 => (some (.inl (ox_w (v6 + 1), r2)))
theorem L_Mod_shift_157  (v1 : Int) (v2 : Int) (v5 : Int) (v6 : Int) (s0 : Int) (s1 : Int) (σ : ox_H) (n tl : Nat) : ox_R (Sum.elim (fun (s : Int × ox_H) => match s with | (v6, σ) => ox_ev m_Mod_shift (ox_zz ox_ms (n + 6)) 133 0 tl [.inr (.inr (10, 0, 0)), .inl (v1), .inl (v2), ox_d, ox_d, .inl (v5), .inl (v6)] [] σ) (fun r => some ((fun r : Int × ox_H => ((.inl (some (.inl r.1)), r.2) : ox_O)) r))) (J_Mod_shift_157 v1 v2 v5 v6 s0 s1 σ) (ox_ev m_Mod_shift (ox_zz ox_ms (n + 6)) 157 0 tl [.inr (.inr (10, 0, 0)), .inl (v1), .inl (v2), ox_d, ox_d, .inl (v5), .inl (v6)] [.inl (s0), .inl (s1), .inr (.inr (10, 0, 0))] σ) := by
  unfold J_Mod_shift_157
  refine ox_R_to 1 (Y := ox_back m_Mod_shift 157 0 [] ((ox_zz ox_ms (n + 6)) 89 tl [.inr (.inr (10, 0, 0)), .inl (s1), .inl (s0)] σ) (fun pc9 x9 st9 σ9 => ox_ev m_Mod_shift (ox_zz ox_ms (n + 6)) pc9 0 tl (ox_kl (m_Mod_shift.2.2.1 pc9) (ox_xl x9 [.inr (.inr (10, 0, 0)), .inl (v1), .inl (v2), ox_d, ox_d, .inl (v5), .inl (v6)])) st9 σ9)) rfl ?_
  refine ox_R_call (fc := (fun r : ox_H => ((.inl none, r) : ox_O))) (L_Mod_star s1 s0 σ (n + 4) tl) (fun r2 => ?_)
  refine ox_R_of (Y := ox_ev m_Mod_shift (ox_zz ox_ms (n + 6)) 160 0 tl [.inr (.inr (10, 0, 0)), .inl (v1), .inl (v2), ox_d, ox_d, .inl (v5), .inl (v6)] [] r2) rfl ?_
  refine ox_R_to 2 (Y := ox_ev m_Mod_shift (ox_zz ox_ms (n + 6)) 133 0 tl [.inr (.inr (10, 0, 0)), .inl (v1), .inl (v2), ox_d, ox_d, .inl (v5), .inl (ox_w (v6 + 1))] [] r2) rfl ?_
  exact ox_R_ret rfl
def B_Mod_shift_133  (v1 : Int) (v2 : Int) (v5 : Int) : (Int × ox_H) → Option (((Int × ox_H) ⊕ Int × ox_H)) := fun (v6, σ) => if v5 ≤ v6 then ((J_Mod_shift_166 v1 σ).map .inr) else (if 0 ≤ v6 ∧ v6.toNat < 61 then (if v2 = 0 then (J_Mod_shift_157 v1 v2 v5 v6 (-1) (σ 10 0 21 v6.toNat) σ) else (J_Mod_shift_157 v1 v2 v5 v6 1 (σ 10 0 21 v6.toNat) σ)) else none)
def J_Mod_shift_133  (v1 : Int) (v2 : Int) (v5 : Int) (v6 : Int) (σ : ox_H) : Option (Int × ox_H) := ox_lp (B_Mod_shift_133 v1 v2 v5) ox_fu (v6, σ)
theorem L_Mod_shift_133  (v1 : Int) (v2 : Int) (v5 : Int) (v6 : Int) (σ : ox_H) (n tl : Nat) : ox_R (fun r => some ((fun r : Int × ox_H => ((.inl (some (.inl r.1)), r.2) : ox_O)) r)) (J_Mod_shift_133 v1 v2 v5 v6 σ) (ox_ev m_Mod_shift (ox_zz ox_ms (n + 6)) 133 0 tl [.inr (.inr (10, 0, 0)), .inl (v1), .inl (v2), ox_d, ox_d, .inl (v5), .inl (v6)] [] σ) := by
  unfold J_Mod_shift_133
  refine ox_R_lp (ψ := (fun (s : Int × ox_H) => match s with | (v6, σ) => ox_ev m_Mod_shift (ox_zz ox_ms (n + 6)) 133 0 tl [.inr (.inr (10, 0, 0)), .inl (v1), .inl (v2), ox_d, ox_d, .inl (v5), .inl (v6)] [] σ)) ?_ ox_fu (v6, σ)
  intro s
  obtain ⟨v6, σ⟩ := s
  unfold B_Mod_shift_133
  refine ox_R_to 3 (Y := if v5 ≤ v6 then ox_ev m_Mod_shift (ox_zz ox_ms (n + 6)) 166 0 tl [.inr (.inr (10, 0, 0)), .inl (v1), ox_d, ox_d, ox_d, ox_d, ox_d] [] σ else ox_ev m_Mod_shift (ox_zz ox_ms (n + 6)) 140 0 tl [.inr (.inr (10, 0, 0)), .inl (v1), .inl (v2), ox_d, ox_d, .inl (v5), .inl (v6)] [] σ) rfl ?_
  refine ox_R_if (fun _ => ?_) (fun _ => ?_)
  · exact ox_R_map ((L_Mod_shift_166 v1 σ n tl))
  · refine ox_R_to 5 (Y := if 0 ≤ v6 ∧ v6.toNat < 61 then ox_ev m_Mod_shift (ox_zz ox_ms (n + 6)) 148 0 tl [.inr (.inr (10, 0, 0)), .inl (v1), .inl (v2), ox_d, ox_d, .inl (v5), .inl (v6)] [.inl (σ 10 0 21 v6.toNat), .inr (.inr (10, 0, 0))] σ else none) rfl ?_
    refine ox_R_if (fun _ => ?_) (fun _ => ox_R_none)
    refine ox_R_to 2 (Y := if v2 = 0 then ox_ev m_Mod_shift (ox_zz ox_ms (n + 6)) 156 0 tl [.inr (.inr (10, 0, 0)), .inl (v1), .inl (v2), ox_d, ox_d, .inl (v5), .inl (v6)] [.inl (σ 10 0 21 v6.toNat), .inr (.inr (10, 0, 0))] σ else ox_ev m_Mod_shift (ox_zz ox_ms (n + 6)) 152 0 tl [.inr (.inr (10, 0, 0)), .inl (v1), .inl (v2), ox_d, ox_d, .inl (v5), .inl (v6)] [.inl (σ 10 0 21 v6.toNat), .inr (.inr (10, 0, 0))] σ) rfl ?_
    refine ox_R_if (fun _ => ?_) (fun _ => ?_)
    · refine ox_R_to 1 (Y := ox_ev m_Mod_shift (ox_zz ox_ms (n + 6)) 157 0 tl [.inr (.inr (10, 0, 0)), .inl (v1), .inl (v2), ox_d, ox_d, .inl (v5), .inl (v6)] [.inl ((-1)), .inl (σ 10 0 21 v6.toNat), .inr (.inr (10, 0, 0))] σ) rfl ?_
      exact (L_Mod_shift_157 v1 v2 v5 v6 (-1) (σ 10 0 21 v6.toNat) σ n tl)
    · refine ox_R_to 2 (Y := ox_ev m_Mod_shift (ox_zz ox_ms (n + 6)) 157 0 tl [.inr (.inr (10, 0, 0)), .inl (v1), .inl (v2), ox_d, ox_d, .inl (v5), .inl (v6)] [.inl (1), .inl (σ 10 0 21 v6.toNat), .inr (.inr (10, 0, 0))] σ) rfl ?_
      exact (L_Mod_shift_157 v1 v2 v5 v6 1 (σ 10 0 21 v6.toNat) σ n tl)
def J_Mod_shift_122  (v1 : Int) (v2 : Int) (v5 : Int) (s0 : Int) (σ : ox_H) : Option (Int × ox_H) := (F_Mod_holds s0 σ).bind fun r3 => (if r3.1 = 0 then (J_Mod_shift_133 v1 v2 v5 v1 r3.2) else (some ((-1), r3.2)))
theorem L_Mod_shift_122  (v1 : Int) (v2 : Int) (v5 : Int) (s0 : Int) (σ : ox_H) (n tl : Nat) : ox_R (fun r => some ((fun r : Int × ox_H => ((.inl (some (.inl r.1)), r.2) : ox_O)) r)) (J_Mod_shift_122 v1 v2 v5 s0 σ) (ox_ev m_Mod_shift (ox_zz ox_ms (n + 6)) 122 0 tl [.inr (.inr (10, 0, 0)), .inl (v1), .inl (v2), ox_d, ox_d, .inl (v5), ox_d] [.inl (s0), .inr (.inr (10, 0, 0))] σ) := by
  unfold J_Mod_shift_122
  refine ox_R_to 1 (Y := ox_back m_Mod_shift 122 1 [] ((ox_zz ox_ms (n + 6)) 43 tl [.inr (.inr (10, 0, 0)), .inl (s0)] σ) (fun pc9 x9 st9 σ9 => ox_ev m_Mod_shift (ox_zz ox_ms (n + 6)) pc9 0 tl (ox_kl (m_Mod_shift.2.2.1 pc9) (ox_xl x9 [.inr (.inr (10, 0, 0)), .inl (v1), .inl (v2), ox_d, ox_d, .inl (v5), ox_d])) st9 σ9)) rfl ?_
  refine ox_R_call (fc := (fun r : Int × ox_H => ((.inl (some (.inl r.1)), r.2) : ox_O))) (L_Mod_holds s0 σ (n + 5) tl) (fun r3 => ?_)
  refine ox_R_of (Y := ox_ev m_Mod_shift (ox_zz ox_ms (n + 6)) 125 0 tl [.inr (.inr (10, 0, 0)), .inl (v1), .inl (v2), ox_d, ox_d, .inl (v5), ox_d] [.inl (r3.1)] r3.2) rfl ?_
  refine ox_R_to 1 (Y := if r3.1 = 0 then ox_ev m_Mod_shift (ox_zz ox_ms (n + 6)) 130 0 tl [.inr (.inr (10, 0, 0)), .inl (v1), .inl (v2), ox_d, ox_d, .inl (v5), ox_d] [] r3.2 else ox_ev m_Mod_shift (ox_zz ox_ms (n + 6)) 128 0 tl [.inr (.inr (10, 0, 0)), .inl (v1), .inl (v2), ox_d, ox_d, .inl (v5), ox_d] [] r3.2) rfl ?_
  refine ox_R_if (fun _ => ?_) (fun _ => ?_)
  · refine ox_R_to 2 (Y := ox_ev m_Mod_shift (ox_zz ox_ms (n + 6)) 133 0 tl [.inr (.inr (10, 0, 0)), .inl (v1), .inl (v2), ox_d, ox_d, .inl (v5), .inl (v1)] [] r3.2) rfl ?_
    exact (L_Mod_shift_133 v1 v2 v5 v1 r3.2 n tl)
  · refine ox_R_to 2 (Y := some (.inl (some (.inl ((-1)))), r3.2)) rfl ?_
    exact ox_R_ret rfl
def J_Mod_shift_103  (v1 : Int) (v2 : Int) (v3 : Int) (v4 : Int) (v5 : Int) (σ : ox_H) : Option (Int × ox_H) := if v3 = 0 then (J_Mod_shift_122 v1 v2 v5 1 σ) else (if v4 = 0 then (J_Mod_shift_122 v1 v2 v5 0 σ) else (J_Mod_shift_122 v1 v2 v5 2 σ))
theorem L_Mod_shift_103  (v1 : Int) (v2 : Int) (v3 : Int) (v4 : Int) (v5 : Int) (σ : ox_H) (n tl : Nat) : ox_R (fun r => some ((fun r : Int × ox_H => ((.inl (some (.inl r.1)), r.2) : ox_O)) r)) (J_Mod_shift_103 v1 v2 v3 v4 v5 σ) (ox_ev m_Mod_shift (ox_zz ox_ms (n + 6)) 103 0 tl [.inr (.inr (10, 0, 0)), .inl (v1), .inl (v2), .inl (v3), .inl (v4), .inl (v5), ox_d] [] σ) := by
  unfold J_Mod_shift_103
  refine ox_R_to 3 (Y := if v3 = 0 then ox_ev m_Mod_shift (ox_zz ox_ms (n + 6)) 108 0 tl [.inr (.inr (10, 0, 0)), .inl (v1), .inl (v2), .inl (v3), .inl (v4), .inl (v5), ox_d] [.inr (.inr (10, 0, 0))] σ else ox_ev m_Mod_shift (ox_zz ox_ms (n + 6)) 112 0 tl [.inr (.inr (10, 0, 0)), .inl (v1), .inl (v2), .inl (v3), .inl (v4), .inl (v5), ox_d] [.inr (.inr (10, 0, 0))] σ) rfl ?_
  refine ox_R_if (fun _ => ?_) (fun _ => ?_)
  · refine ox_R_to 2 (Y := ox_ev m_Mod_shift (ox_zz ox_ms (n + 6)) 122 0 tl [.inr (.inr (10, 0, 0)), .inl (v1), .inl (v2), ox_d, ox_d, .inl (v5), ox_d] [.inl (1), .inr (.inr (10, 0, 0))] σ) rfl ?_
    exact (L_Mod_shift_122 v1 v2 v5 1 σ n tl)
  · refine ox_R_to 2 (Y := if v4 = 0 then ox_ev m_Mod_shift (ox_zz ox_ms (n + 6)) 121 0 tl [.inr (.inr (10, 0, 0)), .inl (v1), .inl (v2), .inl (v3), .inl (v4), .inl (v5), ox_d] [.inr (.inr (10, 0, 0))] σ else ox_ev m_Mod_shift (ox_zz ox_ms (n + 6)) 117 0 tl [.inr (.inr (10, 0, 0)), .inl (v1), .inl (v2), .inl (v3), .inl (v4), .inl (v5), ox_d] [.inr (.inr (10, 0, 0))] σ) rfl ?_
    refine ox_R_if (fun _ => ?_) (fun _ => ?_)
    · refine ox_R_to 1 (Y := ox_ev m_Mod_shift (ox_zz ox_ms (n + 6)) 122 0 tl [.inr (.inr (10, 0, 0)), .inl (v1), .inl (v2), ox_d, ox_d, .inl (v5), ox_d] [.inl (0), .inr (.inr (10, 0, 0))] σ) rfl ?_
      exact (L_Mod_shift_122 v1 v2 v5 0 σ n tl)
    · refine ox_R_to 2 (Y := ox_ev m_Mod_shift (ox_zz ox_ms (n + 6)) 122 0 tl [.inr (.inr (10, 0, 0)), .inl (v1), .inl (v2), ox_d, ox_d, .inl (v5), ox_d] [.inl (2), .inr (.inr (10, 0, 0))] σ) rfl ?_
      exact (L_Mod_shift_122 v1 v2 v5 2 σ n tl)
def J_Mod_shift_94  (v1 : Int) (v2 : Int) (v3 : Int) (v5 : Int) (v6 : Int) (s0 : Int) (s1 : Int) (σ : ox_H) : Option (((Int × Int × ox_H) ⊕ Int × ox_H)) := some (.inl (ox_or s1 s0, ox_w (v6 + 1), σ))
theorem L_Mod_shift_94  (v1 : Int) (v2 : Int) (v3 : Int) (v5 : Int) (v6 : Int) (s0 : Int) (s1 : Int) (σ : ox_H) (n tl : Nat) : ox_R (Sum.elim (fun (s : Int × Int × ox_H) => match s with | (v4, v6, σ) => ox_ev m_Mod_shift (ox_zz ox_ms (n + 6)) 35 0 tl [.inr (.inr (10, 0, 0)), .inl (v1), .inl (v2), .inl (v3), .inl (v4), .inl (v5), .inl (v6)] [] σ) (fun r => some ((fun r : Int × ox_H => ((.inl (some (.inl r.1)), r.2) : ox_O)) r))) (J_Mod_shift_94 v1 v2 v3 v5 v6 s0 s1 σ) (ox_ev m_Mod_shift (ox_zz ox_ms (n + 6)) 94 0 tl [.inr (.inr (10, 0, 0)), .inl (v1), .inl (v2), .inl (v3), ox_d, .inl (v5), .inl (v6)] [.inl (s0), .inl (s1)] σ) := by
  unfold J_Mod_shift_94
  refine ox_R_to 4 (Y := ox_ev m_Mod_shift (ox_zz ox_ms (n + 6)) 35 0 tl [.inr (.inr (10, 0, 0)), .inl (v1), .inl (v2), .inl (v3), .inl (ox_or s1 s0), .inl (v5), .inl (ox_w (v6 + 1))] [] σ) rfl ?_
  exact ox_R_ret rfl
def J_Mod_shift_89  (v1 : Int) (v2 : Int) (v3 : Int) (v5 : Int) (v6 : Int) (s0 : Int) (σ : ox_H) : Option (((Int × Int × ox_H) ⊕ Int × ox_H)) := (J_Mod_shift_94 v1 v2 v3 v5 v6 1 s0 σ)
theorem L_Mod_shift_89  (v1 : Int) (v2 : Int) (v3 : Int) (v5 : Int) (v6 : Int) (s0 : Int) (σ : ox_H) (n tl : Nat) : ox_R (Sum.elim (fun (s : Int × Int × ox_H) => match s with | (v4, v6, σ) => ox_ev m_Mod_shift (ox_zz ox_ms (n + 6)) 35 0 tl [.inr (.inr (10, 0, 0)), .inl (v1), .inl (v2), .inl (v3), .inl (v4), .inl (v5), .inl (v6)] [] σ) (fun r => some ((fun r : Int × ox_H => ((.inl (some (.inl r.1)), r.2) : ox_O)) r))) (J_Mod_shift_89 v1 v2 v3 v5 v6 s0 σ) (ox_ev m_Mod_shift (ox_zz ox_ms (n + 6)) 89 0 tl [.inr (.inr (10, 0, 0)), .inl (v1), .inl (v2), .inl (v3), ox_d, .inl (v5), .inl (v6)] [.inl (s0)] σ) := by
  unfold J_Mod_shift_89
  refine ox_R_to 2 (Y := ox_ev m_Mod_shift (ox_zz ox_ms (n + 6)) 94 0 tl [.inr (.inr (10, 0, 0)), .inl (v1), .inl (v2), .inl (v3), ox_d, .inl (v5), .inl (v6)] [.inl (1), .inl (s0)] σ) rfl ?_
  exact (L_Mod_shift_94 v1 v2 v3 v5 v6 1 s0 σ n tl)
def J_Mod_shift_93  (v1 : Int) (v2 : Int) (v3 : Int) (v5 : Int) (v6 : Int) (s0 : Int) (σ : ox_H) : Option (((Int × Int × ox_H) ⊕ Int × ox_H)) := (J_Mod_shift_94 v1 v2 v3 v5 v6 0 s0 σ)
theorem L_Mod_shift_93  (v1 : Int) (v2 : Int) (v3 : Int) (v5 : Int) (v6 : Int) (s0 : Int) (σ : ox_H) (n tl : Nat) : ox_R (Sum.elim (fun (s : Int × Int × ox_H) => match s with | (v4, v6, σ) => ox_ev m_Mod_shift (ox_zz ox_ms (n + 6)) 35 0 tl [.inr (.inr (10, 0, 0)), .inl (v1), .inl (v2), .inl (v3), .inl (v4), .inl (v5), .inl (v6)] [] σ) (fun r => some ((fun r : Int × ox_H => ((.inl (some (.inl r.1)), r.2) : ox_O)) r))) (J_Mod_shift_93 v1 v2 v3 v5 v6 s0 σ) (ox_ev m_Mod_shift (ox_zz ox_ms (n + 6)) 93 0 tl [.inr (.inr (10, 0, 0)), .inl (v1), .inl (v2), .inl (v3), ox_d, .inl (v5), .inl (v6)] [.inl (s0)] σ) := by
  unfold J_Mod_shift_93
  refine ox_R_to 1 (Y := ox_ev m_Mod_shift (ox_zz ox_ms (n + 6)) 94 0 tl [.inr (.inr (10, 0, 0)), .inl (v1), .inl (v2), .inl (v3), ox_d, .inl (v5), .inl (v6)] [.inl (0), .inl (s0)] σ) rfl ?_
  exact (L_Mod_shift_94 v1 v2 v3 v5 v6 0 s0 σ n tl)
def J_Mod_shift_75  (v1 : Int) (v2 : Int) (v3 : Int) (v5 : Int) (v6 : Int) (s0 : Int) (σ : ox_H) : Option (((Int × Int × ox_H) ⊕ Int × ox_H)) := if v2 = 0 then ((F_Mod_level v6 σ).bind fun r4 => (if r4.1 = 1 then (J_Mod_shift_89 v1 v2 v3 v5 v6 s0 r4.2) else (J_Mod_shift_93 v1 v2 v3 v5 v6 s0 r4.2))) else (J_Mod_shift_93 v1 v2 v3 v5 v6 s0 σ)
theorem L_Mod_shift_75  (v1 : Int) (v2 : Int) (v3 : Int) (v5 : Int) (v6 : Int) (s0 : Int) (σ : ox_H) (n tl : Nat) : ox_R (Sum.elim (fun (s : Int × Int × ox_H) => match s with | (v4, v6, σ) => ox_ev m_Mod_shift (ox_zz ox_ms (n + 6)) 35 0 tl [.inr (.inr (10, 0, 0)), .inl (v1), .inl (v2), .inl (v3), .inl (v4), .inl (v5), .inl (v6)] [] σ) (fun r => some ((fun r : Int × ox_H => ((.inl (some (.inl r.1)), r.2) : ox_O)) r))) (J_Mod_shift_75 v1 v2 v3 v5 v6 s0 σ) (ox_ev m_Mod_shift (ox_zz ox_ms (n + 6)) 75 0 tl [.inr (.inr (10, 0, 0)), .inl (v1), .inl (v2), .inl (v3), ox_d, .inl (v5), .inl (v6)] [.inl (s0)] σ) := by
  unfold J_Mod_shift_75
  refine ox_R_to 2 (Y := if v2 = 0 then ox_ev m_Mod_shift (ox_zz ox_ms (n + 6)) 79 0 tl [.inr (.inr (10, 0, 0)), .inl (v1), .inl (v2), .inl (v3), ox_d, .inl (v5), .inl (v6)] [.inl (s0)] σ else ox_ev m_Mod_shift (ox_zz ox_ms (n + 6)) 93 0 tl [.inr (.inr (10, 0, 0)), .inl (v1), .inl (v2), .inl (v3), ox_d, .inl (v5), .inl (v6)] [.inl (s0)] σ) rfl ?_
  refine ox_R_if (fun _ => ?_) (fun _ => ?_)
  · refine ox_R_to 3 (Y := ox_back m_Mod_shift 82 1 [.inl (s0)] ((ox_zz ox_ms (n + 6)) 74 tl [.inr (.inr (10, 0, 0)), .inl (v6)] σ) (fun pc9 x9 st9 σ9 => ox_ev m_Mod_shift (ox_zz ox_ms (n + 6)) pc9 0 tl (ox_kl (m_Mod_shift.2.2.1 pc9) (ox_xl x9 [.inr (.inr (10, 0, 0)), .inl (v1), .inl (v2), .inl (v3), ox_d, .inl (v5), .inl (v6)])) st9 σ9)) rfl ?_
    refine ox_R_call (fc := (fun r : Int × ox_H => ((.inl (some (.inl r.1)), r.2) : ox_O))) (L_Mod_level v6 σ (n + 1) tl) (fun r4 => ?_)
    refine ox_R_of (Y := ox_ev m_Mod_shift (ox_zz ox_ms (n + 6)) 85 0 tl [.inr (.inr (10, 0, 0)), .inl (v1), .inl (v2), .inl (v3), ox_d, .inl (v5), .inl (v6)] [.inl (r4.1), .inl (s0)] r4.2) rfl ?_
    refine ox_R_to 2 (Y := if r4.1 = 1 then ox_ev m_Mod_shift (ox_zz ox_ms (n + 6)) 89 0 tl [.inr (.inr (10, 0, 0)), .inl (v1), .inl (v2), .inl (v3), ox_d, .inl (v5), .inl (v6)] [.inl (s0)] r4.2 else ox_ev m_Mod_shift (ox_zz ox_ms (n + 6)) 93 0 tl [.inr (.inr (10, 0, 0)), .inl (v1), .inl (v2), .inl (v3), ox_d, .inl (v5), .inl (v6)] [.inl (s0)] r4.2) rfl ?_
    refine ox_R_if (fun _ => ?_) (fun _ => ?_)
    · exact (L_Mod_shift_89 v1 v2 v3 v5 v6 s0 r4.2 n tl)
    · exact (L_Mod_shift_93 v1 v2 v3 v5 v6 s0 r4.2 n tl)
  · exact (L_Mod_shift_93 v1 v2 v3 v5 v6 s0 σ n tl)
def B_Mod_shift_35  (v1 : Int) (v2 : Int) (v3 : Int) (v5 : Int) : (Int × Int × ox_H) → Option (((Int × Int × ox_H) ⊕ Int × ox_H)) := fun (v4, v6, σ) => if v5 ≤ v6 then ((J_Mod_shift_103 v1 v2 v3 v4 v5 σ).map .inr) else (if v2 = 0 then (J_Mod_shift_75 v1 v2 v3 v5 v6 v4 σ) else ((F_Mod_level v6 σ).bind fun r5 => (if r5.1 = 5 then (J_Mod_shift_89 v1 v2 v3 v5 v6 v4 r5.2) else (if 0 ≤ v6 ∧ v6.toNat < 61 then (if 0 ≤ (r5.2 10 0 21 v6.toNat) ∧ (r5.2 10 0 21 v6.toNat).toNat < 60 then (if (r5.2 10 0 1 ((r5.2 10 0 21 v6.toNat).toNat)) = 24 then (J_Mod_shift_89 v1 v2 v3 v5 v6 v4 r5.2) else (J_Mod_shift_75 v1 v2 v3 v5 v6 v4 r5.2)) else none) else none))))
def J_Mod_shift_35  (v1 : Int) (v2 : Int) (v3 : Int) (v4 : Int) (v5 : Int) (v6 : Int) (σ : ox_H) : Option (Int × ox_H) := ox_lp (B_Mod_shift_35 v1 v2 v3 v5) ox_fu (v4, v6, σ)
theorem L_Mod_shift_35  (v1 : Int) (v2 : Int) (v3 : Int) (v4 : Int) (v5 : Int) (v6 : Int) (σ : ox_H) (n tl : Nat) : ox_R (fun r => some ((fun r : Int × ox_H => ((.inl (some (.inl r.1)), r.2) : ox_O)) r)) (J_Mod_shift_35 v1 v2 v3 v4 v5 v6 σ) (ox_ev m_Mod_shift (ox_zz ox_ms (n + 6)) 35 0 tl [.inr (.inr (10, 0, 0)), .inl (v1), .inl (v2), .inl (v3), .inl (v4), .inl (v5), .inl (v6)] [] σ) := by
  unfold J_Mod_shift_35
  refine ox_R_lp (ψ := (fun (s : Int × Int × ox_H) => match s with | (v4, v6, σ) => ox_ev m_Mod_shift (ox_zz ox_ms (n + 6)) 35 0 tl [.inr (.inr (10, 0, 0)), .inl (v1), .inl (v2), .inl (v3), .inl (v4), .inl (v5), .inl (v6)] [] σ)) ?_ ox_fu (v4, v6, σ)
  intro s
  obtain ⟨v4, v6, σ⟩ := s
  unfold B_Mod_shift_35
  refine ox_R_to 3 (Y := if v5 ≤ v6 then ox_ev m_Mod_shift (ox_zz ox_ms (n + 6)) 103 0 tl [.inr (.inr (10, 0, 0)), .inl (v1), .inl (v2), .inl (v3), .inl (v4), .inl (v5), ox_d] [] σ else ox_ev m_Mod_shift (ox_zz ox_ms (n + 6)) 42 0 tl [.inr (.inr (10, 0, 0)), .inl (v1), .inl (v2), .inl (v3), .inl (v4), .inl (v5), .inl (v6)] [] σ) rfl ?_
  refine ox_R_if (fun _ => ?_) (fun _ => ?_)
  · exact ox_R_map ((L_Mod_shift_103 v1 v2 v3 v4 v5 σ n tl))
  · refine ox_R_to 3 (Y := if v2 = 0 then ox_ev m_Mod_shift (ox_zz ox_ms (n + 6)) 75 0 tl [.inr (.inr (10, 0, 0)), .inl (v1), .inl (v2), .inl (v3), ox_d, .inl (v5), .inl (v6)] [.inl (v4)] σ else ox_ev m_Mod_shift (ox_zz ox_ms (n + 6)) 48 0 tl [.inr (.inr (10, 0, 0)), .inl (v1), .inl (v2), .inl (v3), .inl (v4), .inl (v5), .inl (v6)] [.inl (v4)] σ) rfl ?_
    refine ox_R_if (fun _ => ?_) (fun _ => ?_)
    · exact (L_Mod_shift_75 v1 v2 v3 v5 v6 v4 σ n tl)
    · refine ox_R_to 3 (Y := ox_back m_Mod_shift 51 1 [.inl (v4)] ((ox_zz ox_ms (n + 6)) 74 tl [.inr (.inr (10, 0, 0)), .inl (v6)] σ) (fun pc9 x9 st9 σ9 => ox_ev m_Mod_shift (ox_zz ox_ms (n + 6)) pc9 0 tl (ox_kl (m_Mod_shift.2.2.1 pc9) (ox_xl x9 [.inr (.inr (10, 0, 0)), .inl (v1), .inl (v2), .inl (v3), .inl (v4), .inl (v5), .inl (v6)])) st9 σ9)) rfl ?_
      refine ox_R_call (fc := (fun r : Int × ox_H => ((.inl (some (.inl r.1)), r.2) : ox_O))) (L_Mod_level v6 σ (n + 1) tl) (fun r5 => ?_)
      refine ox_R_of (Y := ox_ev m_Mod_shift (ox_zz ox_ms (n + 6)) 54 0 tl [.inr (.inr (10, 0, 0)), .inl (v1), .inl (v2), .inl (v3), .inl (v4), .inl (v5), .inl (v6)] [.inl (r5.1), .inl (v4)] r5.2) rfl ?_
      refine ox_R_to 2 (Y := if r5.1 = 5 then ox_ev m_Mod_shift (ox_zz ox_ms (n + 6)) 89 0 tl [.inr (.inr (10, 0, 0)), .inl (v1), .inl (v2), .inl (v3), ox_d, .inl (v5), .inl (v6)] [.inl (v4)] r5.2 else ox_ev m_Mod_shift (ox_zz ox_ms (n + 6)) 58 0 tl [.inr (.inr (10, 0, 0)), .inl (v1), .inl (v2), .inl (v3), .inl (v4), .inl (v5), .inl (v6)] [.inl (v4)] r5.2) rfl ?_
      refine ox_R_if (fun _ => ?_) (fun _ => ?_)
      · exact (L_Mod_shift_89 v1 v2 v3 v5 v6 v4 r5.2 n tl)
      · refine ox_R_to 6 (Y := if 0 ≤ v6 ∧ v6.toNat < 61 then ox_ev m_Mod_shift (ox_zz ox_ms (n + 6)) 69 0 tl [.inr (.inr (10, 0, 0)), .inl (v1), .inl (v2), .inl (v3), .inl (v4), .inl (v5), .inl (v6)] [.inl (r5.2 10 0 21 v6.toNat), .inr (.inr (110, 0, 1)), .inl (v4)] r5.2 else none) rfl ?_
        refine ox_R_if (fun _ => ?_) (fun _ => ox_R_none)
        refine ox_R_to 1 (Y := if 0 ≤ (r5.2 10 0 21 v6.toNat) ∧ (r5.2 10 0 21 v6.toNat).toNat < 60 then ox_ev m_Mod_shift (ox_zz ox_ms (n + 6)) 70 0 tl [.inr (.inr (10, 0, 0)), .inl (v1), .inl (v2), .inl (v3), .inl (v4), .inl (v5), .inl (v6)] [.inl (r5.2 10 0 1 ((r5.2 10 0 21 v6.toNat).toNat)), .inl (v4)] r5.2 else none) rfl ?_
        refine ox_R_if (fun _ => ?_) (fun _ => ox_R_none)
        refine ox_R_to 2 (Y := if (r5.2 10 0 1 ((r5.2 10 0 21 v6.toNat).toNat)) = 24 then ox_ev m_Mod_shift (ox_zz ox_ms (n + 6)) 89 0 tl [.inr (.inr (10, 0, 0)), .inl (v1), .inl (v2), .inl (v3), ox_d, .inl (v5), .inl (v6)] [.inl (v4)] r5.2 else ox_ev m_Mod_shift (ox_zz ox_ms (n + 6)) 75 0 tl [.inr (.inr (10, 0, 0)), .inl (v1), .inl (v2), .inl (v3), ox_d, .inl (v5), .inl (v6)] [.inl (v4)] r5.2) rfl ?_
        refine ox_R_if (fun _ => ?_) (fun _ => ?_)
        · exact (L_Mod_shift_89 v1 v2 v3 v5 v6 v4 r5.2 n tl)
        · exact (L_Mod_shift_75 v1 v2 v3 v5 v6 v4 r5.2 n tl)
def J_Mod_shift_33  (v1 : Int) (v2 : Int) (v3 : Int) (v4 : Int) (v5 : Int) (s0 : Int) (σ : ox_H) : Option (Int × ox_H) := (J_Mod_shift_35 v1 v2 v3 v4 v5 s0 σ)
theorem L_Mod_shift_33  (v1 : Int) (v2 : Int) (v3 : Int) (v4 : Int) (v5 : Int) (s0 : Int) (σ : ox_H) (n tl : Nat) : ox_R (fun r => some ((fun r : Int × ox_H => ((.inl (some (.inl r.1)), r.2) : ox_O)) r)) (J_Mod_shift_33 v1 v2 v3 v4 v5 s0 σ) (ox_ev m_Mod_shift (ox_zz ox_ms (n + 6)) 33 0 tl [.inr (.inr (10, 0, 0)), .inl (v1), .inl (v2), .inl (v3), .inl (v4), .inl (v5), ox_d] [.inl (s0)] σ) := by
  unfold J_Mod_shift_33
  refine ox_R_to 1 (Y := ox_ev m_Mod_shift (ox_zz ox_ms (n + 6)) 35 0 tl [.inr (.inr (10, 0, 0)), .inl (v1), .inl (v2), .inl (v3), .inl (v4), .inl (v5), .inl (s0)] [] σ) rfl ?_
  exact (L_Mod_shift_35 v1 v2 v3 v4 v5 s0 σ n tl)
def J_Mod_shift_22  (v1 : Int) (v2 : Int) (v3 : Int) (v4 : Int) (s0 : Int) (σ : ox_H) : Option (Int × ox_H) := if v3 = 0 then (J_Mod_shift_33 v1 v2 v3 v4 s0 0 σ) else (J_Mod_shift_33 v1 v2 v3 v4 s0 v1 σ)
theorem L_Mod_shift_22  (v1 : Int) (v2 : Int) (v3 : Int) (v4 : Int) (s0 : Int) (σ : ox_H) (n tl : Nat) : ox_R (fun r => some ((fun r : Int × ox_H => ((.inl (some (.inl r.1)), r.2) : ox_O)) r)) (J_Mod_shift_22 v1 v2 v3 v4 s0 σ) (ox_ev m_Mod_shift (ox_zz ox_ms (n + 6)) 22 0 tl [.inr (.inr (10, 0, 0)), .inl (v1), .inl (v2), .inl (v3), .inl (v4), ox_d, ox_d] [.inl (s0)] σ) := by
  unfold J_Mod_shift_22
  refine ox_R_to 3 (Y := if v3 = 0 then ox_ev m_Mod_shift (ox_zz ox_ms (n + 6)) 32 0 tl [.inr (.inr (10, 0, 0)), .inl (v1), .inl (v2), .inl (v3), .inl (v4), .inl (s0), ox_d] [] σ else ox_ev m_Mod_shift (ox_zz ox_ms (n + 6)) 28 0 tl [.inr (.inr (10, 0, 0)), .inl (v1), .inl (v2), .inl (v3), .inl (v4), .inl (s0), ox_d] [] σ) rfl ?_
  refine ox_R_if (fun _ => ?_) (fun _ => ?_)
  · refine ox_R_to 1 (Y := ox_ev m_Mod_shift (ox_zz ox_ms (n + 6)) 33 0 tl [.inr (.inr (10, 0, 0)), .inl (v1), .inl (v2), .inl (v3), .inl (v4), .inl (s0), ox_d] [.inl (0)] σ) rfl ?_
    exact (L_Mod_shift_33 v1 v2 v3 v4 s0 0 σ n tl)
  · refine ox_R_to 2 (Y := ox_ev m_Mod_shift (ox_zz ox_ms (n + 6)) 33 0 tl [.inr (.inr (10, 0, 0)), .inl (v1), .inl (v2), .inl (v3), .inl (v4), .inl (s0), ox_d] [.inl (v1)] σ) rfl ?_
    exact (L_Mod_shift_33 v1 v2 v3 v4 s0 v1 σ n tl)
def F_Mod_shift  (a1 : Int) (a2 : Int) (σ : ox_H) : Option (Int × ox_H) := (F_Mod_isEntry a1 σ).bind fun r6 => (if r6.1 = 0 then (J_Mod_shift_22 a1 a2 r6.1 0 0 r6.2) else ((F_Mod_last a1 r6.2).bind fun r7 => (J_Mod_shift_22 a1 a2 r6.1 0 r7.1 r7.2)))
theorem L_Mod_shift  (a1 : Int) (a2 : Int) (σ : ox_H) (n tl : Nat) : ox_R (fun r => some ((fun r : Int × ox_H => ((.inl (some (.inl r.1)), r.2) : ox_O)) r)) (F_Mod_shift a1 a2 σ) (ox_zz ox_ms (n + 7) 90 tl [.inr (.inr (10, 0, 0)), .inl (a1), .inl (a2)] σ) := by
  unfold F_Mod_shift
  refine ox_R_of (Y := ox_ev m_Mod_shift (ox_zz ox_ms (n + 6)) 0 0 tl [.inr (.inr (10, 0, 0)), .inl (a1), .inl (a2), ox_d, ox_d, ox_d, ox_d] [] σ) rfl ?_
  refine ox_R_to 3 (Y := ox_back m_Mod_shift 2 1 [] ((ox_zz ox_ms (n + 6)) 73 tl [.inr (.inr (10, 0, 0)), .inl (a1)] σ) (fun pc9 x9 st9 σ9 => ox_ev m_Mod_shift (ox_zz ox_ms (n + 6)) pc9 0 tl (ox_kl (m_Mod_shift.2.2.1 pc9) (ox_xl x9 [.inr (.inr (10, 0, 0)), .inl (a1), .inl (a2), ox_d, ox_d, ox_d, ox_d])) st9 σ9)) rfl ?_
  refine ox_R_call (fc := (fun r : Int × ox_H => ((.inl (some (.inl r.1)), r.2) : ox_O))) (L_Mod_isEntry a1 σ (n + 0) tl) (fun r6 => ?_)
  refine ox_R_of (Y := ox_ev m_Mod_shift (ox_zz ox_ms (n + 6)) 5 0 tl [.inr (.inr (10, 0, 0)), .inl (a1), .inl (a2), ox_d, ox_d, ox_d, ox_d] [.inl (r6.1)] r6.2) rfl ?_
  refine ox_R_to 5 (Y := if r6.1 = 0 then ox_ev m_Mod_shift (ox_zz ox_ms (n + 6)) 21 0 tl [.inr (.inr (10, 0, 0)), .inl (a1), .inl (a2), .inl (r6.1), .inl (0), ox_d, ox_d] [] r6.2 else ox_ev m_Mod_shift (ox_zz ox_ms (n + 6)) 13 0 tl [.inr (.inr (10, 0, 0)), .inl (a1), .inl (a2), .inl (r6.1), .inl (0), ox_d, ox_d] [] r6.2) rfl ?_
  refine ox_R_if (fun _ => ?_) (fun _ => ?_)
  · refine ox_R_to 1 (Y := ox_ev m_Mod_shift (ox_zz ox_ms (n + 6)) 22 0 tl [.inr (.inr (10, 0, 0)), .inl (a1), .inl (a2), .inl (r6.1), .inl (0), ox_d, ox_d] [.inl (0)] r6.2) rfl ?_
    exact (L_Mod_shift_22 a1 a2 r6.1 0 0 r6.2 n tl)
  · refine ox_R_to 3 (Y := ox_back m_Mod_shift 15 1 [] ((ox_zz ox_ms (n + 6)) 77 tl [.inr (.inr (10, 0, 0)), .inl (a1)] r6.2) (fun pc9 x9 st9 σ9 => ox_ev m_Mod_shift (ox_zz ox_ms (n + 6)) pc9 0 tl (ox_kl (m_Mod_shift.2.2.1 pc9) (ox_xl x9 [.inr (.inr (10, 0, 0)), .inl (a1), .inl (a2), .inl (r6.1), .inl (0), ox_d, ox_d])) st9 σ9)) rfl ?_
    refine ox_R_call (fc := (fun r : Int × ox_H => ((.inl (some (.inl r.1)), r.2) : ox_O))) (L_Mod_last a1 r6.2 (n + 0) tl) (fun r7 => ?_)
    refine ox_R_of (Y := ox_ev m_Mod_shift (ox_zz ox_ms (n + 6)) 18 0 tl [.inr (.inr (10, 0, 0)), .inl (a1), .inl (a2), .inl (r6.1), .inl (0), ox_d, ox_d] [.inl (r7.1)] r7.2) rfl ?_
    refine ox_R_to 1 (Y := ox_ev m_Mod_shift (ox_zz ox_ms (n + 6)) 22 0 tl [.inr (.inr (10, 0, 0)), .inl (a1), .inl (a2), .inl (r6.1), .inl (0), ox_d, ox_d] [.inl (r7.1)] r7.2) rfl ?_
    exact (L_Mod_shift_22 a1 a2 r6.1 0 r7.1 r7.2 n tl)
def J_Mod_lift_74  (σ : ox_H) : Option ox_H := some σ
theorem L_Mod_lift_74  (σ : ox_H) (n tl : Nat) : ox_R (fun r => some ((fun r : ox_H => ((.inl none, r) : ox_O)) r)) (J_Mod_lift_74 σ) (ox_ev m_Mod_lift (ox_zz ox_ms (n + 0)) 74 0 tl [ox_d, ox_d, ox_d, ox_d, ox_d] [] σ) := by
  unfold J_Mod_lift_74
  refine ox_R_to 1 (Y := some (.inl none, σ)) rfl ?_
  exact ox_R_ret rfl
def J_Mod_lift_68  (v1 : Int) (v2 : Int) (v3 : Int) (σ : ox_H) : Option (((Int × ox_H) ⊕ ox_H)) := some (.inl (ox_w (v3 + 1), σ))
theorem L_Mod_lift_68  (v1 : Int) (v2 : Int) (v3 : Int) (σ : ox_H) (n tl : Nat) : ox_R (Sum.elim (fun (s : Int × ox_H) => match s with | (v3, σ) => ox_ev m_Mod_lift (ox_zz ox_ms (n + 0)) 7 0 tl [.inr (.inr (10, 0, 0)), .inl (v1), .inl (v2), .inl (v3), ox_d] [] σ) (fun r => some ((fun r : ox_H => ((.inl none, r) : ox_O)) r))) (J_Mod_lift_68 v1 v2 v3 σ) (ox_ev m_Mod_lift (ox_zz ox_ms (n + 0)) 68 0 tl [.inr (.inr (10, 0, 0)), .inl (v1), .inl (v2), .inl (v3), ox_d] [] σ) := by
  unfold J_Mod_lift_68
  refine ox_R_to 2 (Y := ox_ev m_Mod_lift (ox_zz ox_ms (n + 0)) 7 0 tl [.inr (.inr (10, 0, 0)), .inl (v1), .inl (v2), .inl (ox_w (v3 + 1)), ox_d] [] σ) rfl ?_
  exact ox_R_ret rfl
def B_Mod_lift_29  (v1 : Int) (v2 : Int) (v3 : Int) : (Int × ox_H) → Option (((Int × ox_H) ⊕ ((Int × ox_H) ⊕ ox_H))) := fun (v4, σ) => if 24 ≤ v4 then ((J_Mod_lift_68 v1 v2 v3 σ).map .inr) else (if 0 ≤ (ox_w ((ox_w (24 * (ox_w (v1 + v3)))) + v4)) ∧ (ox_w ((ox_w (24 * (ox_w (v1 + v3)))) + v4)).toNat < 1440 then (if 0 ≤ (ox_w ((ox_w (24 * v3)) + v4)) ∧ (ox_w ((ox_w (24 * v3)) + v4)).toNat < 1440 then (some (.inl (ox_w (v4 + 1), (ox_up σ 10 0 3 ((ox_w ((ox_w (24 * v3)) + v4)).toNat) (σ 10 0 0 ((ox_w ((ox_w (24 * (ox_w (v1 + v3)))) + v4)).toNat)))))) else none) else none)
def J_Mod_lift_29  (v1 : Int) (v2 : Int) (v3 : Int) (v4 : Int) (σ : ox_H) : Option (((Int × ox_H) ⊕ ox_H)) := ox_lp (B_Mod_lift_29 v1 v2 v3) ox_fu (v4, σ)
theorem L_Mod_lift_29  (v1 : Int) (v2 : Int) (v3 : Int) (v4 : Int) (σ : ox_H) (n tl : Nat) : ox_R (Sum.elim (fun (s : Int × ox_H) => match s with | (v3, σ) => ox_ev m_Mod_lift (ox_zz ox_ms (n + 0)) 7 0 tl [.inr (.inr (10, 0, 0)), .inl (v1), .inl (v2), .inl (v3), ox_d] [] σ) (fun r => some ((fun r : ox_H => ((.inl none, r) : ox_O)) r))) (J_Mod_lift_29 v1 v2 v3 v4 σ) (ox_ev m_Mod_lift (ox_zz ox_ms (n + 0)) 29 0 tl [.inr (.inr (10, 0, 0)), .inl (v1), .inl (v2), .inl (v3), .inl (v4)] [] σ) := by
  unfold J_Mod_lift_29
  refine ox_R_lp (ψ := (fun (s : Int × ox_H) => match s with | (v4, σ) => ox_ev m_Mod_lift (ox_zz ox_ms (n + 0)) 29 0 tl [.inr (.inr (10, 0, 0)), .inl (v1), .inl (v2), .inl (v3), .inl (v4)] [] σ)) ?_ ox_fu (v4, σ)
  intro s
  obtain ⟨v4, σ⟩ := s
  unfold B_Mod_lift_29
  refine ox_R_to 3 (Y := if 24 ≤ v4 then ox_ev m_Mod_lift (ox_zz ox_ms (n + 0)) 68 0 tl [.inr (.inr (10, 0, 0)), .inl (v1), .inl (v2), .inl (v3), ox_d] [] σ else ox_ev m_Mod_lift (ox_zz ox_ms (n + 0)) 36 0 tl [.inr (.inr (10, 0, 0)), .inl (v1), .inl (v2), .inl (v3), .inl (v4)] [] σ) rfl ?_
  refine ox_R_if (fun _ => ?_) (fun _ => ?_)
  · exact ox_R_map ((L_Mod_lift_68 v1 v2 v3 σ n tl))
  · refine ox_R_to 17 (Y := if 0 ≤ (ox_w ((ox_w (24 * (ox_w (v1 + v3)))) + v4)) ∧ (ox_w ((ox_w (24 * (ox_w (v1 + v3)))) + v4)).toNat < 1440 then ox_ev m_Mod_lift (ox_zz ox_ms (n + 0)) 61 0 tl [.inr (.inr (10, 0, 0)), .inl (v1), .inl (v2), .inl (v3), .inl (v4)] [.inl (σ 10 0 0 ((ox_w ((ox_w (24 * (ox_w (v1 + v3)))) + v4)).toNat)), .inl (ox_w ((ox_w (24 * v3)) + v4)), .inr (.inr (110, 0, 3))] σ else none) rfl ?_
    refine ox_R_if (fun _ => ?_) (fun _ => ox_R_none)
    refine ox_R_to 1 (Y := if 0 ≤ (ox_w ((ox_w (24 * v3)) + v4)) ∧ (ox_w ((ox_w (24 * v3)) + v4)).toNat < 1440 then ox_ev m_Mod_lift (ox_zz ox_ms (n + 0)) 62 0 tl [.inr (.inr (10, 0, 0)), .inl (v1), .inl (v2), .inl (v3), .inl (v4)] [] (ox_up σ 10 0 3 ((ox_w ((ox_w (24 * v3)) + v4)).toNat) (σ 10 0 0 ((ox_w ((ox_w (24 * (ox_w (v1 + v3)))) + v4)).toNat))) else none) rfl ?_
    refine ox_R_if (fun _ => ?_) (fun _ => ox_R_none)
    refine ox_R_to 2 (Y := ox_ev m_Mod_lift (ox_zz ox_ms (n + 0)) 29 0 tl [.inr (.inr (10, 0, 0)), .inl (v1), .inl (v2), .inl (v3), .inl (ox_w (v4 + 1))] [] (ox_up σ 10 0 3 ((ox_w ((ox_w (24 * v3)) + v4)).toNat) (σ 10 0 0 ((ox_w ((ox_w (24 * (ox_w (v1 + v3)))) + v4)).toNat)))) rfl ?_
    exact ox_R_ret rfl
def B_Mod_lift_7  (v1 : Int) (v2 : Int) : (Int × ox_H) → Option (((Int × ox_H) ⊕ ox_H)) := fun (v3, σ) => if v2 ≤ v3 then ((J_Mod_lift_74 σ).map .inr) else (if 0 ≤ (ox_w (v1 + v3)) ∧ (ox_w (v1 + v3)).toNat < 60 then (if 0 ≤ v3 ∧ v3.toNat < 60 then (J_Mod_lift_29 v1 v2 v3 0 (ox_up σ 10 0 4 v3.toNat (σ 10 0 1 ((ox_w (v1 + v3)).toNat)))) else none) else none)
def J_Mod_lift_7  (v1 : Int) (v2 : Int) (v3 : Int) (σ : ox_H) : Option (ox_H) := ox_lp (B_Mod_lift_7 v1 v2) ox_fu (v3, σ)
theorem L_Mod_lift_7  (v1 : Int) (v2 : Int) (v3 : Int) (σ : ox_H) (n tl : Nat) : ox_R (fun r => some ((fun r : ox_H => ((.inl none, r) : ox_O)) r)) (J_Mod_lift_7 v1 v2 v3 σ) (ox_ev m_Mod_lift (ox_zz ox_ms (n + 0)) 7 0 tl [.inr (.inr (10, 0, 0)), .inl (v1), .inl (v2), .inl (v3), ox_d] [] σ) := by
  unfold J_Mod_lift_7
  refine ox_R_lp (ψ := (fun (s : Int × ox_H) => match s with | (v3, σ) => ox_ev m_Mod_lift (ox_zz ox_ms (n + 0)) 7 0 tl [.inr (.inr (10, 0, 0)), .inl (v1), .inl (v2), .inl (v3), ox_d] [] σ)) ?_ ox_fu (v3, σ)
  intro s
  obtain ⟨v3, σ⟩ := s
  unfold B_Mod_lift_7
  refine ox_R_to 3 (Y := if v2 ≤ v3 then ox_ev m_Mod_lift (ox_zz ox_ms (n + 0)) 74 0 tl [ox_d, ox_d, ox_d, ox_d, ox_d] [] σ else ox_ev m_Mod_lift (ox_zz ox_ms (n + 0)) 12 0 tl [.inr (.inr (10, 0, 0)), .inl (v1), .inl (v2), .inl (v3), ox_d] [] σ) rfl ?_
  refine ox_R_if (fun _ => ?_) (fun _ => ?_)
  · exact ox_R_map ((L_Mod_lift_74 σ n tl))
  · refine ox_R_to 9 (Y := if 0 ≤ (ox_w (v1 + v3)) ∧ (ox_w (v1 + v3)).toNat < 60 then ox_ev m_Mod_lift (ox_zz ox_ms (n + 0)) 25 0 tl [.inr (.inr (10, 0, 0)), .inl (v1), .inl (v2), .inl (v3), ox_d] [.inl (σ 10 0 1 ((ox_w (v1 + v3)).toNat)), .inl (v3), .inr (.inr (110, 0, 4))] σ else none) rfl ?_
    refine ox_R_if (fun _ => ?_) (fun _ => ox_R_none)
    refine ox_R_to 1 (Y := if 0 ≤ v3 ∧ v3.toNat < 60 then ox_ev m_Mod_lift (ox_zz ox_ms (n + 0)) 26 0 tl [.inr (.inr (10, 0, 0)), .inl (v1), .inl (v2), .inl (v3), ox_d] [] (ox_up σ 10 0 4 v3.toNat (σ 10 0 1 ((ox_w (v1 + v3)).toNat))) else none) rfl ?_
    refine ox_R_if (fun _ => ?_) (fun _ => ox_R_none)
    refine ox_R_to 2 (Y := ox_ev m_Mod_lift (ox_zz ox_ms (n + 0)) 29 0 tl [.inr (.inr (10, 0, 0)), .inl (v1), .inl (v2), .inl (v3), .inl (0)] [] (ox_up σ 10 0 4 v3.toNat (σ 10 0 1 ((ox_w (v1 + v3)).toNat)))) rfl ?_
    exact (L_Mod_lift_29 v1 v2 v3 0 (ox_up σ 10 0 4 v3.toNat (σ 10 0 1 ((ox_w (v1 + v3)).toNat))) n tl)
def F_Mod_lift  (a1 : Int) (a2 : Int) (σ : ox_H) : Option (ox_H) := (J_Mod_lift_7 a1 a2 0 (ox_up σ 10 0 5 0 a2))
theorem L_Mod_lift  (a1 : Int) (a2 : Int) (σ : ox_H) (n tl : Nat) : ox_R (fun r => some ((fun r : ox_H => ((.inl none, r) : ox_O)) r)) (F_Mod_lift a1 a2 σ) (ox_zz ox_ms (n + 1) 91 tl [.inr (.inr (10, 0, 0)), .inl (a1), .inl (a2)] σ) := by
  unfold F_Mod_lift
  refine ox_R_of (Y := ox_ev m_Mod_lift (ox_zz ox_ms (n + 0)) 0 0 tl [.inr (.inr (10, 0, 0)), .inl (a1), .inl (a2), ox_d, ox_d] [] σ) rfl ?_
  refine ox_R_to 5 (Y := ox_ev m_Mod_lift (ox_zz ox_ms (n + 0)) 7 0 tl [.inr (.inr (10, 0, 0)), .inl (a1), .inl (a2), .inl (0), ox_d] [] (ox_up σ 10 0 5 0 a2)) rfl ?_
  exact (L_Mod_lift_7 a1 a2 0 (ox_up σ 10 0 5 0 a2) n tl)
def J_Mod_lay_77  (σ : ox_H) : Option ox_H := some σ
theorem L_Mod_lay_77  (σ : ox_H) (n tl : Nat) : ox_R (fun r => some ((fun r : ox_H => ((.inl none, r) : ox_O)) r)) (J_Mod_lay_77 σ) (ox_ev m_Mod_lay (ox_zz ox_ms (n + 1)) 77 0 tl [ox_d, ox_d, ox_d, ox_d] [] σ) := by
  unfold J_Mod_lay_77
  refine ox_R_to 1 (Y := some (.inl none, σ)) rfl ?_
  exact ox_R_ret rfl
def J_Mod_lay_71  (v1 : Int) (v2 : Int) (σ : ox_H) : Option (((Int × ox_H) ⊕ ox_H)) := some (.inl (ox_w (v2 + 1), σ))
theorem L_Mod_lay_71  (v1 : Int) (v2 : Int) (σ : ox_H) (n tl : Nat) : ox_R (Sum.elim (fun (s : Int × ox_H) => match s with | (v2, σ) => ox_ev m_Mod_lay (ox_zz ox_ms (n + 1)) 11 0 tl [.inr (.inr (10, 0, 0)), .inl (v1), .inl (v2), ox_d] [] σ) (fun r => some ((fun r : ox_H => ((.inl none, r) : ox_O)) r))) (J_Mod_lay_71 v1 v2 σ) (ox_ev m_Mod_lay (ox_zz ox_ms (n + 1)) 71 0 tl [.inr (.inr (10, 0, 0)), .inl (v1), .inl (v2), ox_d] [] σ) := by
  unfold J_Mod_lay_71
  refine ox_R_to 2 (Y := ox_ev m_Mod_lay (ox_zz ox_ms (n + 1)) 11 0 tl [.inr (.inr (10, 0, 0)), .inl (v1), .inl (ox_w (v2 + 1)), ox_d] [] σ) rfl ?_
  exact ox_R_ret rfl
def B_Mod_lay_35  (v1 : Int) (v2 : Int) : (Int × ox_H) → Option (((Int × ox_H) ⊕ ((Int × ox_H) ⊕ ox_H))) := fun (v3, σ) => if 24 ≤ v3 then ((J_Mod_lay_71 v1 v2 σ).map .inr) else (if 0 ≤ (ox_w ((ox_w (24 * v2)) + v3)) ∧ (ox_w ((ox_w (24 * v2)) + v3)).toNat < 1440 then (if 0 ≤ (ox_w ((ox_w (24 * (ox_w (v1 + v2)))) + v3)) ∧ (ox_w ((ox_w (24 * (ox_w (v1 + v2)))) + v3)).toNat < 1440 then (some (.inl (ox_w (v3 + 1), (ox_up σ 10 0 0 ((ox_w ((ox_w (24 * (ox_w (v1 + v2)))) + v3)).toNat) (σ 10 0 3 ((ox_w ((ox_w (24 * v2)) + v3)).toNat)))))) else none) else none)
def J_Mod_lay_35  (v1 : Int) (v2 : Int) (v3 : Int) (σ : ox_H) : Option (((Int × ox_H) ⊕ ox_H)) := ox_lp (B_Mod_lay_35 v1 v2) ox_fu (v3, σ)
theorem L_Mod_lay_35  (v1 : Int) (v2 : Int) (v3 : Int) (σ : ox_H) (n tl : Nat) : ox_R (Sum.elim (fun (s : Int × ox_H) => match s with | (v2, σ) => ox_ev m_Mod_lay (ox_zz ox_ms (n + 1)) 11 0 tl [.inr (.inr (10, 0, 0)), .inl (v1), .inl (v2), ox_d] [] σ) (fun r => some ((fun r : ox_H => ((.inl none, r) : ox_O)) r))) (J_Mod_lay_35 v1 v2 v3 σ) (ox_ev m_Mod_lay (ox_zz ox_ms (n + 1)) 35 0 tl [.inr (.inr (10, 0, 0)), .inl (v1), .inl (v2), .inl (v3)] [] σ) := by
  unfold J_Mod_lay_35
  refine ox_R_lp (ψ := (fun (s : Int × ox_H) => match s with | (v3, σ) => ox_ev m_Mod_lay (ox_zz ox_ms (n + 1)) 35 0 tl [.inr (.inr (10, 0, 0)), .inl (v1), .inl (v2), .inl (v3)] [] σ)) ?_ ox_fu (v3, σ)
  intro s
  obtain ⟨v3, σ⟩ := s
  unfold B_Mod_lay_35
  refine ox_R_to 3 (Y := if 24 ≤ v3 then ox_ev m_Mod_lay (ox_zz ox_ms (n + 1)) 71 0 tl [.inr (.inr (10, 0, 0)), .inl (v1), .inl (v2), ox_d] [] σ else ox_ev m_Mod_lay (ox_zz ox_ms (n + 1)) 41 0 tl [.inr (.inr (10, 0, 0)), .inl (v1), .inl (v2), .inl (v3)] [] σ) rfl ?_
  refine ox_R_if (fun _ => ?_) (fun _ => ?_)
  · exact ox_R_map ((L_Mod_lay_71 v1 v2 σ n tl))
  · refine ox_R_to 17 (Y := if 0 ≤ (ox_w ((ox_w (24 * v2)) + v3)) ∧ (ox_w ((ox_w (24 * v2)) + v3)).toNat < 1440 then ox_ev m_Mod_lay (ox_zz ox_ms (n + 1)) 64 0 tl [.inr (.inr (10, 0, 0)), .inl (v1), .inl (v2), .inl (v3)] [.inl (σ 10 0 3 ((ox_w ((ox_w (24 * v2)) + v3)).toNat)), .inl (ox_w ((ox_w (24 * (ox_w (v1 + v2)))) + v3)), .inr (.inr (110, 0, 0))] σ else none) rfl ?_
    refine ox_R_if (fun _ => ?_) (fun _ => ox_R_none)
    refine ox_R_to 1 (Y := if 0 ≤ (ox_w ((ox_w (24 * (ox_w (v1 + v2)))) + v3)) ∧ (ox_w ((ox_w (24 * (ox_w (v1 + v2)))) + v3)).toNat < 1440 then ox_ev m_Mod_lay (ox_zz ox_ms (n + 1)) 65 0 tl [.inr (.inr (10, 0, 0)), .inl (v1), .inl (v2), .inl (v3)] [] (ox_up σ 10 0 0 ((ox_w ((ox_w (24 * (ox_w (v1 + v2)))) + v3)).toNat) (σ 10 0 3 ((ox_w ((ox_w (24 * v2)) + v3)).toNat))) else none) rfl ?_
    refine ox_R_if (fun _ => ?_) (fun _ => ox_R_none)
    refine ox_R_to 2 (Y := ox_ev m_Mod_lay (ox_zz ox_ms (n + 1)) 35 0 tl [.inr (.inr (10, 0, 0)), .inl (v1), .inl (v2), .inl (ox_w (v3 + 1))] [] (ox_up σ 10 0 0 ((ox_w ((ox_w (24 * (ox_w (v1 + v2)))) + v3)).toNat) (σ 10 0 3 ((ox_w ((ox_w (24 * v2)) + v3)).toNat)))) rfl ?_
    exact ox_R_ret rfl
def B_Mod_lay_11  (v1 : Int) : (Int × ox_H) → Option (((Int × ox_H) ⊕ ox_H)) := fun (v2, σ) => if (σ 10 0 5 0) ≤ v2 then ((J_Mod_lay_77 σ).map .inr) else (if 0 ≤ v2 ∧ v2.toNat < 60 then (if 0 ≤ (ox_w (v1 + v2)) ∧ (ox_w (v1 + v2)).toNat < 60 then (J_Mod_lay_35 v1 v2 0 (ox_up σ 10 0 1 ((ox_w (v1 + v2)).toNat) (σ 10 0 4 v2.toNat))) else none) else none)
def J_Mod_lay_11  (v1 : Int) (v2 : Int) (σ : ox_H) : Option (ox_H) := ox_lp (B_Mod_lay_11 v1) ox_fu (v2, σ)
theorem L_Mod_lay_11  (v1 : Int) (v2 : Int) (σ : ox_H) (n tl : Nat) : ox_R (fun r => some ((fun r : ox_H => ((.inl none, r) : ox_O)) r)) (J_Mod_lay_11 v1 v2 σ) (ox_ev m_Mod_lay (ox_zz ox_ms (n + 1)) 11 0 tl [.inr (.inr (10, 0, 0)), .inl (v1), .inl (v2), ox_d] [] σ) := by
  unfold J_Mod_lay_11
  refine ox_R_lp (ψ := (fun (s : Int × ox_H) => match s with | (v2, σ) => ox_ev m_Mod_lay (ox_zz ox_ms (n + 1)) 11 0 tl [.inr (.inr (10, 0, 0)), .inl (v1), .inl (v2), ox_d] [] σ)) ?_ ox_fu (v2, σ)
  intro s
  obtain ⟨v2, σ⟩ := s
  unfold B_Mod_lay_11
  refine ox_R_to 4 (Y := if (σ 10 0 5 0) ≤ v2 then ox_ev m_Mod_lay (ox_zz ox_ms (n + 1)) 77 0 tl [ox_d, ox_d, ox_d, ox_d] [] σ else ox_ev m_Mod_lay (ox_zz ox_ms (n + 1)) 19 0 tl [.inr (.inr (10, 0, 0)), .inl (v1), .inl (v2), ox_d] [] σ) rfl ?_
  refine ox_R_if (fun _ => ?_) (fun _ => ?_)
  · exact ox_R_map ((L_Mod_lay_77 σ n tl))
  · refine ox_R_to 9 (Y := if 0 ≤ v2 ∧ v2.toNat < 60 then ox_ev m_Mod_lay (ox_zz ox_ms (n + 1)) 32 0 tl [.inr (.inr (10, 0, 0)), .inl (v1), .inl (v2), ox_d] [.inl (σ 10 0 4 v2.toNat), .inl (ox_w (v1 + v2)), .inr (.inr (110, 0, 1))] σ else none) rfl ?_
    refine ox_R_if (fun _ => ?_) (fun _ => ox_R_none)
    refine ox_R_to 1 (Y := if 0 ≤ (ox_w (v1 + v2)) ∧ (ox_w (v1 + v2)).toNat < 60 then ox_ev m_Mod_lay (ox_zz ox_ms (n + 1)) 33 0 tl [.inr (.inr (10, 0, 0)), .inl (v1), .inl (v2), ox_d] [] (ox_up σ 10 0 1 ((ox_w (v1 + v2)).toNat) (σ 10 0 4 v2.toNat)) else none) rfl ?_
    refine ox_R_if (fun _ => ?_) (fun _ => ox_R_none)
    refine ox_R_to 2 (Y := ox_ev m_Mod_lay (ox_zz ox_ms (n + 1)) 35 0 tl [.inr (.inr (10, 0, 0)), .inl (v1), .inl (v2), .inl (0)] [] (ox_up σ 10 0 1 ((ox_w (v1 + v2)).toNat) (σ 10 0 4 v2.toNat))) rfl ?_
    exact (L_Mod_lay_35 v1 v2 0 (ox_up σ 10 0 1 ((ox_w (v1 + v2)).toNat) (σ 10 0 4 v2.toNat)) n tl)
def F_Mod_lay  (a1 : Int) (σ : ox_H) : Option (ox_H) := (F_Mod_open a1 (σ 10 0 5 0) σ).bind fun r1 => (J_Mod_lay_11 a1 0 r1)
theorem L_Mod_lay  (a1 : Int) (σ : ox_H) (n tl : Nat) : ox_R (fun r => some ((fun r : ox_H => ((.inl none, r) : ox_O)) r)) (F_Mod_lay a1 σ) (ox_zz ox_ms (n + 2) 92 tl [.inr (.inr (10, 0, 0)), .inl (a1)] σ) := by
  unfold F_Mod_lay
  refine ox_R_of (Y := ox_ev m_Mod_lay (ox_zz ox_ms (n + 1)) 0 0 tl [.inr (.inr (10, 0, 0)), .inl (a1), ox_d, ox_d] [] σ) rfl ?_
  refine ox_R_to 5 (Y := ox_back m_Mod_lay 6 0 [] ((ox_zz ox_ms (n + 1)) 64 tl [.inr (.inr (10, 0, 0)), .inl (a1), .inl (σ 10 0 5 0)] σ) (fun pc9 x9 st9 σ9 => ox_ev m_Mod_lay (ox_zz ox_ms (n + 1)) pc9 0 tl (ox_kl (m_Mod_lay.2.2.1 pc9) (ox_xl x9 [.inr (.inr (10, 0, 0)), .inl (a1), ox_d, ox_d])) st9 σ9)) rfl ?_
  refine ox_R_call (fc := (fun r : ox_H => ((.inl none, r) : ox_O))) (L_Mod_open a1 (σ 10 0 5 0) σ (n + 0) tl) (fun r1 => ?_)
  refine ox_R_of (Y := ox_ev m_Mod_lay (ox_zz ox_ms (n + 1)) 9 0 tl [.inr (.inr (10, 0, 0)), .inl (a1), ox_d, ox_d] [] r1) rfl ?_
  refine ox_R_to 2 (Y := ox_ev m_Mod_lay (ox_zz ox_ms (n + 1)) 11 0 tl [.inr (.inr (10, 0, 0)), .inl (a1), .inl (0), ox_d] [] r1) rfl ?_
  exact (L_Mod_lay_11 a1 0 r1 n tl)
def J_Mod_entryAt_22  (v2 : Int) (σ : ox_H) : Option (Int × ox_H) := some (v2, σ)
theorem L_Mod_entryAt_22  (v2 : Int) (σ : ox_H) (n tl : Nat) : ox_R (fun r => some ((fun r : Int × ox_H => ((.inl (some (.inl r.1)), r.2) : ox_O)) r)) (J_Mod_entryAt_22 v2 σ) (ox_ev m_Mod_entryAt (ox_zz ox_ms (n + 5)) 22 0 tl [ox_d, ox_d, .inl (v2)] [] σ) := by
  unfold J_Mod_entryAt_22
  refine ox_R_to 2 (Y := some (.inl (some (.inl (v2))), σ)) rfl ?_
  exact ox_R_ret rfl
def B_Mod_entryAt_6  (v1 : Int) (σ : ox_H) : (Int) → Option (((Int) ⊕ Int × ox_H)) := fun v2 => if 0 ≤ v2 ∧ v2.toNat < 61 then (if v1 ≤ (σ 10 0 21 v2.toNat) then ((J_Mod_entryAt_22 v2 σ).map .inr) else (some (.inl (ox_w (v2 + 1))))) else none
def J_Mod_entryAt_6  (v1 : Int) (v2 : Int) (σ : ox_H) : Option (Int × ox_H) := ox_lp (B_Mod_entryAt_6 v1 σ) ox_fu v2
theorem L_Mod_entryAt_6  (v1 : Int) (v2 : Int) (σ : ox_H) (n tl : Nat) : ox_R (fun r => some ((fun r : Int × ox_H => ((.inl (some (.inl r.1)), r.2) : ox_O)) r)) (J_Mod_entryAt_6 v1 v2 σ) (ox_ev m_Mod_entryAt (ox_zz ox_ms (n + 5)) 6 0 tl [.inr (.inr (10, 0, 0)), .inl (v1), .inl (v2)] [] σ) := by
  unfold J_Mod_entryAt_6
  refine ox_R_lp (ψ := (fun (v2 : Int) => ox_ev m_Mod_entryAt (ox_zz ox_ms (n + 5)) 6 0 tl [.inr (.inr (10, 0, 0)), .inl (v1), .inl (v2)] [] σ)) ?_ ox_fu v2
  intro s
  revert s; intro v2
  unfold B_Mod_entryAt_6
  refine ox_R_to 4 (Y := if 0 ≤ v2 ∧ v2.toNat < 61 then ox_ev m_Mod_entryAt (ox_zz ox_ms (n + 5)) 12 0 tl [.inr (.inr (10, 0, 0)), .inl (v1), .inl (v2)] [.inl (σ 10 0 21 v2.toNat)] σ else none) rfl ?_
  refine ox_R_if (fun _ => ?_) (fun _ => ox_R_none)
  refine ox_R_to 2 (Y := if v1 ≤ (σ 10 0 21 v2.toNat) then ox_ev m_Mod_entryAt (ox_zz ox_ms (n + 5)) 22 0 tl [ox_d, ox_d, .inl (v2)] [] σ else ox_ev m_Mod_entryAt (ox_zz ox_ms (n + 5)) 16 0 tl [.inr (.inr (10, 0, 0)), .inl (v1), .inl (v2)] [] σ) rfl ?_
  refine ox_R_if (fun _ => ?_) (fun _ => ?_)
  · exact ox_R_map ((L_Mod_entryAt_22 v2 σ n tl))
  · refine ox_R_to 2 (Y := ox_ev m_Mod_entryAt (ox_zz ox_ms (n + 5)) 6 0 tl [.inr (.inr (10, 0, 0)), .inl (v1), .inl (ox_w (v2 + 1))] [] σ) rfl ?_
    exact ox_R_ret rfl
def F_Mod_entryAt  (a1 : Int) (σ : ox_H) : Option (Int × ox_H) := (F_Mod_find σ).bind fun r1 => (J_Mod_entryAt_6 a1 0 r1)
theorem L_Mod_entryAt  (a1 : Int) (σ : ox_H) (n tl : Nat) : ox_R (fun r => some ((fun r : Int × ox_H => ((.inl (some (.inl r.1)), r.2) : ox_O)) r)) (F_Mod_entryAt a1 σ) (ox_zz ox_ms (n + 6) 93 tl [.inr (.inr (10, 0, 0)), .inl (a1)] σ) := by
  unfold F_Mod_entryAt
  refine ox_R_of (Y := ox_ev m_Mod_entryAt (ox_zz ox_ms (n + 5)) 0 0 tl [.inr (.inr (10, 0, 0)), .inl (a1), ox_d] [] σ) rfl ?_
  refine ox_R_to 2 (Y := ox_back m_Mod_entryAt 1 0 [] ((ox_zz ox_ms (n + 5)) 72 tl [.inr (.inr (10, 0, 0))] σ) (fun pc9 x9 st9 σ9 => ox_ev m_Mod_entryAt (ox_zz ox_ms (n + 5)) pc9 0 tl (ox_kl (m_Mod_entryAt.2.2.1 pc9) (ox_xl x9 [.inr (.inr (10, 0, 0)), .inl (a1), ox_d])) st9 σ9)) rfl ?_
  refine ox_R_call (fc := (fun r : ox_H => ((.inl none, r) : ox_O))) (L_Mod_find σ (n + 0) tl) (fun r1 => ?_)
  refine ox_R_of (Y := ox_ev m_Mod_entryAt (ox_zz ox_ms (n + 5)) 4 0 tl [.inr (.inr (10, 0, 0)), .inl (a1), ox_d] [] r1) rfl ?_
  refine ox_R_to 2 (Y := ox_ev m_Mod_entryAt (ox_zz ox_ms (n + 5)) 6 0 tl [.inr (.inr (10, 0, 0)), .inl (a1), .inl (0)] [] r1) rfl ?_
  exact (L_Mod_entryAt_6 a1 0 r1 n tl)
def J_Mod_refile_306  (v9 : Int) (σ : ox_H) : Option (Int × ox_H) := (F_Mod_entryAt v9 σ).bind fun r1 => (some (r1.1, r1.2))
theorem L_Mod_refile_306  (v9 : Int) (σ : ox_H) (n tl : Nat) : ox_R (fun r => some ((fun r : Int × ox_H => ((.inl (some (.inl r.1)), r.2) : ox_O)) r)) (J_Mod_refile_306 v9 σ) (ox_ev m_Mod_refile (ox_zz ox_ms (n + 7)) 306 0 tl [.inr (.inr (10, 0, 0)), ox_d, ox_d, ox_d, ox_d, ox_d, ox_d, ox_d, ox_d, .inl (v9), ox_d] [] σ) := by
  unfold J_Mod_refile_306
  refine ox_R_to 3 (Y := ox_back m_Mod_refile 309 1 [] ((ox_zz ox_ms (n + 7)) 93 tl [.inr (.inr (10, 0, 0)), .inl (v9)] σ) (fun pc9 x9 st9 σ9 => ox_ev m_Mod_refile (ox_zz ox_ms (n + 7)) pc9 0 tl (ox_kl (m_Mod_refile.2.2.1 pc9) (ox_xl x9 [.inr (.inr (10, 0, 0)), ox_d, ox_d, ox_d, ox_d, ox_d, ox_d, ox_d, ox_d, .inl (v9), ox_d])) st9 σ9)) rfl ?_
  refine ox_R_call (fc := (fun r : Int × ox_H => ((.inl (some (.inl r.1)), r.2) : ox_O))) (L_Mod_entryAt v9 σ (n + 1) tl) (fun r1 => ?_)
  refine ox_R_of (Y := ox_ev m_Mod_refile (ox_zz ox_ms (n + 7)) 312 0 tl [.inr (.inr (10, 0, 0)), ox_d, ox_d, ox_d, ox_d, ox_d, ox_d, ox_d, ox_d, .inl (v9), ox_d] [.inl (r1.1)] r1.2) rfl ?_
  refine ox_R_to 1 (Y := some (.inl (some (.inl (r1.1))), r1.2)) rfl ?_
  exact ox_R_ret rfl
def J_Mod_refile_300  (v6 : Int) (v8 : Int) (v9 : Int) (v10 : Int) (σ : ox_H) : Option (((Int × ox_H) ⊕ Int × ox_H)) := some (.inl (ox_w (v10 + 1), σ))
theorem L_Mod_refile_300  (v6 : Int) (v8 : Int) (v9 : Int) (v10 : Int) (σ : ox_H) (n tl : Nat) : ox_R (Sum.elim (fun (s : Int × ox_H) => match s with | (v10, σ) => ox_ev m_Mod_refile (ox_zz ox_ms (n + 7)) 273 0 tl [.inr (.inr (10, 0, 0)), ox_d, ox_d, ox_d, ox_d, ox_d, .inl (v6), ox_d, .inl (v8), .inl (v9), .inl (v10)] [] σ) (fun r => some ((fun r : Int × ox_H => ((.inl (some (.inl r.1)), r.2) : ox_O)) r))) (J_Mod_refile_300 v6 v8 v9 v10 σ) (ox_ev m_Mod_refile (ox_zz ox_ms (n + 7)) 300 0 tl [.inr (.inr (10, 0, 0)), ox_d, ox_d, ox_d, ox_d, ox_d, .inl (v6), ox_d, .inl (v8), .inl (v9), .inl (v10)] [] σ) := by
  unfold J_Mod_refile_300
  refine ox_R_to 2 (Y := ox_ev m_Mod_refile (ox_zz ox_ms (n + 7)) 273 0 tl [.inr (.inr (10, 0, 0)), ox_d, ox_d, ox_d, ox_d, ox_d, .inl (v6), ox_d, .inl (v8), .inl (v9), .inl (ox_w (v10 + 1))] [] σ) rfl ?_
  exact ox_R_ret rfl
def B_Mod_refile_273  (v6 : Int) (v8 : Int) (v9 : Int) : (Int × ox_H) → Option (((Int × ox_H) ⊕ Int × ox_H)) := fun (v10, σ) => if (ox_w (v9 + v8)) ≤ v10 then ((J_Mod_refile_306 v9 σ).map .inr) else ((F_Mod_heading v10 σ).bind fun r2 => (if r2.1 = 0 then (J_Mod_refile_300 v6 v8 v9 v10 r2.2) else ((F_Mod_star v10 v6 r2.2).bind fun r3 => (J_Mod_refile_300 v6 v8 v9 v10 r3))))
def J_Mod_refile_273  (v6 : Int) (v8 : Int) (v9 : Int) (v10 : Int) (σ : ox_H) : Option (Int × ox_H) := ox_lp (B_Mod_refile_273 v6 v8 v9) ox_fu (v10, σ)
theorem L_Mod_refile_273  (v6 : Int) (v8 : Int) (v9 : Int) (v10 : Int) (σ : ox_H) (n tl : Nat) : ox_R (fun r => some ((fun r : Int × ox_H => ((.inl (some (.inl r.1)), r.2) : ox_O)) r)) (J_Mod_refile_273 v6 v8 v9 v10 σ) (ox_ev m_Mod_refile (ox_zz ox_ms (n + 7)) 273 0 tl [.inr (.inr (10, 0, 0)), ox_d, ox_d, ox_d, ox_d, ox_d, .inl (v6), ox_d, .inl (v8), .inl (v9), .inl (v10)] [] σ) := by
  unfold J_Mod_refile_273
  refine ox_R_lp (ψ := (fun (s : Int × ox_H) => match s with | (v10, σ) => ox_ev m_Mod_refile (ox_zz ox_ms (n + 7)) 273 0 tl [.inr (.inr (10, 0, 0)), ox_d, ox_d, ox_d, ox_d, ox_d, .inl (v6), ox_d, .inl (v8), .inl (v9), .inl (v10)] [] σ)) ?_ ox_fu (v10, σ)
  intro s
  obtain ⟨v10, σ⟩ := s
  unfold B_Mod_refile_273
  refine ox_R_to 5 (Y := if (ox_w (v9 + v8)) ≤ v10 then ox_ev m_Mod_refile (ox_zz ox_ms (n + 7)) 306 0 tl [.inr (.inr (10, 0, 0)), ox_d, ox_d, ox_d, ox_d, ox_d, ox_d, ox_d, ox_d, .inl (v9), ox_d] [] σ else ox_ev m_Mod_refile (ox_zz ox_ms (n + 7)) 283 0 tl [.inr (.inr (10, 0, 0)), ox_d, ox_d, ox_d, ox_d, ox_d, .inl (v6), ox_d, .inl (v8), .inl (v9), .inl (v10)] [] σ) rfl ?_
  refine ox_R_if (fun _ => ?_) (fun _ => ?_)
  · exact ox_R_map ((L_Mod_refile_306 v9 σ n tl))
  · refine ox_R_to 3 (Y := ox_back m_Mod_refile 286 1 [] ((ox_zz ox_ms (n + 7)) 55 tl [.inr (.inr (10, 0, 0)), .inl (v10)] σ) (fun pc9 x9 st9 σ9 => ox_ev m_Mod_refile (ox_zz ox_ms (n + 7)) pc9 0 tl (ox_kl (m_Mod_refile.2.2.1 pc9) (ox_xl x9 [.inr (.inr (10, 0, 0)), ox_d, ox_d, ox_d, ox_d, ox_d, .inl (v6), ox_d, .inl (v8), .inl (v9), .inl (v10)])) st9 σ9)) rfl ?_
    refine ox_R_call (fc := (fun r : Int × ox_H => ((.inl (some (.inl r.1)), r.2) : ox_O))) (L_Mod_heading v10 σ (n + 3) tl) (fun r2 => ?_)
    refine ox_R_of (Y := ox_ev m_Mod_refile (ox_zz ox_ms (n + 7)) 289 0 tl [.inr (.inr (10, 0, 0)), ox_d, ox_d, ox_d, ox_d, ox_d, .inl (v6), ox_d, .inl (v8), .inl (v9), .inl (v10)] [.inl (r2.1)] r2.2) rfl ?_
    refine ox_R_to 1 (Y := if r2.1 = 0 then ox_ev m_Mod_refile (ox_zz ox_ms (n + 7)) 300 0 tl [.inr (.inr (10, 0, 0)), ox_d, ox_d, ox_d, ox_d, ox_d, .inl (v6), ox_d, .inl (v8), .inl (v9), .inl (v10)] [] r2.2 else ox_ev m_Mod_refile (ox_zz ox_ms (n + 7)) 292 0 tl [.inr (.inr (10, 0, 0)), ox_d, ox_d, ox_d, ox_d, ox_d, .inl (v6), ox_d, .inl (v8), .inl (v9), .inl (v10)] [] r2.2) rfl ?_
    refine ox_R_if (fun _ => ?_) (fun _ => ?_)
    · exact (L_Mod_refile_300 v6 v8 v9 v10 r2.2 n tl)
    · refine ox_R_to 4 (Y := ox_back m_Mod_refile 297 0 [] ((ox_zz ox_ms (n + 7)) 89 tl [.inr (.inr (10, 0, 0)), .inl (v10), .inl (v6)] r2.2) (fun pc9 x9 st9 σ9 => ox_ev m_Mod_refile (ox_zz ox_ms (n + 7)) pc9 0 tl (ox_kl (m_Mod_refile.2.2.1 pc9) (ox_xl x9 [.inr (.inr (10, 0, 0)), ox_d, ox_d, ox_d, ox_d, ox_d, .inl (v6), ox_d, .inl (v8), .inl (v9), .inl (v10)])) st9 σ9)) rfl ?_
      refine ox_R_call (fc := (fun r : ox_H => ((.inl none, r) : ox_O))) (L_Mod_star v10 v6 r2.2 (n + 5) tl) (fun r3 => ?_)
      refine ox_R_of (Y := ox_ev m_Mod_refile (ox_zz ox_ms (n + 7)) 300 0 tl [.inr (.inr (10, 0, 0)), ox_d, ox_d, ox_d, ox_d, ox_d, .inl (v6), ox_d, .inl (v8), .inl (v9), .inl (v10)] [] r3) rfl ?_
      exact (L_Mod_refile_300 v6 v8 v9 v10 r3 n tl)
def J_Mod_refile_263  (v6 : Int) (v8 : Int) (v9 : Int) (σ : ox_H) : Option (Int × ox_H) := (F_Mod_lay v9 σ).bind fun r4 => (J_Mod_refile_273 v6 v8 v9 v9 r4)
theorem L_Mod_refile_263  (v6 : Int) (v8 : Int) (v9 : Int) (σ : ox_H) (n tl : Nat) : ox_R (fun r => some ((fun r : Int × ox_H => ((.inl (some (.inl r.1)), r.2) : ox_O)) r)) (J_Mod_refile_263 v6 v8 v9 σ) (ox_ev m_Mod_refile (ox_zz ox_ms (n + 7)) 263 0 tl [.inr (.inr (10, 0, 0)), ox_d, ox_d, ox_d, ox_d, ox_d, .inl (v6), ox_d, .inl (v8), .inl (v9), ox_d] [] σ) := by
  unfold J_Mod_refile_263
  refine ox_R_to 3 (Y := ox_back m_Mod_refile 266 0 [] ((ox_zz ox_ms (n + 7)) 92 tl [.inr (.inr (10, 0, 0)), .inl (v9)] σ) (fun pc9 x9 st9 σ9 => ox_ev m_Mod_refile (ox_zz ox_ms (n + 7)) pc9 0 tl (ox_kl (m_Mod_refile.2.2.1 pc9) (ox_xl x9 [.inr (.inr (10, 0, 0)), ox_d, ox_d, ox_d, ox_d, ox_d, .inl (v6), ox_d, .inl (v8), .inl (v9), ox_d])) st9 σ9)) rfl ?_
  refine ox_R_call (fc := (fun r : ox_H => ((.inl none, r) : ox_O))) (L_Mod_lay v9 σ (n + 5) tl) (fun r4 => ?_)
  refine ox_R_of (Y := ox_ev m_Mod_refile (ox_zz ox_ms (n + 7)) 269 0 tl [.inr (.inr (10, 0, 0)), ox_d, ox_d, ox_d, ox_d, ox_d, .inl (v6), ox_d, .inl (v8), .inl (v9), ox_d] [] r4) rfl ?_
  refine ox_R_to 2 (Y := ox_ev m_Mod_refile (ox_zz ox_ms (n + 7)) 273 0 tl [.inr (.inr (10, 0, 0)), ox_d, ox_d, ox_d, ox_d, ox_d, .inl (v6), ox_d, .inl (v8), .inl (v9), .inl (v9)] [] r4) rfl ?_
  exact (L_Mod_refile_273 v6 v8 v9 v9 r4 n tl)
def J_Mod_refile_260  (v6 : Int) (v8 : Int) (s0 : Int) (s1 : Int) (σ : ox_H) : Option (Int × ox_H) := (J_Mod_refile_263 v6 v8 (ox_w (s1 - s0)) σ)
theorem L_Mod_refile_260  (v6 : Int) (v8 : Int) (s0 : Int) (s1 : Int) (σ : ox_H) (n tl : Nat) : ox_R (fun r => some ((fun r : Int × ox_H => ((.inl (some (.inl r.1)), r.2) : ox_O)) r)) (J_Mod_refile_260 v6 v8 s0 s1 σ) (ox_ev m_Mod_refile (ox_zz ox_ms (n + 7)) 260 0 tl [.inr (.inr (10, 0, 0)), ox_d, ox_d, ox_d, ox_d, ox_d, .inl (v6), ox_d, .inl (v8), ox_d, ox_d] [.inl (s0), .inl (s1)] σ) := by
  unfold J_Mod_refile_260
  refine ox_R_to 2 (Y := ox_ev m_Mod_refile (ox_zz ox_ms (n + 7)) 263 0 tl [.inr (.inr (10, 0, 0)), ox_d, ox_d, ox_d, ox_d, ox_d, .inl (v6), ox_d, .inl (v8), .inl (ox_w (s1 - s0)), ox_d] [] σ) rfl ?_
  exact (L_Mod_refile_263 v6 v8 (ox_w (s1 - s0)) σ n tl)
def J_Mod_refile_192  (v1 : Int) (v2 : Int) (v3 : Int) (v6 : Int) (s0 : Int) (σ : ox_H) : Option (Int × ox_H) := (F_Mod_holds s0 σ).bind fun r5 => (if r5.1 = 0 then (if 0 ≤ v1 ∧ v1.toNat < 61 then ((F_Mod_end v1 r5.2).bind fun r6 => ((F_Mod_end v2 r6.2).bind fun r7 => ((F_Mod_lift (r5.2 10 0 21 v1.toNat) (ox_w (r6.1 - (r5.2 10 0 21 v1.toNat))) r7.2).bind fun r8 => (if v3 = 0 then ((F_Mod_close (r5.2 10 0 21 v1.toNat) (ox_w (r6.1 - (r5.2 10 0 21 v1.toNat))) r8).bind fun r9 => (if r7.1 ≤ (r5.2 10 0 21 v1.toNat) then (J_Mod_refile_260 v6 (ox_w (r6.1 - (r5.2 10 0 21 v1.toNat))) 0 r7.1 r9) else (J_Mod_refile_260 v6 (ox_w (r6.1 - (r5.2 10 0 21 v1.toNat))) (ox_w (r6.1 - (r5.2 10 0 21 v1.toNat))) r7.1 r9))) else (J_Mod_refile_263 v6 (ox_w (r6.1 - (r5.2 10 0 21 v1.toNat))) r7.1 r8))))) else none) else (some ((-1), r5.2)))
theorem L_Mod_refile_192  (v1 : Int) (v2 : Int) (v3 : Int) (v6 : Int) (s0 : Int) (σ : ox_H) (n tl : Nat) : ox_R (fun r => some ((fun r : Int × ox_H => ((.inl (some (.inl r.1)), r.2) : ox_O)) r)) (J_Mod_refile_192 v1 v2 v3 v6 s0 σ) (ox_ev m_Mod_refile (ox_zz ox_ms (n + 7)) 192 0 tl [.inr (.inr (10, 0, 0)), .inl (v1), .inl (v2), .inl (v3), ox_d, ox_d, .inl (v6), ox_d, ox_d, ox_d, ox_d] [.inl (s0), .inr (.inr (10, 0, 0))] σ) := by
  unfold J_Mod_refile_192
  refine ox_R_to 1 (Y := ox_back m_Mod_refile 192 1 [] ((ox_zz ox_ms (n + 7)) 43 tl [.inr (.inr (10, 0, 0)), .inl (s0)] σ) (fun pc9 x9 st9 σ9 => ox_ev m_Mod_refile (ox_zz ox_ms (n + 7)) pc9 0 tl (ox_kl (m_Mod_refile.2.2.1 pc9) (ox_xl x9 [.inr (.inr (10, 0, 0)), .inl (v1), .inl (v2), .inl (v3), ox_d, ox_d, .inl (v6), ox_d, ox_d, ox_d, ox_d])) st9 σ9)) rfl ?_
  refine ox_R_call (fc := (fun r : Int × ox_H => ((.inl (some (.inl r.1)), r.2) : ox_O))) (L_Mod_holds s0 σ (n + 6) tl) (fun r5 => ?_)
  refine ox_R_of (Y := ox_ev m_Mod_refile (ox_zz ox_ms (n + 7)) 195 0 tl [.inr (.inr (10, 0, 0)), .inl (v1), .inl (v2), .inl (v3), ox_d, ox_d, .inl (v6), ox_d, ox_d, ox_d, ox_d] [.inl (r5.1)] r5.2) rfl ?_
  refine ox_R_to 1 (Y := if r5.1 = 0 then ox_ev m_Mod_refile (ox_zz ox_ms (n + 7)) 200 0 tl [.inr (.inr (10, 0, 0)), .inl (v1), .inl (v2), .inl (v3), ox_d, ox_d, .inl (v6), ox_d, ox_d, ox_d, ox_d] [] r5.2 else ox_ev m_Mod_refile (ox_zz ox_ms (n + 7)) 198 0 tl [.inr (.inr (10, 0, 0)), .inl (v1), .inl (v2), .inl (v3), ox_d, ox_d, .inl (v6), ox_d, ox_d, ox_d, ox_d] [] r5.2) rfl ?_
  refine ox_R_if (fun _ => ?_) (fun _ => ?_)
  · refine ox_R_to 4 (Y := if 0 ≤ v1 ∧ v1.toNat < 61 then ox_ev m_Mod_refile (ox_zz ox_ms (n + 7)) 206 0 tl [.inr (.inr (10, 0, 0)), .inl (v1), .inl (v2), .inl (v3), ox_d, ox_d, .inl (v6), ox_d, ox_d, ox_d, ox_d] [.inl (r5.2 10 0 21 v1.toNat)] r5.2 else none) rfl ?_
    refine ox_R_if (fun _ => ?_) (fun _ => ox_R_none)
    refine ox_R_to 4 (Y := ox_back m_Mod_refile 210 1 [] ((ox_zz ox_ms (n + 7)) 78 tl [.inr (.inr (10, 0, 0)), .inl (v1)] r5.2) (fun pc9 x9 st9 σ9 => ox_ev m_Mod_refile (ox_zz ox_ms (n + 7)) pc9 0 tl (ox_kl (m_Mod_refile.2.2.1 pc9) (ox_xl x9 [.inr (.inr (10, 0, 0)), .inl (v1), .inl (v2), .inl (v3), ox_d, ox_d, .inl (v6), .inl (r5.2 10 0 21 v1.toNat), ox_d, ox_d, ox_d])) st9 σ9)) rfl ?_
    refine ox_R_call (fc := (fun r : Int × ox_H => ((.inl (some (.inl r.1)), r.2) : ox_O))) (L_Mod_end v1 r5.2 (n + 0) tl) (fun r6 => ?_)
    refine ox_R_of (Y := ox_ev m_Mod_refile (ox_zz ox_ms (n + 7)) 213 0 tl [.inr (.inr (10, 0, 0)), .inl (v1), .inl (v2), .inl (v3), ox_d, ox_d, .inl (v6), .inl (r5.2 10 0 21 v1.toNat), ox_d, ox_d, ox_d] [.inl (r6.1)] r6.2) rfl ?_
    refine ox_R_to 6 (Y := ox_back m_Mod_refile 220 1 [] ((ox_zz ox_ms (n + 7)) 78 tl [.inr (.inr (10, 0, 0)), .inl (v2)] r6.2) (fun pc9 x9 st9 σ9 => ox_ev m_Mod_refile (ox_zz ox_ms (n + 7)) pc9 0 tl (ox_kl (m_Mod_refile.2.2.1 pc9) (ox_xl x9 [.inr (.inr (10, 0, 0)), .inl (v1), .inl (v2), .inl (v3), ox_d, ox_d, .inl (v6), .inl (r5.2 10 0 21 v1.toNat), .inl (ox_w (r6.1 - (r5.2 10 0 21 v1.toNat))), ox_d, ox_d])) st9 σ9)) rfl ?_
    refine ox_R_call (fc := (fun r : Int × ox_H => ((.inl (some (.inl r.1)), r.2) : ox_O))) (L_Mod_end v2 r6.2 (n + 0) tl) (fun r7 => ?_)
    refine ox_R_of (Y := ox_ev m_Mod_refile (ox_zz ox_ms (n + 7)) 223 0 tl [.inr (.inr (10, 0, 0)), .inl (v1), .inl (v2), .inl (v3), ox_d, ox_d, .inl (v6), .inl (r5.2 10 0 21 v1.toNat), .inl (ox_w (r6.1 - (r5.2 10 0 21 v1.toNat))), ox_d, ox_d] [.inl (r7.1)] r7.2) rfl ?_
    refine ox_R_to 5 (Y := ox_back m_Mod_refile 230 0 [] ((ox_zz ox_ms (n + 7)) 91 tl [.inr (.inr (10, 0, 0)), .inl (r5.2 10 0 21 v1.toNat), .inl (ox_w (r6.1 - (r5.2 10 0 21 v1.toNat)))] r7.2) (fun pc9 x9 st9 σ9 => ox_ev m_Mod_refile (ox_zz ox_ms (n + 7)) pc9 0 tl (ox_kl (m_Mod_refile.2.2.1 pc9) (ox_xl x9 [.inr (.inr (10, 0, 0)), .inl (v1), .inl (v2), .inl (v3), ox_d, ox_d, .inl (v6), .inl (r5.2 10 0 21 v1.toNat), .inl (ox_w (r6.1 - (r5.2 10 0 21 v1.toNat))), .inl (r7.1), ox_d])) st9 σ9)) rfl ?_
    refine ox_R_call (fc := (fun r : ox_H => ((.inl none, r) : ox_O))) (L_Mod_lift (r5.2 10 0 21 v1.toNat) (ox_w (r6.1 - (r5.2 10 0 21 v1.toNat))) r7.2 (n + 6) tl) (fun r8 => ?_)
    refine ox_R_of (Y := ox_ev m_Mod_refile (ox_zz ox_ms (n + 7)) 233 0 tl [.inr (.inr (10, 0, 0)), .inl (v1), .inl (v2), .inl (v3), ox_d, ox_d, .inl (v6), .inl (r5.2 10 0 21 v1.toNat), .inl (ox_w (r6.1 - (r5.2 10 0 21 v1.toNat))), .inl (r7.1), ox_d] [] r8) rfl ?_
    refine ox_R_to 2 (Y := if v3 = 0 then ox_ev m_Mod_refile (ox_zz ox_ms (n + 7)) 237 0 tl [.inr (.inr (10, 0, 0)), .inl (v1), .inl (v2), .inl (v3), ox_d, ox_d, .inl (v6), .inl (r5.2 10 0 21 v1.toNat), .inl (ox_w (r6.1 - (r5.2 10 0 21 v1.toNat))), .inl (r7.1), ox_d] [] r8 else ox_ev m_Mod_refile (ox_zz ox_ms (n + 7)) 263 0 tl [.inr (.inr (10, 0, 0)), ox_d, ox_d, ox_d, ox_d, ox_d, .inl (v6), ox_d, .inl (ox_w (r6.1 - (r5.2 10 0 21 v1.toNat))), .inl (r7.1), ox_d] [] r8) rfl ?_
    refine ox_R_if (fun _ => ?_) (fun _ => ?_)
    · refine ox_R_to 4 (Y := ox_back m_Mod_refile 242 0 [] ((ox_zz ox_ms (n + 7)) 65 tl [.inr (.inr (10, 0, 0)), .inl (r5.2 10 0 21 v1.toNat), .inl (ox_w (r6.1 - (r5.2 10 0 21 v1.toNat)))] r8) (fun pc9 x9 st9 σ9 => ox_ev m_Mod_refile (ox_zz ox_ms (n + 7)) pc9 0 tl (ox_kl (m_Mod_refile.2.2.1 pc9) (ox_xl x9 [.inr (.inr (10, 0, 0)), .inl (v1), .inl (v2), .inl (v3), ox_d, ox_d, .inl (v6), .inl (r5.2 10 0 21 v1.toNat), .inl (ox_w (r6.1 - (r5.2 10 0 21 v1.toNat))), .inl (r7.1), ox_d])) st9 σ9)) rfl ?_
      refine ox_R_call (fc := (fun r : ox_H => ((.inl none, r) : ox_O))) (L_Mod_close (r5.2 10 0 21 v1.toNat) (ox_w (r6.1 - (r5.2 10 0 21 v1.toNat))) r8 (n + 6) tl) (fun r9 => ?_)
      refine ox_R_of (Y := ox_ev m_Mod_refile (ox_zz ox_ms (n + 7)) 245 0 tl [.inr (.inr (10, 0, 0)), .inl (v1), .inl (v2), .inl (v3), ox_d, ox_d, .inl (v6), .inl (r5.2 10 0 21 v1.toNat), .inl (ox_w (r6.1 - (r5.2 10 0 21 v1.toNat))), .inl (r7.1), ox_d] [] r9) rfl ?_
      refine ox_R_to 4 (Y := if r7.1 ≤ (r5.2 10 0 21 v1.toNat) then ox_ev m_Mod_refile (ox_zz ox_ms (n + 7)) 259 0 tl [.inr (.inr (10, 0, 0)), .inl (v1), .inl (v2), .inl (v3), ox_d, ox_d, .inl (v6), .inl (r5.2 10 0 21 v1.toNat), .inl (ox_w (r6.1 - (r5.2 10 0 21 v1.toNat))), .inl (r7.1), ox_d] [.inl (r7.1)] r9 else ox_ev m_Mod_refile (ox_zz ox_ms (n + 7)) 254 0 tl [.inr (.inr (10, 0, 0)), .inl (v1), .inl (v2), .inl (v3), ox_d, ox_d, .inl (v6), .inl (r5.2 10 0 21 v1.toNat), .inl (ox_w (r6.1 - (r5.2 10 0 21 v1.toNat))), .inl (r7.1), ox_d] [.inl (r7.1)] r9) rfl ?_
      refine ox_R_if (fun _ => ?_) (fun _ => ?_)
      · refine ox_R_to 1 (Y := ox_ev m_Mod_refile (ox_zz ox_ms (n + 7)) 260 0 tl [.inr (.inr (10, 0, 0)), ox_d, ox_d, ox_d, ox_d, ox_d, .inl (v6), ox_d, .inl (ox_w (r6.1 - (r5.2 10 0 21 v1.toNat))), ox_d, ox_d] [.inl (0), .inl (r7.1)] r9) rfl ?_
        exact (L_Mod_refile_260 v6 (ox_w (r6.1 - (r5.2 10 0 21 v1.toNat))) 0 r7.1 r9 n tl)
      · refine ox_R_to 2 (Y := ox_ev m_Mod_refile (ox_zz ox_ms (n + 7)) 260 0 tl [.inr (.inr (10, 0, 0)), ox_d, ox_d, ox_d, ox_d, ox_d, .inl (v6), ox_d, .inl (ox_w (r6.1 - (r5.2 10 0 21 v1.toNat))), ox_d, ox_d] [.inl (ox_w (r6.1 - (r5.2 10 0 21 v1.toNat))), .inl (r7.1)] r9) rfl ?_
        exact (L_Mod_refile_260 v6 (ox_w (r6.1 - (r5.2 10 0 21 v1.toNat))) (ox_w (r6.1 - (r5.2 10 0 21 v1.toNat))) r7.1 r9 n tl)
    · exact (L_Mod_refile_263 v6 (ox_w (r6.1 - (r5.2 10 0 21 v1.toNat))) r7.1 r8 n tl)
  · refine ox_R_to 2 (Y := some (.inl (some (.inl ((-1)))), r5.2)) rfl ?_
    exact ox_R_ret rfl
def J_Mod_refile_172  (v1 : Int) (v2 : Int) (v3 : Int) (v4 : Int) (v5 : Int) (v6 : Int) (σ : ox_H) : Option (Int × ox_H) := if v4 = 0 then (J_Mod_refile_192 v1 v2 v3 v6 1 σ) else (if v5 = 0 then (J_Mod_refile_192 v1 v2 v3 v6 0 σ) else (J_Mod_refile_192 v1 v2 v3 v6 2 σ))
theorem L_Mod_refile_172  (v1 : Int) (v2 : Int) (v3 : Int) (v4 : Int) (v5 : Int) (v6 : Int) (σ : ox_H) (n tl : Nat) : ox_R (fun r => some ((fun r : Int × ox_H => ((.inl (some (.inl r.1)), r.2) : ox_O)) r)) (J_Mod_refile_172 v1 v2 v3 v4 v5 v6 σ) (ox_ev m_Mod_refile (ox_zz ox_ms (n + 7)) 172 0 tl [.inr (.inr (10, 0, 0)), .inl (v1), .inl (v2), .inl (v3), .inl (v4), .inl (v5), .inl (v6), ox_d, ox_d, ox_d, ox_d] [] σ) := by
  unfold J_Mod_refile_172
  refine ox_R_to 3 (Y := if v4 = 0 then ox_ev m_Mod_refile (ox_zz ox_ms (n + 7)) 178 0 tl [.inr (.inr (10, 0, 0)), .inl (v1), .inl (v2), .inl (v3), .inl (v4), .inl (v5), .inl (v6), ox_d, ox_d, ox_d, ox_d] [.inr (.inr (10, 0, 0))] σ else ox_ev m_Mod_refile (ox_zz ox_ms (n + 7)) 182 0 tl [.inr (.inr (10, 0, 0)), .inl (v1), .inl (v2), .inl (v3), .inl (v4), .inl (v5), .inl (v6), ox_d, ox_d, ox_d, ox_d] [.inr (.inr (10, 0, 0))] σ) rfl ?_
  refine ox_R_if (fun _ => ?_) (fun _ => ?_)
  · refine ox_R_to 2 (Y := ox_ev m_Mod_refile (ox_zz ox_ms (n + 7)) 192 0 tl [.inr (.inr (10, 0, 0)), .inl (v1), .inl (v2), .inl (v3), ox_d, ox_d, .inl (v6), ox_d, ox_d, ox_d, ox_d] [.inl (1), .inr (.inr (10, 0, 0))] σ) rfl ?_
    exact (L_Mod_refile_192 v1 v2 v3 v6 1 σ n tl)
  · refine ox_R_to 2 (Y := if v5 = 0 then ox_ev m_Mod_refile (ox_zz ox_ms (n + 7)) 191 0 tl [.inr (.inr (10, 0, 0)), .inl (v1), .inl (v2), .inl (v3), .inl (v4), .inl (v5), .inl (v6), ox_d, ox_d, ox_d, ox_d] [.inr (.inr (10, 0, 0))] σ else ox_ev m_Mod_refile (ox_zz ox_ms (n + 7)) 187 0 tl [.inr (.inr (10, 0, 0)), .inl (v1), .inl (v2), .inl (v3), .inl (v4), .inl (v5), .inl (v6), ox_d, ox_d, ox_d, ox_d] [.inr (.inr (10, 0, 0))] σ) rfl ?_
    refine ox_R_if (fun _ => ?_) (fun _ => ?_)
    · refine ox_R_to 1 (Y := ox_ev m_Mod_refile (ox_zz ox_ms (n + 7)) 192 0 tl [.inr (.inr (10, 0, 0)), .inl (v1), .inl (v2), .inl (v3), ox_d, ox_d, .inl (v6), ox_d, ox_d, ox_d, ox_d] [.inl (0), .inr (.inr (10, 0, 0))] σ) rfl ?_
      exact (L_Mod_refile_192 v1 v2 v3 v6 0 σ n tl)
    · refine ox_R_to 2 (Y := ox_ev m_Mod_refile (ox_zz ox_ms (n + 7)) 192 0 tl [.inr (.inr (10, 0, 0)), .inl (v1), .inl (v2), .inl (v3), ox_d, ox_d, .inl (v6), ox_d, ox_d, ox_d, ox_d] [.inl (2), .inr (.inr (10, 0, 0))] σ) rfl ?_
      exact (L_Mod_refile_192 v1 v2 v3 v6 2 σ n tl)
def J_Mod_refile_169  (v1 : Int) (v2 : Int) (v3 : Int) (v4 : Int) (v6 : Int) (s0 : Int) (s1 : Int) (σ : ox_H) : Option (Int × ox_H) := (J_Mod_refile_172 v1 v2 v3 v4 (ox_or s1 s0) v6 σ)
theorem L_Mod_refile_169  (v1 : Int) (v2 : Int) (v3 : Int) (v4 : Int) (v6 : Int) (s0 : Int) (s1 : Int) (σ : ox_H) (n tl : Nat) : ox_R (fun r => some ((fun r : Int × ox_H => ((.inl (some (.inl r.1)), r.2) : ox_O)) r)) (J_Mod_refile_169 v1 v2 v3 v4 v6 s0 s1 σ) (ox_ev m_Mod_refile (ox_zz ox_ms (n + 7)) 169 0 tl [.inr (.inr (10, 0, 0)), .inl (v1), .inl (v2), .inl (v3), .inl (v4), ox_d, .inl (v6), ox_d, ox_d, ox_d, ox_d] [.inl (s0), .inl (s1)] σ) := by
  unfold J_Mod_refile_169
  refine ox_R_to 2 (Y := ox_ev m_Mod_refile (ox_zz ox_ms (n + 7)) 172 0 tl [.inr (.inr (10, 0, 0)), .inl (v1), .inl (v2), .inl (v3), .inl (v4), .inl (ox_or s1 s0), .inl (v6), ox_d, ox_d, ox_d, ox_d] [] σ) rfl ?_
  exact (L_Mod_refile_172 v1 v2 v3 v4 (ox_or s1 s0) v6 σ n tl)
def J_Mod_refile_168  (v1 : Int) (v2 : Int) (v3 : Int) (v4 : Int) (v6 : Int) (s0 : Int) (σ : ox_H) : Option (Int × ox_H) := (J_Mod_refile_169 v1 v2 v3 v4 v6 0 s0 σ)
theorem L_Mod_refile_168  (v1 : Int) (v2 : Int) (v3 : Int) (v4 : Int) (v6 : Int) (s0 : Int) (σ : ox_H) (n tl : Nat) : ox_R (fun r => some ((fun r : Int × ox_H => ((.inl (some (.inl r.1)), r.2) : ox_O)) r)) (J_Mod_refile_168 v1 v2 v3 v4 v6 s0 σ) (ox_ev m_Mod_refile (ox_zz ox_ms (n + 7)) 168 0 tl [.inr (.inr (10, 0, 0)), .inl (v1), .inl (v2), .inl (v3), .inl (v4), ox_d, .inl (v6), ox_d, ox_d, ox_d, ox_d] [.inl (s0)] σ) := by
  unfold J_Mod_refile_168
  refine ox_R_to 1 (Y := ox_ev m_Mod_refile (ox_zz ox_ms (n + 7)) 169 0 tl [.inr (.inr (10, 0, 0)), .inl (v1), .inl (v2), .inl (v3), .inl (v4), ox_d, .inl (v6), ox_d, ox_d, ox_d, ox_d] [.inl (0), .inl (s0)] σ) rfl ?_
  exact (L_Mod_refile_169 v1 v2 v3 v4 v6 0 s0 σ n tl)
def J_Mod_refile_136  (v1 : Int) (v2 : Int) (v3 : Int) (v4 : Int) (v5 : Int) (v6 : Int) (σ : ox_H) : Option (Int × ox_H) := if v3 = 0 then (J_Mod_refile_168 v1 v2 v3 v4 v6 v5 σ) else ((F_Mod_end v1 σ).bind fun r10 => (if 0 ≤ v1 ∧ v1.toNat < 61 then (if (ox_w ((ox_w ((σ 10 0 2 0) + r10.1)) - (r10.2 10 0 21 v1.toNat))) ≤ 60 then (J_Mod_refile_168 v1 v2 v3 v4 v6 v5 r10.2) else (J_Mod_refile_169 v1 v2 v3 v4 v6 1 v5 r10.2)) else none))
theorem L_Mod_refile_136  (v1 : Int) (v2 : Int) (v3 : Int) (v4 : Int) (v5 : Int) (v6 : Int) (σ : ox_H) (n tl : Nat) : ox_R (fun r => some ((fun r : Int × ox_H => ((.inl (some (.inl r.1)), r.2) : ox_O)) r)) (J_Mod_refile_136 v1 v2 v3 v4 v5 v6 σ) (ox_ev m_Mod_refile (ox_zz ox_ms (n + 7)) 136 0 tl [.inr (.inr (10, 0, 0)), .inl (v1), .inl (v2), .inl (v3), .inl (v4), .inl (v5), .inl (v6), ox_d, ox_d, ox_d, ox_d] [] σ) := by
  unfold J_Mod_refile_136
  refine ox_R_to 3 (Y := if v3 = 0 then ox_ev m_Mod_refile (ox_zz ox_ms (n + 7)) 168 0 tl [.inr (.inr (10, 0, 0)), .inl (v1), .inl (v2), .inl (v3), .inl (v4), ox_d, .inl (v6), ox_d, ox_d, ox_d, ox_d] [.inl (v5)] σ else ox_ev m_Mod_refile (ox_zz ox_ms (n + 7)) 142 0 tl [.inr (.inr (10, 0, 0)), .inl (v1), .inl (v2), .inl (v3), .inl (v4), .inl (v5), .inl (v6), ox_d, ox_d, ox_d, ox_d] [.inl (v5)] σ) rfl ?_
  refine ox_R_if (fun _ => ?_) (fun _ => ?_)
  · exact (L_Mod_refile_168 v1 v2 v3 v4 v6 v5 σ n tl)
  · refine ox_R_to 5 (Y := ox_back m_Mod_refile 148 1 [.inl (σ 10 0 2 0), .inl (v5)] ((ox_zz ox_ms (n + 7)) 78 tl [.inr (.inr (10, 0, 0)), .inl (v1)] σ) (fun pc9 x9 st9 σ9 => ox_ev m_Mod_refile (ox_zz ox_ms (n + 7)) pc9 0 tl (ox_kl (m_Mod_refile.2.2.1 pc9) (ox_xl x9 [.inr (.inr (10, 0, 0)), .inl (v1), .inl (v2), .inl (v3), .inl (v4), .inl (v5), .inl (v6), ox_d, ox_d, ox_d, ox_d])) st9 σ9)) rfl ?_
    refine ox_R_call (fc := (fun r : Int × ox_H => ((.inl (some (.inl r.1)), r.2) : ox_O))) (L_Mod_end v1 σ (n + 0) tl) (fun r10 => ?_)
    refine ox_R_of (Y := ox_ev m_Mod_refile (ox_zz ox_ms (n + 7)) 151 0 tl [.inr (.inr (10, 0, 0)), .inl (v1), .inl (v2), .inl (v3), .inl (v4), .inl (v5), .inl (v6), ox_d, ox_d, ox_d, ox_d] [.inl (r10.1), .inl (σ 10 0 2 0), .inl (v5)] r10.2) rfl ?_
    refine ox_R_to 5 (Y := if 0 ≤ v1 ∧ v1.toNat < 61 then ox_ev m_Mod_refile (ox_zz ox_ms (n + 7)) 158 0 tl [.inr (.inr (10, 0, 0)), .inl (v1), .inl (v2), .inl (v3), .inl (v4), .inl (v5), .inl (v6), ox_d, ox_d, ox_d, ox_d] [.inl (r10.2 10 0 21 v1.toNat), .inl (ox_w ((σ 10 0 2 0) + r10.1)), .inl (v5)] r10.2 else none) rfl ?_
    refine ox_R_if (fun _ => ?_) (fun _ => ox_R_none)
    refine ox_R_to 3 (Y := if (ox_w ((ox_w ((σ 10 0 2 0) + r10.1)) - (r10.2 10 0 21 v1.toNat))) ≤ 60 then ox_ev m_Mod_refile (ox_zz ox_ms (n + 7)) 168 0 tl [.inr (.inr (10, 0, 0)), .inl (v1), .inl (v2), .inl (v3), .inl (v4), ox_d, .inl (v6), ox_d, ox_d, ox_d, ox_d] [.inl (v5)] r10.2 else ox_ev m_Mod_refile (ox_zz ox_ms (n + 7)) 164 0 tl [.inr (.inr (10, 0, 0)), .inl (v1), .inl (v2), .inl (v3), .inl (v4), .inl (v5), .inl (v6), ox_d, ox_d, ox_d, ox_d] [.inl (v5)] r10.2) rfl ?_
    refine ox_R_if (fun _ => ?_) (fun _ => ?_)
    · exact (L_Mod_refile_168 v1 v2 v3 v4 v6 v5 r10.2 n tl)
    · refine ox_R_to 2 (Y := ox_ev m_Mod_refile (ox_zz ox_ms (n + 7)) 169 0 tl [.inr (.inr (10, 0, 0)), .inl (v1), .inl (v2), .inl (v3), .inl (v4), ox_d, .inl (v6), ox_d, ox_d, ox_d, ox_d] [.inl (1), .inl (v5)] r10.2) rfl ?_
      exact (L_Mod_refile_169 v1 v2 v3 v4 v6 1 v5 r10.2 n tl)
def J_Mod_refile_127  (v1 : Int) (v2 : Int) (v3 : Int) (v4 : Int) (v6 : Int) (v7 : Int) (v8 : Int) (s0 : Int) (s1 : Int) (σ : ox_H) : Option (((Int × Int × ox_H) ⊕ Int × ox_H)) := some (.inl (ox_or s1 s0, ox_w (v8 + 1), σ))
theorem L_Mod_refile_127  (v1 : Int) (v2 : Int) (v3 : Int) (v4 : Int) (v6 : Int) (v7 : Int) (v8 : Int) (s0 : Int) (s1 : Int) (σ : ox_H) (n tl : Nat) : ox_R (Sum.elim (fun (s : Int × Int × ox_H) => match s with | (v5, v8, σ) => ox_ev m_Mod_refile (ox_zz ox_ms (n + 7)) 80 0 tl [.inr (.inr (10, 0, 0)), .inl (v1), .inl (v2), .inl (v3), .inl (v4), .inl (v5), .inl (v6), .inl (v7), .inl (v8), ox_d, ox_d] [] σ) (fun r => some ((fun r : Int × ox_H => ((.inl (some (.inl r.1)), r.2) : ox_O)) r))) (J_Mod_refile_127 v1 v2 v3 v4 v6 v7 v8 s0 s1 σ) (ox_ev m_Mod_refile (ox_zz ox_ms (n + 7)) 127 0 tl [.inr (.inr (10, 0, 0)), .inl (v1), .inl (v2), .inl (v3), .inl (v4), ox_d, .inl (v6), .inl (v7), .inl (v8), ox_d, ox_d] [.inl (s0), .inl (s1)] σ) := by
  unfold J_Mod_refile_127
  refine ox_R_to 4 (Y := ox_ev m_Mod_refile (ox_zz ox_ms (n + 7)) 80 0 tl [.inr (.inr (10, 0, 0)), .inl (v1), .inl (v2), .inl (v3), .inl (v4), .inl (ox_or s1 s0), .inl (v6), .inl (v7), .inl (ox_w (v8 + 1)), ox_d, ox_d] [] σ) rfl ?_
  exact ox_R_ret rfl
def J_Mod_refile_122  (v1 : Int) (v2 : Int) (v3 : Int) (v4 : Int) (v6 : Int) (v7 : Int) (v8 : Int) (s0 : Int) (σ : ox_H) : Option (((Int × Int × ox_H) ⊕ Int × ox_H)) := (J_Mod_refile_127 v1 v2 v3 v4 v6 v7 v8 1 s0 σ)
theorem L_Mod_refile_122  (v1 : Int) (v2 : Int) (v3 : Int) (v4 : Int) (v6 : Int) (v7 : Int) (v8 : Int) (s0 : Int) (σ : ox_H) (n tl : Nat) : ox_R (Sum.elim (fun (s : Int × Int × ox_H) => match s with | (v5, v8, σ) => ox_ev m_Mod_refile (ox_zz ox_ms (n + 7)) 80 0 tl [.inr (.inr (10, 0, 0)), .inl (v1), .inl (v2), .inl (v3), .inl (v4), .inl (v5), .inl (v6), .inl (v7), .inl (v8), ox_d, ox_d] [] σ) (fun r => some ((fun r : Int × ox_H => ((.inl (some (.inl r.1)), r.2) : ox_O)) r))) (J_Mod_refile_122 v1 v2 v3 v4 v6 v7 v8 s0 σ) (ox_ev m_Mod_refile (ox_zz ox_ms (n + 7)) 122 0 tl [.inr (.inr (10, 0, 0)), .inl (v1), .inl (v2), .inl (v3), .inl (v4), ox_d, .inl (v6), .inl (v7), .inl (v8), ox_d, ox_d] [.inl (s0)] σ) := by
  unfold J_Mod_refile_122
  refine ox_R_to 2 (Y := ox_ev m_Mod_refile (ox_zz ox_ms (n + 7)) 127 0 tl [.inr (.inr (10, 0, 0)), .inl (v1), .inl (v2), .inl (v3), .inl (v4), ox_d, .inl (v6), .inl (v7), .inl (v8), ox_d, ox_d] [.inl (1), .inl (s0)] σ) rfl ?_
  exact (L_Mod_refile_127 v1 v2 v3 v4 v6 v7 v8 1 s0 σ n tl)
def B_Mod_refile_80  (v1 : Int) (v2 : Int) (v3 : Int) (v4 : Int) (v6 : Int) (v7 : Int) : (Int × Int × ox_H) → Option (((Int × Int × ox_H) ⊕ Int × ox_H)) := fun (v5, v8, σ) => if v7 ≤ v8 then ((J_Mod_refile_136 v1 v2 v3 v4 v5 v6 σ).map .inr) else ((F_Mod_level v8 σ).bind fun r11 => (if 5 < (ox_w (r11.1 + v6)) then (J_Mod_refile_122 v1 v2 v3 v4 v6 v7 v8 v5 r11.2) else (if 0 ≤ v8 ∧ v8.toNat < 61 then (if 0 ≤ (r11.2 10 0 21 v8.toNat) ∧ (r11.2 10 0 21 v8.toNat).toNat < 60 then (if (ox_w ((r11.2 10 0 1 ((r11.2 10 0 21 v8.toNat).toNat)) + v6)) ≤ 24 then (J_Mod_refile_127 v1 v2 v3 v4 v6 v7 v8 0 v5 r11.2) else (J_Mod_refile_122 v1 v2 v3 v4 v6 v7 v8 v5 r11.2)) else none) else none)))
def J_Mod_refile_80  (v1 : Int) (v2 : Int) (v3 : Int) (v4 : Int) (v5 : Int) (v6 : Int) (v7 : Int) (v8 : Int) (σ : ox_H) : Option (Int × ox_H) := ox_lp (B_Mod_refile_80 v1 v2 v3 v4 v6 v7) ox_fu (v5, v8, σ)
theorem L_Mod_refile_80  (v1 : Int) (v2 : Int) (v3 : Int) (v4 : Int) (v5 : Int) (v6 : Int) (v7 : Int) (v8 : Int) (σ : ox_H) (n tl : Nat) : ox_R (fun r => some ((fun r : Int × ox_H => ((.inl (some (.inl r.1)), r.2) : ox_O)) r)) (J_Mod_refile_80 v1 v2 v3 v4 v5 v6 v7 v8 σ) (ox_ev m_Mod_refile (ox_zz ox_ms (n + 7)) 80 0 tl [.inr (.inr (10, 0, 0)), .inl (v1), .inl (v2), .inl (v3), .inl (v4), .inl (v5), .inl (v6), .inl (v7), .inl (v8), ox_d, ox_d] [] σ) := by
  unfold J_Mod_refile_80
  refine ox_R_lp (ψ := (fun (s : Int × Int × ox_H) => match s with | (v5, v8, σ) => ox_ev m_Mod_refile (ox_zz ox_ms (n + 7)) 80 0 tl [.inr (.inr (10, 0, 0)), .inl (v1), .inl (v2), .inl (v3), .inl (v4), .inl (v5), .inl (v6), .inl (v7), .inl (v8), ox_d, ox_d] [] σ)) ?_ ox_fu (v5, v8, σ)
  intro s
  obtain ⟨v5, v8, σ⟩ := s
  unfold B_Mod_refile_80
  refine ox_R_to 3 (Y := if v7 ≤ v8 then ox_ev m_Mod_refile (ox_zz ox_ms (n + 7)) 136 0 tl [.inr (.inr (10, 0, 0)), .inl (v1), .inl (v2), .inl (v3), .inl (v4), .inl (v5), .inl (v6), ox_d, ox_d, ox_d, ox_d] [] σ else ox_ev m_Mod_refile (ox_zz ox_ms (n + 7)) 87 0 tl [.inr (.inr (10, 0, 0)), .inl (v1), .inl (v2), .inl (v3), .inl (v4), .inl (v5), .inl (v6), .inl (v7), .inl (v8), ox_d, ox_d] [] σ) rfl ?_
  refine ox_R_if (fun _ => ?_) (fun _ => ?_)
  · exact ox_R_map ((L_Mod_refile_136 v1 v2 v3 v4 v5 v6 σ n tl))
  · refine ox_R_to 4 (Y := ox_back m_Mod_refile 92 1 [.inl (v5)] ((ox_zz ox_ms (n + 7)) 74 tl [.inr (.inr (10, 0, 0)), .inl (v8)] σ) (fun pc9 x9 st9 σ9 => ox_ev m_Mod_refile (ox_zz ox_ms (n + 7)) pc9 0 tl (ox_kl (m_Mod_refile.2.2.1 pc9) (ox_xl x9 [.inr (.inr (10, 0, 0)), .inl (v1), .inl (v2), .inl (v3), .inl (v4), .inl (v5), .inl (v6), .inl (v7), .inl (v8), ox_d, ox_d])) st9 σ9)) rfl ?_
    refine ox_R_call (fc := (fun r : Int × ox_H => ((.inl (some (.inl r.1)), r.2) : ox_O))) (L_Mod_level v8 σ (n + 2) tl) (fun r11 => ?_)
    refine ox_R_of (Y := ox_ev m_Mod_refile (ox_zz ox_ms (n + 7)) 95 0 tl [.inr (.inr (10, 0, 0)), .inl (v1), .inl (v2), .inl (v3), .inl (v4), .inl (v5), .inl (v6), .inl (v7), .inl (v8), ox_d, ox_d] [.inl (r11.1), .inl (v5)] r11.2) rfl ?_
    refine ox_R_to 4 (Y := if 5 < (ox_w (r11.1 + v6)) then ox_ev m_Mod_refile (ox_zz ox_ms (n + 7)) 122 0 tl [.inr (.inr (10, 0, 0)), .inl (v1), .inl (v2), .inl (v3), .inl (v4), ox_d, .inl (v6), .inl (v7), .inl (v8), ox_d, ox_d] [.inl (v5)] r11.2 else ox_ev m_Mod_refile (ox_zz ox_ms (n + 7)) 102 0 tl [.inr (.inr (10, 0, 0)), .inl (v1), .inl (v2), .inl (v3), .inl (v4), .inl (v5), .inl (v6), .inl (v7), .inl (v8), ox_d, ox_d] [.inl (v5)] r11.2) rfl ?_
    refine ox_R_if (fun _ => ?_) (fun _ => ?_)
    · exact (L_Mod_refile_122 v1 v2 v3 v4 v6 v7 v8 v5 r11.2 n tl)
    · refine ox_R_to 6 (Y := if 0 ≤ v8 ∧ v8.toNat < 61 then ox_ev m_Mod_refile (ox_zz ox_ms (n + 7)) 113 0 tl [.inr (.inr (10, 0, 0)), .inl (v1), .inl (v2), .inl (v3), .inl (v4), .inl (v5), .inl (v6), .inl (v7), .inl (v8), ox_d, ox_d] [.inl (r11.2 10 0 21 v8.toNat), .inr (.inr (110, 0, 1)), .inl (v5)] r11.2 else none) rfl ?_
      refine ox_R_if (fun _ => ?_) (fun _ => ox_R_none)
      refine ox_R_to 1 (Y := if 0 ≤ (r11.2 10 0 21 v8.toNat) ∧ (r11.2 10 0 21 v8.toNat).toNat < 60 then ox_ev m_Mod_refile (ox_zz ox_ms (n + 7)) 114 0 tl [.inr (.inr (10, 0, 0)), .inl (v1), .inl (v2), .inl (v3), .inl (v4), .inl (v5), .inl (v6), .inl (v7), .inl (v8), ox_d, ox_d] [.inl (r11.2 10 0 1 ((r11.2 10 0 21 v8.toNat).toNat)), .inl (v5)] r11.2 else none) rfl ?_
      refine ox_R_if (fun _ => ?_) (fun _ => ox_R_none)
      refine ox_R_to 4 (Y := if (ox_w ((r11.2 10 0 1 ((r11.2 10 0 21 v8.toNat).toNat)) + v6)) ≤ 24 then ox_ev m_Mod_refile (ox_zz ox_ms (n + 7)) 126 0 tl [.inr (.inr (10, 0, 0)), .inl (v1), .inl (v2), .inl (v3), .inl (v4), .inl (v5), .inl (v6), .inl (v7), .inl (v8), ox_d, ox_d] [.inl (v5)] r11.2 else ox_ev m_Mod_refile (ox_zz ox_ms (n + 7)) 122 0 tl [.inr (.inr (10, 0, 0)), .inl (v1), .inl (v2), .inl (v3), .inl (v4), ox_d, .inl (v6), .inl (v7), .inl (v8), ox_d, ox_d] [.inl (v5)] r11.2) rfl ?_
      refine ox_R_if (fun _ => ?_) (fun _ => ?_)
      · refine ox_R_to 1 (Y := ox_ev m_Mod_refile (ox_zz ox_ms (n + 7)) 127 0 tl [.inr (.inr (10, 0, 0)), .inl (v1), .inl (v2), .inl (v3), .inl (v4), ox_d, .inl (v6), .inl (v7), .inl (v8), ox_d, ox_d] [.inl (0), .inl (v5)] r11.2) rfl ?_
        exact (L_Mod_refile_127 v1 v2 v3 v4 v6 v7 v8 0 v5 r11.2 n tl)
      · exact (L_Mod_refile_122 v1 v2 v3 v4 v6 v7 v8 v5 r11.2 n tl)
def J_Mod_refile_68  (v1 : Int) (v2 : Int) (v3 : Int) (v4 : Int) (v6 : Int) (s0 : Int) (σ : ox_H) : Option (Int × ox_H) := (F_Mod_last v1 σ).bind fun r12 => (J_Mod_refile_80 v1 v2 v3 v4 s0 v6 r12.1 v1 r12.2)
theorem L_Mod_refile_68  (v1 : Int) (v2 : Int) (v3 : Int) (v4 : Int) (v6 : Int) (s0 : Int) (σ : ox_H) (n tl : Nat) : ox_R (fun r => some ((fun r : Int × ox_H => ((.inl (some (.inl r.1)), r.2) : ox_O)) r)) (J_Mod_refile_68 v1 v2 v3 v4 v6 s0 σ) (ox_ev m_Mod_refile (ox_zz ox_ms (n + 7)) 68 0 tl [.inr (.inr (10, 0, 0)), .inl (v1), .inl (v2), .inl (v3), .inl (v4), ox_d, .inl (v6), ox_d, ox_d, ox_d, ox_d] [.inl (s0)] σ) := by
  unfold J_Mod_refile_68
  refine ox_R_to 4 (Y := ox_back m_Mod_refile 72 1 [] ((ox_zz ox_ms (n + 7)) 77 tl [.inr (.inr (10, 0, 0)), .inl (v1)] σ) (fun pc9 x9 st9 σ9 => ox_ev m_Mod_refile (ox_zz ox_ms (n + 7)) pc9 0 tl (ox_kl (m_Mod_refile.2.2.1 pc9) (ox_xl x9 [.inr (.inr (10, 0, 0)), .inl (v1), .inl (v2), .inl (v3), .inl (v4), .inl (s0), .inl (v6), ox_d, ox_d, ox_d, ox_d])) st9 σ9)) rfl ?_
  refine ox_R_call (fc := (fun r : Int × ox_H => ((.inl (some (.inl r.1)), r.2) : ox_O))) (L_Mod_last v1 σ (n + 1) tl) (fun r12 => ?_)
  refine ox_R_of (Y := ox_ev m_Mod_refile (ox_zz ox_ms (n + 7)) 75 0 tl [.inr (.inr (10, 0, 0)), .inl (v1), .inl (v2), .inl (v3), .inl (v4), .inl (s0), .inl (v6), ox_d, ox_d, ox_d, ox_d] [.inl (r12.1)] r12.2) rfl ?_
  refine ox_R_to 3 (Y := ox_ev m_Mod_refile (ox_zz ox_ms (n + 7)) 80 0 tl [.inr (.inr (10, 0, 0)), .inl (v1), .inl (v2), .inl (v3), .inl (v4), .inl (s0), .inl (v6), .inl (r12.1), .inl (v1), ox_d, ox_d] [] r12.2) rfl ?_
  exact (L_Mod_refile_80 v1 v2 v3 v4 s0 v6 r12.1 v1 r12.2 n tl)
def J_Mod_refile_67  (v1 : Int) (v2 : Int) (v3 : Int) (v4 : Int) (v6 : Int) (σ : ox_H) : Option (Int × ox_H) := (J_Mod_refile_68 v1 v2 v3 v4 v6 0 σ)
theorem L_Mod_refile_67  (v1 : Int) (v2 : Int) (v3 : Int) (v4 : Int) (v6 : Int) (σ : ox_H) (n tl : Nat) : ox_R (fun r => some ((fun r : Int × ox_H => ((.inl (some (.inl r.1)), r.2) : ox_O)) r)) (J_Mod_refile_67 v1 v2 v3 v4 v6 σ) (ox_ev m_Mod_refile (ox_zz ox_ms (n + 7)) 67 0 tl [.inr (.inr (10, 0, 0)), .inl (v1), .inl (v2), .inl (v3), .inl (v4), ox_d, .inl (v6), ox_d, ox_d, ox_d, ox_d] [] σ) := by
  unfold J_Mod_refile_67
  refine ox_R_to 1 (Y := ox_ev m_Mod_refile (ox_zz ox_ms (n + 7)) 68 0 tl [.inr (.inr (10, 0, 0)), .inl (v1), .inl (v2), .inl (v3), .inl (v4), ox_d, .inl (v6), ox_d, ox_d, ox_d, ox_d] [.inl (0)] σ) rfl ?_
  exact (L_Mod_refile_68 v1 v2 v3 v4 v6 0 σ n tl)
def J_Mod_refile_21  (v1 : Int) (v2 : Int) (v3 : Int) (s0 : Int) (σ : ox_H) : Option (Int × ox_H) := if s0 = 0 then (J_Mod_refile_172 v1 v2 v3 s0 0 0 σ) else ((F_Mod_level v2 σ).bind fun r13 => ((F_Mod_level v1 r13.2).bind fun r14 => (if v2 < v1 then (J_Mod_refile_67 v1 v2 v3 s0 (ox_w ((ox_w (r13.1 + 1)) - r14.1)) r14.2) else ((F_Mod_last v1 r14.2).bind fun r15 => (if r15.1 ≤ v2 then (J_Mod_refile_67 v1 v2 v3 s0 (ox_w ((ox_w (r13.1 + 1)) - r14.1)) r15.2) else (J_Mod_refile_68 v1 v2 v3 s0 (ox_w ((ox_w (r13.1 + 1)) - r14.1)) 1 r15.2))))))
theorem L_Mod_refile_21  (v1 : Int) (v2 : Int) (v3 : Int) (s0 : Int) (σ : ox_H) (n tl : Nat) : ox_R (fun r => some ((fun r : Int × ox_H => ((.inl (some (.inl r.1)), r.2) : ox_O)) r)) (J_Mod_refile_21 v1 v2 v3 s0 σ) (ox_ev m_Mod_refile (ox_zz ox_ms (n + 7)) 21 0 tl [.inr (.inr (10, 0, 0)), .inl (v1), .inl (v2), .inl (v3), ox_d, ox_d, ox_d, ox_d, ox_d, ox_d, ox_d] [.inl (s0)] σ) := by
  unfold J_Mod_refile_21
  refine ox_R_to 7 (Y := if s0 = 0 then ox_ev m_Mod_refile (ox_zz ox_ms (n + 7)) 172 0 tl [.inr (.inr (10, 0, 0)), .inl (v1), .inl (v2), .inl (v3), .inl (s0), .inl (0), .inl (0), ox_d, ox_d, ox_d, ox_d] [] σ else ox_ev m_Mod_refile (ox_zz ox_ms (n + 7)) 34 0 tl [.inr (.inr (10, 0, 0)), .inl (v1), .inl (v2), .inl (v3), .inl (s0), .inl (0), .inl (0), ox_d, ox_d, ox_d, ox_d] [] σ) rfl ?_
  refine ox_R_if (fun _ => ?_) (fun _ => ?_)
  · exact (L_Mod_refile_172 v1 v2 v3 s0 0 0 σ n tl)
  · refine ox_R_to 3 (Y := ox_back m_Mod_refile 36 1 [] ((ox_zz ox_ms (n + 7)) 74 tl [.inr (.inr (10, 0, 0)), .inl (v2)] σ) (fun pc9 x9 st9 σ9 => ox_ev m_Mod_refile (ox_zz ox_ms (n + 7)) pc9 0 tl (ox_kl (m_Mod_refile.2.2.1 pc9) (ox_xl x9 [.inr (.inr (10, 0, 0)), .inl (v1), .inl (v2), .inl (v3), .inl (s0), .inl (0), .inl (0), ox_d, ox_d, ox_d, ox_d])) st9 σ9)) rfl ?_
    refine ox_R_call (fc := (fun r : Int × ox_H => ((.inl (some (.inl r.1)), r.2) : ox_O))) (L_Mod_level v2 σ (n + 2) tl) (fun r13 => ?_)
    refine ox_R_of (Y := ox_ev m_Mod_refile (ox_zz ox_ms (n + 7)) 39 0 tl [.inr (.inr (10, 0, 0)), .inl (v1), .inl (v2), .inl (v3), .inl (s0), .inl (0), .inl (0), ox_d, ox_d, ox_d, ox_d] [.inl (r13.1)] r13.2) rfl ?_
    refine ox_R_to 5 (Y := ox_back m_Mod_refile 43 1 [.inl (ox_w (r13.1 + 1))] ((ox_zz ox_ms (n + 7)) 74 tl [.inr (.inr (10, 0, 0)), .inl (v1)] r13.2) (fun pc9 x9 st9 σ9 => ox_ev m_Mod_refile (ox_zz ox_ms (n + 7)) pc9 0 tl (ox_kl (m_Mod_refile.2.2.1 pc9) (ox_xl x9 [.inr (.inr (10, 0, 0)), .inl (v1), .inl (v2), .inl (v3), .inl (s0), .inl (0), .inl (0), ox_d, ox_d, ox_d, ox_d])) st9 σ9)) rfl ?_
    refine ox_R_call (fc := (fun r : Int × ox_H => ((.inl (some (.inl r.1)), r.2) : ox_O))) (L_Mod_level v1 r13.2 (n + 2) tl) (fun r14 => ?_)
    refine ox_R_of (Y := ox_ev m_Mod_refile (ox_zz ox_ms (n + 7)) 46 0 tl [.inr (.inr (10, 0, 0)), .inl (v1), .inl (v2), .inl (v3), .inl (s0), .inl (0), .inl (0), ox_d, ox_d, ox_d, ox_d] [.inl (r14.1), .inl (ox_w (r13.1 + 1))] r14.2) rfl ?_
    refine ox_R_to 5 (Y := if v2 < v1 then ox_ev m_Mod_refile (ox_zz ox_ms (n + 7)) 67 0 tl [.inr (.inr (10, 0, 0)), .inl (v1), .inl (v2), .inl (v3), .inl (s0), ox_d, .inl (ox_w ((ox_w (r13.1 + 1)) - r14.1)), ox_d, ox_d, ox_d, ox_d] [] r14.2 else ox_ev m_Mod_refile (ox_zz ox_ms (n + 7)) 54 0 tl [.inr (.inr (10, 0, 0)), .inl (v1), .inl (v2), .inl (v3), .inl (s0), .inl (0), .inl (ox_w ((ox_w (r13.1 + 1)) - r14.1)), ox_d, ox_d, ox_d, ox_d] [] r14.2) rfl ?_
    refine ox_R_if (fun _ => ?_) (fun _ => ?_)
    · exact (L_Mod_refile_67 v1 v2 v3 s0 (ox_w ((ox_w (r13.1 + 1)) - r14.1)) r14.2 n tl)
    · refine ox_R_to 4 (Y := ox_back m_Mod_refile 57 1 [.inl (v2)] ((ox_zz ox_ms (n + 7)) 77 tl [.inr (.inr (10, 0, 0)), .inl (v1)] r14.2) (fun pc9 x9 st9 σ9 => ox_ev m_Mod_refile (ox_zz ox_ms (n + 7)) pc9 0 tl (ox_kl (m_Mod_refile.2.2.1 pc9) (ox_xl x9 [.inr (.inr (10, 0, 0)), .inl (v1), .inl (v2), .inl (v3), .inl (s0), .inl (0), .inl (ox_w ((ox_w (r13.1 + 1)) - r14.1)), ox_d, ox_d, ox_d, ox_d])) st9 σ9)) rfl ?_
      refine ox_R_call (fc := (fun r : Int × ox_H => ((.inl (some (.inl r.1)), r.2) : ox_O))) (L_Mod_last v1 r14.2 (n + 1) tl) (fun r15 => ?_)
      refine ox_R_of (Y := ox_ev m_Mod_refile (ox_zz ox_ms (n + 7)) 60 0 tl [.inr (.inr (10, 0, 0)), .inl (v1), .inl (v2), .inl (v3), .inl (s0), .inl (0), .inl (ox_w ((ox_w (r13.1 + 1)) - r14.1)), ox_d, ox_d, ox_d, ox_d] [.inl (r15.1), .inl (v2)] r15.2) rfl ?_
      refine ox_R_to 1 (Y := if r15.1 ≤ v2 then ox_ev m_Mod_refile (ox_zz ox_ms (n + 7)) 67 0 tl [.inr (.inr (10, 0, 0)), .inl (v1), .inl (v2), .inl (v3), .inl (s0), ox_d, .inl (ox_w ((ox_w (r13.1 + 1)) - r14.1)), ox_d, ox_d, ox_d, ox_d] [] r15.2 else ox_ev m_Mod_refile (ox_zz ox_ms (n + 7)) 63 0 tl [.inr (.inr (10, 0, 0)), .inl (v1), .inl (v2), .inl (v3), .inl (s0), .inl (0), .inl (ox_w ((ox_w (r13.1 + 1)) - r14.1)), ox_d, ox_d, ox_d, ox_d] [] r15.2) rfl ?_
      refine ox_R_if (fun _ => ?_) (fun _ => ?_)
      · exact (L_Mod_refile_67 v1 v2 v3 s0 (ox_w ((ox_w (r13.1 + 1)) - r14.1)) r15.2 n tl)
      · refine ox_R_to 2 (Y := ox_ev m_Mod_refile (ox_zz ox_ms (n + 7)) 68 0 tl [.inr (.inr (10, 0, 0)), .inl (v1), .inl (v2), .inl (v3), .inl (s0), ox_d, .inl (ox_w ((ox_w (r13.1 + 1)) - r14.1)), ox_d, ox_d, ox_d, ox_d] [.inl (1)] r15.2) rfl ?_
        exact (L_Mod_refile_68 v1 v2 v3 s0 (ox_w ((ox_w (r13.1 + 1)) - r14.1)) 1 r15.2 n tl)
def J_Mod_refile_20  (v1 : Int) (v2 : Int) (v3 : Int) (σ : ox_H) : Option (Int × ox_H) := (J_Mod_refile_21 v1 v2 v3 0 σ)
theorem L_Mod_refile_20  (v1 : Int) (v2 : Int) (v3 : Int) (σ : ox_H) (n tl : Nat) : ox_R (fun r => some ((fun r : Int × ox_H => ((.inl (some (.inl r.1)), r.2) : ox_O)) r)) (J_Mod_refile_20 v1 v2 v3 σ) (ox_ev m_Mod_refile (ox_zz ox_ms (n + 7)) 20 0 tl [.inr (.inr (10, 0, 0)), .inl (v1), .inl (v2), .inl (v3), ox_d, ox_d, ox_d, ox_d, ox_d, ox_d, ox_d] [] σ) := by
  unfold J_Mod_refile_20
  refine ox_R_to 1 (Y := ox_ev m_Mod_refile (ox_zz ox_ms (n + 7)) 21 0 tl [.inr (.inr (10, 0, 0)), .inl (v1), .inl (v2), .inl (v3), ox_d, ox_d, ox_d, ox_d, ox_d, ox_d, ox_d] [.inl (0)] σ) rfl ?_
  exact (L_Mod_refile_21 v1 v2 v3 0 σ n tl)
def F_Mod_refile  (a1 : Int) (a2 : Int) (a3 : Int) (σ : ox_H) : Option (Int × ox_H) := (F_Mod_isEntry a1 σ).bind fun r16 => (if r16.1 = 0 then (J_Mod_refile_20 a1 a2 a3 r16.2) else ((F_Mod_isEntry a2 r16.2).bind fun r17 => (if r17.1 = 0 then (J_Mod_refile_20 a1 a2 a3 r17.2) else (J_Mod_refile_21 a1 a2 a3 1 r17.2))))
theorem L_Mod_refile  (a1 : Int) (a2 : Int) (a3 : Int) (σ : ox_H) (n tl : Nat) : ox_R (fun r => some ((fun r : Int × ox_H => ((.inl (some (.inl r.1)), r.2) : ox_O)) r)) (F_Mod_refile a1 a2 a3 σ) (ox_zz ox_ms (n + 8) 94 tl [.inr (.inr (10, 0, 0)), .inl (a1), .inl (a2), .inl (a3)] σ) := by
  unfold F_Mod_refile
  refine ox_R_of (Y := ox_ev m_Mod_refile (ox_zz ox_ms (n + 7)) 0 0 tl [.inr (.inr (10, 0, 0)), .inl (a1), .inl (a2), .inl (a3), ox_d, ox_d, ox_d, ox_d, ox_d, ox_d, ox_d] [] σ) rfl ?_
  refine ox_R_to 3 (Y := ox_back m_Mod_refile 2 1 [] ((ox_zz ox_ms (n + 7)) 73 tl [.inr (.inr (10, 0, 0)), .inl (a1)] σ) (fun pc9 x9 st9 σ9 => ox_ev m_Mod_refile (ox_zz ox_ms (n + 7)) pc9 0 tl (ox_kl (m_Mod_refile.2.2.1 pc9) (ox_xl x9 [.inr (.inr (10, 0, 0)), .inl (a1), .inl (a2), .inl (a3), ox_d, ox_d, ox_d, ox_d, ox_d, ox_d, ox_d])) st9 σ9)) rfl ?_
  refine ox_R_call (fc := (fun r : Int × ox_H => ((.inl (some (.inl r.1)), r.2) : ox_O))) (L_Mod_isEntry a1 σ (n + 1) tl) (fun r16 => ?_)
  refine ox_R_of (Y := ox_ev m_Mod_refile (ox_zz ox_ms (n + 7)) 5 0 tl [.inr (.inr (10, 0, 0)), .inl (a1), .inl (a2), .inl (a3), ox_d, ox_d, ox_d, ox_d, ox_d, ox_d, ox_d] [.inl (r16.1)] r16.2) rfl ?_
  refine ox_R_to 1 (Y := if r16.1 = 0 then ox_ev m_Mod_refile (ox_zz ox_ms (n + 7)) 20 0 tl [.inr (.inr (10, 0, 0)), .inl (a1), .inl (a2), .inl (a3), ox_d, ox_d, ox_d, ox_d, ox_d, ox_d, ox_d] [] r16.2 else ox_ev m_Mod_refile (ox_zz ox_ms (n + 7)) 8 0 tl [.inr (.inr (10, 0, 0)), .inl (a1), .inl (a2), .inl (a3), ox_d, ox_d, ox_d, ox_d, ox_d, ox_d, ox_d] [] r16.2) rfl ?_
  refine ox_R_if (fun _ => ?_) (fun _ => ?_)
  · exact (L_Mod_refile_20 a1 a2 a3 r16.2 n tl)
  · refine ox_R_to 3 (Y := ox_back m_Mod_refile 10 1 [] ((ox_zz ox_ms (n + 7)) 73 tl [.inr (.inr (10, 0, 0)), .inl (a2)] r16.2) (fun pc9 x9 st9 σ9 => ox_ev m_Mod_refile (ox_zz ox_ms (n + 7)) pc9 0 tl (ox_kl (m_Mod_refile.2.2.1 pc9) (ox_xl x9 [.inr (.inr (10, 0, 0)), .inl (a1), .inl (a2), .inl (a3), ox_d, ox_d, ox_d, ox_d, ox_d, ox_d, ox_d])) st9 σ9)) rfl ?_
    refine ox_R_call (fc := (fun r : Int × ox_H => ((.inl (some (.inl r.1)), r.2) : ox_O))) (L_Mod_isEntry a2 r16.2 (n + 1) tl) (fun r17 => ?_)
    refine ox_R_of (Y := ox_ev m_Mod_refile (ox_zz ox_ms (n + 7)) 13 0 tl [.inr (.inr (10, 0, 0)), .inl (a1), .inl (a2), .inl (a3), ox_d, ox_d, ox_d, ox_d, ox_d, ox_d, ox_d] [.inl (r17.1)] r17.2) rfl ?_
    refine ox_R_to 1 (Y := if r17.1 = 0 then ox_ev m_Mod_refile (ox_zz ox_ms (n + 7)) 20 0 tl [.inr (.inr (10, 0, 0)), .inl (a1), .inl (a2), .inl (a3), ox_d, ox_d, ox_d, ox_d, ox_d, ox_d, ox_d] [] r17.2 else ox_ev m_Mod_refile (ox_zz ox_ms (n + 7)) 16 0 tl [.inr (.inr (10, 0, 0)), .inl (a1), .inl (a2), .inl (a3), ox_d, ox_d, ox_d, ox_d, ox_d, ox_d, ox_d] [] r17.2) rfl ?_
    refine ox_R_if (fun _ => ?_) (fun _ => ?_)
    · exact (L_Mod_refile_20 a1 a2 a3 r17.2 n tl)
    · refine ox_R_to 2 (Y := ox_ev m_Mod_refile (ox_zz ox_ms (n + 7)) 21 0 tl [.inr (.inr (10, 0, 0)), .inl (a1), .inl (a2), .inl (a3), ox_d, ox_d, ox_d, ox_d, ox_d, ox_d, ox_d] [.inl (1)] r17.2) rfl ?_
      exact (L_Mod_refile_21 a1 a2 a3 1 r17.2 n tl)
def F_Mod_two  (a1 : Int) (a2 : Int) (a3 : Int) (a4 : Int) (σ : ox_H) : Option (ox_H) := if 0 ≤ (ox_w ((ox_w (24 * a1)) + a2)) ∧ (ox_w ((ox_w (24 * a1)) + a2)).toNat < 1440 then (if 0 ≤ (ox_w ((ox_w ((ox_w (24 * a1)) + a2)) + 1)) ∧ (ox_w ((ox_w ((ox_w (24 * a1)) + a2)) + 1)).toNat < 1440 then (some (ox_up (ox_up σ 10 0 0 ((ox_w ((ox_w (24 * a1)) + a2)).toNat) a3) 10 0 0 ((ox_w ((ox_w ((ox_w (24 * a1)) + a2)) + 1)).toNat) a4)) else none) else none
theorem L_Mod_two  (a1 : Int) (a2 : Int) (a3 : Int) (a4 : Int) (σ : ox_H) (n tl : Nat) : ox_R (fun r => some ((fun r : ox_H => ((.inl none, r) : ox_O)) r)) (F_Mod_two a1 a2 a3 a4 σ) (ox_zz ox_ms (n + 1) 96 tl [.inr (.inr (10, 0, 0)), .inl (a1), .inl (a2), .inl (a3), .inl (a4)] σ) := by
  unfold F_Mod_two
  refine ox_R_of (Y := ox_ev m_Mod_two (ox_zz ox_ms (n + 0)) 0 0 tl [.inr (.inr (10, 0, 0)), .inl (a1), .inl (a2), .inl (a3), .inl (a4)] [] σ) rfl ?_
  refine ox_R_to 9 (Y := if 0 ≤ (ox_w ((ox_w (24 * a1)) + a2)) ∧ (ox_w ((ox_w (24 * a1)) + a2)).toNat < 1440 then ox_ev m_Mod_two (ox_zz ox_ms (n + 0)) 12 0 tl [.inr (.inr (10, 0, 0)), .inl (a1), .inl (a2), .inl (a3), .inl (a4)] [] (ox_up σ 10 0 0 ((ox_w ((ox_w (24 * a1)) + a2)).toNat) a3) else none) rfl ?_
  refine ox_R_if (fun _ => ?_) (fun _ => ox_R_none)
  refine ox_R_to 11 (Y := if 0 ≤ (ox_w ((ox_w ((ox_w (24 * a1)) + a2)) + 1)) ∧ (ox_w ((ox_w ((ox_w (24 * a1)) + a2)) + 1)).toNat < 1440 then ox_ev m_Mod_two (ox_zz ox_ms (n + 0)) 27 0 tl [.inr (.inr (10, 0, 0)), .inl (a1), .inl (a2), .inl (a3), .inl (a4)] [] (ox_up (ox_up σ 10 0 0 ((ox_w ((ox_w (24 * a1)) + a2)).toNat) a3) 10 0 0 ((ox_w ((ox_w ((ox_w (24 * a1)) + a2)) + 1)).toNat) a4) else none) rfl ?_
  refine ox_R_if (fun _ => ?_) (fun _ => ox_R_none)
  refine ox_R_to 1 (Y := some (.inl none, (ox_up (ox_up σ 10 0 0 ((ox_w ((ox_w (24 * a1)) + a2)).toNat) a3) 10 0 0 ((ox_w ((ox_w ((ox_w (24 * a1)) + a2)) + 1)).toNat) a4))) rfl ?_
  exact ox_R_ret rfl
def J_Mod_write_188  (σ : ox_H) : Option ox_H := some σ
theorem L_Mod_write_188  (σ : ox_H) (n tl : Nat) : ox_R (fun r => some ((fun r : ox_H => ((.inl none, r) : ox_O)) r)) (J_Mod_write_188 σ) (ox_ev m_Mod_write (ox_zz ox_ms (n + 4)) 188 0 tl [ox_d, ox_d, ox_d, ox_d] [] σ) := by
  unfold J_Mod_write_188
  refine ox_R_to 1 (Y := some (.inl none, σ)) rfl ?_
  exact ox_R_ret rfl
def J_Mod_write_170  (v1 : Int) (v3 : Int) (s0 : Int) (s1 : Int) (s2 : Int) (s3 : Int) (σ : ox_H) : Option ox_H := (F_Mod_two s3 s2 s1 s0 σ).bind fun r1 => (if 0 ≤ (ox_w ((ox_w ((ox_w (24 * v1)) + v3)) + 4)) ∧ (ox_w ((ox_w ((ox_w (24 * v1)) + v3)) + 4)).toNat < 1440 then (J_Mod_write_188 (ox_up r1 10 0 0 ((ox_w ((ox_w ((ox_w (24 * v1)) + v3)) + 4)).toNat) 32)) else none)
theorem L_Mod_write_170  (v1 : Int) (v3 : Int) (s0 : Int) (s1 : Int) (s2 : Int) (s3 : Int) (σ : ox_H) (n tl : Nat) : ox_R (fun r => some ((fun r : ox_H => ((.inl none, r) : ox_O)) r)) (J_Mod_write_170 v1 v3 s0 s1 s2 s3 σ) (ox_ev m_Mod_write (ox_zz ox_ms (n + 4)) 170 0 tl [.inr (.inr (10, 0, 0)), .inl (v1), ox_d, .inl (v3)] [.inl (s0), .inl (s1), .inl (s2), .inl (s3), .inr (.inr (10, 0, 0))] σ) := by
  unfold J_Mod_write_170
  refine ox_R_to 1 (Y := ox_back m_Mod_write 170 0 [] ((ox_zz ox_ms (n + 4)) 96 tl [.inr (.inr (10, 0, 0)), .inl (s3), .inl (s2), .inl (s1), .inl (s0)] σ) (fun pc9 x9 st9 σ9 => ox_ev m_Mod_write (ox_zz ox_ms (n + 4)) pc9 0 tl (ox_kl (m_Mod_write.2.2.1 pc9) (ox_xl x9 [.inr (.inr (10, 0, 0)), .inl (v1), ox_d, .inl (v3)])) st9 σ9)) rfl ?_
  refine ox_R_call (fc := (fun r : ox_H => ((.inl none, r) : ox_O))) (L_Mod_two s3 s2 s1 s0 σ (n + 3) tl) (fun r1 => ?_)
  refine ox_R_of (Y := ox_ev m_Mod_write (ox_zz ox_ms (n + 4)) 173 0 tl [.inr (.inr (10, 0, 0)), .inl (v1), ox_d, .inl (v3)] [] r1) rfl ?_
  refine ox_R_to 11 (Y := if 0 ≤ (ox_w ((ox_w ((ox_w (24 * v1)) + v3)) + 4)) ∧ (ox_w ((ox_w ((ox_w (24 * v1)) + v3)) + 4)).toNat < 1440 then ox_ev m_Mod_write (ox_zz ox_ms (n + 4)) 188 0 tl [ox_d, ox_d, ox_d, ox_d] [] (ox_up r1 10 0 0 ((ox_w ((ox_w ((ox_w (24 * v1)) + v3)) + 4)).toNat) 32) else none) rfl ?_
  refine ox_R_if (fun _ => ?_) (fun _ => ox_R_none)
  exact (L_Mod_write_188 (ox_up r1 10 0 0 ((ox_w ((ox_w ((ox_w (24 * v1)) + v3)) + 4)).toNat) 32) n tl)
def J_Mod_write_139  (v1 : Int) (v2 : Int) (v3 : Int) (s0 : Int) (s1 : Int) (s2 : Int) (σ : ox_H) : Option ox_H := if v2 = 0 then (J_Mod_write_170 v1 v3 79 s0 s1 s2 σ) else (if v2 = 1 then (J_Mod_write_170 v1 v3 84 s0 s1 s2 σ) else (if v2 = 2 then (J_Mod_write_170 v1 v3 69 s0 s1 s2 σ) else (J_Mod_write_170 v1 v3 80 s0 s1 s2 σ)))
theorem L_Mod_write_139  (v1 : Int) (v2 : Int) (v3 : Int) (s0 : Int) (s1 : Int) (s2 : Int) (σ : ox_H) (n tl : Nat) : ox_R (fun r => some ((fun r : ox_H => ((.inl none, r) : ox_O)) r)) (J_Mod_write_139 v1 v2 v3 s0 s1 s2 σ) (ox_ev m_Mod_write (ox_zz ox_ms (n + 4)) 139 0 tl [.inr (.inr (10, 0, 0)), .inl (v1), .inl (v2), .inl (v3)] [.inl (s0), .inl (s1), .inl (s2), .inr (.inr (10, 0, 0))] σ) := by
  unfold J_Mod_write_139
  refine ox_R_to 2 (Y := if v2 = 0 then ox_ev m_Mod_write (ox_zz ox_ms (n + 4)) 143 0 tl [.inr (.inr (10, 0, 0)), .inl (v1), .inl (v2), .inl (v3)] [.inl (s0), .inl (s1), .inl (s2), .inr (.inr (10, 0, 0))] σ else ox_ev m_Mod_write (ox_zz ox_ms (n + 4)) 148 0 tl [.inr (.inr (10, 0, 0)), .inl (v1), .inl (v2), .inl (v3)] [.inl (s0), .inl (s1), .inl (s2), .inr (.inr (10, 0, 0))] σ) rfl ?_
  refine ox_R_if (fun _ => ?_) (fun _ => ?_)
  · refine ox_R_to 2 (Y := ox_ev m_Mod_write (ox_zz ox_ms (n + 4)) 170 0 tl [.inr (.inr (10, 0, 0)), .inl (v1), ox_d, .inl (v3)] [.inl (79), .inl (s0), .inl (s1), .inl (s2), .inr (.inr (10, 0, 0))] σ) rfl ?_
    exact (L_Mod_write_170 v1 v3 79 s0 s1 s2 σ n tl)
  · refine ox_R_to 3 (Y := if v2 = 1 then ox_ev m_Mod_write (ox_zz ox_ms (n + 4)) 153 0 tl [.inr (.inr (10, 0, 0)), .inl (v1), .inl (v2), .inl (v3)] [.inl (s0), .inl (s1), .inl (s2), .inr (.inr (10, 0, 0))] σ else ox_ev m_Mod_write (ox_zz ox_ms (n + 4)) 158 0 tl [.inr (.inr (10, 0, 0)), .inl (v1), .inl (v2), .inl (v3)] [.inl (s0), .inl (s1), .inl (s2), .inr (.inr (10, 0, 0))] σ) rfl ?_
    refine ox_R_if (fun _ => ?_) (fun _ => ?_)
    · refine ox_R_to 2 (Y := ox_ev m_Mod_write (ox_zz ox_ms (n + 4)) 170 0 tl [.inr (.inr (10, 0, 0)), .inl (v1), ox_d, .inl (v3)] [.inl (84), .inl (s0), .inl (s1), .inl (s2), .inr (.inr (10, 0, 0))] σ) rfl ?_
      exact (L_Mod_write_170 v1 v3 84 s0 s1 s2 σ n tl)
    · refine ox_R_to 3 (Y := if v2 = 2 then ox_ev m_Mod_write (ox_zz ox_ms (n + 4)) 163 0 tl [.inr (.inr (10, 0, 0)), .inl (v1), .inl (v2), .inl (v3)] [.inl (s0), .inl (s1), .inl (s2), .inr (.inr (10, 0, 0))] σ else ox_ev m_Mod_write (ox_zz ox_ms (n + 4)) 168 0 tl [.inr (.inr (10, 0, 0)), .inl (v1), .inl (v2), .inl (v3)] [.inl (s0), .inl (s1), .inl (s2), .inr (.inr (10, 0, 0))] σ) rfl ?_
      refine ox_R_if (fun _ => ?_) (fun _ => ?_)
      · refine ox_R_to 2 (Y := ox_ev m_Mod_write (ox_zz ox_ms (n + 4)) 170 0 tl [.inr (.inr (10, 0, 0)), .inl (v1), ox_d, .inl (v3)] [.inl (69), .inl (s0), .inl (s1), .inl (s2), .inr (.inr (10, 0, 0))] σ) rfl ?_
        exact (L_Mod_write_170 v1 v3 69 s0 s1 s2 σ n tl)
      · refine ox_R_to 1 (Y := ox_ev m_Mod_write (ox_zz ox_ms (n + 4)) 170 0 tl [.inr (.inr (10, 0, 0)), .inl (v1), ox_d, .inl (v3)] [.inl (80), .inl (s0), .inl (s1), .inl (s2), .inr (.inr (10, 0, 0))] σ) rfl ?_
        exact (L_Mod_write_170 v1 v3 80 s0 s1 s2 σ n tl)
def J_Mod_write_100  (v1 : Int) (v2 : Int) (v3 : Int) (s0 : Int) (s1 : Int) (s2 : Int) (s3 : Int) (σ : ox_H) : Option ox_H := (F_Mod_two s3 s2 s1 s0 σ).bind fun r2 => (if v2 = 0 then (J_Mod_write_139 v1 v2 v3 68 (ox_w (v3 + 2)) v1 r2) else (if v2 = 1 then (J_Mod_write_139 v1 v2 v3 73 (ox_w (v3 + 2)) v1 r2) else (if v2 = 2 then (J_Mod_write_139 v1 v2 v3 78 (ox_w (v3 + 2)) v1 r2) else (J_Mod_write_139 v1 v2 v3 79 (ox_w (v3 + 2)) v1 r2))))
theorem L_Mod_write_100  (v1 : Int) (v2 : Int) (v3 : Int) (s0 : Int) (s1 : Int) (s2 : Int) (s3 : Int) (σ : ox_H) (n tl : Nat) : ox_R (fun r => some ((fun r : ox_H => ((.inl none, r) : ox_O)) r)) (J_Mod_write_100 v1 v2 v3 s0 s1 s2 s3 σ) (ox_ev m_Mod_write (ox_zz ox_ms (n + 4)) 100 0 tl [.inr (.inr (10, 0, 0)), .inl (v1), .inl (v2), .inl (v3)] [.inl (s0), .inl (s1), .inl (s2), .inl (s3), .inr (.inr (10, 0, 0))] σ) := by
  unfold J_Mod_write_100
  refine ox_R_to 1 (Y := ox_back m_Mod_write 100 0 [] ((ox_zz ox_ms (n + 4)) 96 tl [.inr (.inr (10, 0, 0)), .inl (s3), .inl (s2), .inl (s1), .inl (s0)] σ) (fun pc9 x9 st9 σ9 => ox_ev m_Mod_write (ox_zz ox_ms (n + 4)) pc9 0 tl (ox_kl (m_Mod_write.2.2.1 pc9) (ox_xl x9 [.inr (.inr (10, 0, 0)), .inl (v1), .inl (v2), .inl (v3)])) st9 σ9)) rfl ?_
  refine ox_R_call (fc := (fun r : ox_H => ((.inl none, r) : ox_O))) (L_Mod_two s3 s2 s1 s0 σ (n + 3) tl) (fun r2 => ?_)
  refine ox_R_of (Y := ox_ev m_Mod_write (ox_zz ox_ms (n + 4)) 103 0 tl [.inr (.inr (10, 0, 0)), .inl (v1), .inl (v2), .inl (v3)] [] r2) rfl ?_
  refine ox_R_to 7 (Y := if v2 = 0 then ox_ev m_Mod_write (ox_zz ox_ms (n + 4)) 112 0 tl [.inr (.inr (10, 0, 0)), .inl (v1), .inl (v2), .inl (v3)] [.inl (ox_w (v3 + 2)), .inl (v1), .inr (.inr (10, 0, 0))] r2 else ox_ev m_Mod_write (ox_zz ox_ms (n + 4)) 117 0 tl [.inr (.inr (10, 0, 0)), .inl (v1), .inl (v2), .inl (v3)] [.inl (ox_w (v3 + 2)), .inl (v1), .inr (.inr (10, 0, 0))] r2) rfl ?_
  refine ox_R_if (fun _ => ?_) (fun _ => ?_)
  · refine ox_R_to 2 (Y := ox_ev m_Mod_write (ox_zz ox_ms (n + 4)) 139 0 tl [.inr (.inr (10, 0, 0)), .inl (v1), .inl (v2), .inl (v3)] [.inl (68), .inl (ox_w (v3 + 2)), .inl (v1), .inr (.inr (10, 0, 0))] r2) rfl ?_
    exact (L_Mod_write_139 v1 v2 v3 68 (ox_w (v3 + 2)) v1 r2 n tl)
  · refine ox_R_to 3 (Y := if v2 = 1 then ox_ev m_Mod_write (ox_zz ox_ms (n + 4)) 122 0 tl [.inr (.inr (10, 0, 0)), .inl (v1), .inl (v2), .inl (v3)] [.inl (ox_w (v3 + 2)), .inl (v1), .inr (.inr (10, 0, 0))] r2 else ox_ev m_Mod_write (ox_zz ox_ms (n + 4)) 127 0 tl [.inr (.inr (10, 0, 0)), .inl (v1), .inl (v2), .inl (v3)] [.inl (ox_w (v3 + 2)), .inl (v1), .inr (.inr (10, 0, 0))] r2) rfl ?_
    refine ox_R_if (fun _ => ?_) (fun _ => ?_)
    · refine ox_R_to 2 (Y := ox_ev m_Mod_write (ox_zz ox_ms (n + 4)) 139 0 tl [.inr (.inr (10, 0, 0)), .inl (v1), .inl (v2), .inl (v3)] [.inl (73), .inl (ox_w (v3 + 2)), .inl (v1), .inr (.inr (10, 0, 0))] r2) rfl ?_
      exact (L_Mod_write_139 v1 v2 v3 73 (ox_w (v3 + 2)) v1 r2 n tl)
    · refine ox_R_to 3 (Y := if v2 = 2 then ox_ev m_Mod_write (ox_zz ox_ms (n + 4)) 132 0 tl [.inr (.inr (10, 0, 0)), .inl (v1), .inl (v2), .inl (v3)] [.inl (ox_w (v3 + 2)), .inl (v1), .inr (.inr (10, 0, 0))] r2 else ox_ev m_Mod_write (ox_zz ox_ms (n + 4)) 137 0 tl [.inr (.inr (10, 0, 0)), .inl (v1), .inl (v2), .inl (v3)] [.inl (ox_w (v3 + 2)), .inl (v1), .inr (.inr (10, 0, 0))] r2) rfl ?_
      refine ox_R_if (fun _ => ?_) (fun _ => ?_)
      · refine ox_R_to 2 (Y := ox_ev m_Mod_write (ox_zz ox_ms (n + 4)) 139 0 tl [.inr (.inr (10, 0, 0)), .inl (v1), .inl (v2), .inl (v3)] [.inl (78), .inl (ox_w (v3 + 2)), .inl (v1), .inr (.inr (10, 0, 0))] r2) rfl ?_
        exact (L_Mod_write_139 v1 v2 v3 78 (ox_w (v3 + 2)) v1 r2 n tl)
      · refine ox_R_to 1 (Y := ox_ev m_Mod_write (ox_zz ox_ms (n + 4)) 139 0 tl [.inr (.inr (10, 0, 0)), .inl (v1), .inl (v2), .inl (v3)] [.inl (79), .inl (ox_w (v3 + 2)), .inl (v1), .inr (.inr (10, 0, 0))] r2) rfl ?_
        exact (L_Mod_write_139 v1 v2 v3 79 (ox_w (v3 + 2)) v1 r2 n tl)
def J_Mod_write_69  (v1 : Int) (v2 : Int) (v3 : Int) (s0 : Int) (s1 : Int) (s2 : Int) (σ : ox_H) : Option ox_H := if v2 = 0 then (J_Mod_write_100 v1 v2 v3 79 s0 s1 s2 σ) else (if v2 = 1 then (J_Mod_write_100 v1 v2 v3 65 s0 s1 s2 σ) else (if v2 = 2 then (J_Mod_write_100 v1 v2 v3 79 s0 s1 s2 σ) else (J_Mod_write_100 v1 v2 v3 82 s0 s1 s2 σ)))
theorem L_Mod_write_69  (v1 : Int) (v2 : Int) (v3 : Int) (s0 : Int) (s1 : Int) (s2 : Int) (σ : ox_H) (n tl : Nat) : ox_R (fun r => some ((fun r : ox_H => ((.inl none, r) : ox_O)) r)) (J_Mod_write_69 v1 v2 v3 s0 s1 s2 σ) (ox_ev m_Mod_write (ox_zz ox_ms (n + 4)) 69 0 tl [.inr (.inr (10, 0, 0)), .inl (v1), .inl (v2), .inl (v3)] [.inl (s0), .inl (s1), .inl (s2), .inr (.inr (10, 0, 0))] σ) := by
  unfold J_Mod_write_69
  refine ox_R_to 2 (Y := if v2 = 0 then ox_ev m_Mod_write (ox_zz ox_ms (n + 4)) 73 0 tl [.inr (.inr (10, 0, 0)), .inl (v1), .inl (v2), .inl (v3)] [.inl (s0), .inl (s1), .inl (s2), .inr (.inr (10, 0, 0))] σ else ox_ev m_Mod_write (ox_zz ox_ms (n + 4)) 78 0 tl [.inr (.inr (10, 0, 0)), .inl (v1), .inl (v2), .inl (v3)] [.inl (s0), .inl (s1), .inl (s2), .inr (.inr (10, 0, 0))] σ) rfl ?_
  refine ox_R_if (fun _ => ?_) (fun _ => ?_)
  · refine ox_R_to 2 (Y := ox_ev m_Mod_write (ox_zz ox_ms (n + 4)) 100 0 tl [.inr (.inr (10, 0, 0)), .inl (v1), .inl (v2), .inl (v3)] [.inl (79), .inl (s0), .inl (s1), .inl (s2), .inr (.inr (10, 0, 0))] σ) rfl ?_
    exact (L_Mod_write_100 v1 v2 v3 79 s0 s1 s2 σ n tl)
  · refine ox_R_to 3 (Y := if v2 = 1 then ox_ev m_Mod_write (ox_zz ox_ms (n + 4)) 83 0 tl [.inr (.inr (10, 0, 0)), .inl (v1), .inl (v2), .inl (v3)] [.inl (s0), .inl (s1), .inl (s2), .inr (.inr (10, 0, 0))] σ else ox_ev m_Mod_write (ox_zz ox_ms (n + 4)) 88 0 tl [.inr (.inr (10, 0, 0)), .inl (v1), .inl (v2), .inl (v3)] [.inl (s0), .inl (s1), .inl (s2), .inr (.inr (10, 0, 0))] σ) rfl ?_
    refine ox_R_if (fun _ => ?_) (fun _ => ?_)
    · refine ox_R_to 2 (Y := ox_ev m_Mod_write (ox_zz ox_ms (n + 4)) 100 0 tl [.inr (.inr (10, 0, 0)), .inl (v1), .inl (v2), .inl (v3)] [.inl (65), .inl (s0), .inl (s1), .inl (s2), .inr (.inr (10, 0, 0))] σ) rfl ?_
      exact (L_Mod_write_100 v1 v2 v3 65 s0 s1 s2 σ n tl)
    · refine ox_R_to 3 (Y := if v2 = 2 then ox_ev m_Mod_write (ox_zz ox_ms (n + 4)) 93 0 tl [.inr (.inr (10, 0, 0)), .inl (v1), .inl (v2), .inl (v3)] [.inl (s0), .inl (s1), .inl (s2), .inr (.inr (10, 0, 0))] σ else ox_ev m_Mod_write (ox_zz ox_ms (n + 4)) 98 0 tl [.inr (.inr (10, 0, 0)), .inl (v1), .inl (v2), .inl (v3)] [.inl (s0), .inl (s1), .inl (s2), .inr (.inr (10, 0, 0))] σ) rfl ?_
      refine ox_R_if (fun _ => ?_) (fun _ => ?_)
      · refine ox_R_to 2 (Y := ox_ev m_Mod_write (ox_zz ox_ms (n + 4)) 100 0 tl [.inr (.inr (10, 0, 0)), .inl (v1), .inl (v2), .inl (v3)] [.inl (79), .inl (s0), .inl (s1), .inl (s2), .inr (.inr (10, 0, 0))] σ) rfl ?_
        exact (L_Mod_write_100 v1 v2 v3 79 s0 s1 s2 σ n tl)
      · refine ox_R_to 1 (Y := ox_ev m_Mod_write (ox_zz ox_ms (n + 4)) 100 0 tl [.inr (.inr (10, 0, 0)), .inl (v1), .inl (v2), .inl (v3)] [.inl (82), .inl (s0), .inl (s1), .inl (s2), .inr (.inr (10, 0, 0))] σ) rfl ?_
        exact (L_Mod_write_100 v1 v2 v3 82 s0 s1 s2 σ n tl)
def J_Mod_write_37  (v1 : Int) (v2 : Int) (v3 : Int) (s0 : Int) (s1 : Int) (s2 : Int) (s3 : Int) (σ : ox_H) : Option ox_H := (F_Mod_stretch s3 s2 (ox_w (s1 - s0)) σ).bind fun r3 => (if v2 < 0 then (J_Mod_write_188 r3) else (if v2 = 0 then (J_Mod_write_69 v1 v2 v3 84 v3 v1 r3) else (if v2 = 1 then (J_Mod_write_69 v1 v2 v3 87 v3 v1 r3) else (J_Mod_write_69 v1 v2 v3 68 v3 v1 r3))))
theorem L_Mod_write_37  (v1 : Int) (v2 : Int) (v3 : Int) (s0 : Int) (s1 : Int) (s2 : Int) (s3 : Int) (σ : ox_H) (n tl : Nat) : ox_R (fun r => some ((fun r : ox_H => ((.inl none, r) : ox_O)) r)) (J_Mod_write_37 v1 v2 v3 s0 s1 s2 s3 σ) (ox_ev m_Mod_write (ox_zz ox_ms (n + 4)) 37 0 tl [.inr (.inr (10, 0, 0)), .inl (v1), .inl (v2), .inl (v3)] [.inl (s0), .inl (s1), .inl (s2), .inl (s3), .inr (.inr (10, 0, 0))] σ) := by
  unfold J_Mod_write_37
  refine ox_R_to 2 (Y := ox_back m_Mod_write 38 0 [] ((ox_zz ox_ms (n + 4)) 88 tl [.inr (.inr (10, 0, 0)), .inl (s3), .inl (s2), .inl (ox_w (s1 - s0))] σ) (fun pc9 x9 st9 σ9 => ox_ev m_Mod_write (ox_zz ox_ms (n + 4)) pc9 0 tl (ox_kl (m_Mod_write.2.2.1 pc9) (ox_xl x9 [.inr (.inr (10, 0, 0)), .inl (v1), .inl (v2), .inl (v3)])) st9 σ9)) rfl ?_
  refine ox_R_call (fc := (fun r : ox_H => ((.inl none, r) : ox_O))) (L_Mod_stretch s3 s2 (ox_w (s1 - s0)) σ (n + 3) tl) (fun r3 => ?_)
  refine ox_R_of (Y := ox_ev m_Mod_write (ox_zz ox_ms (n + 4)) 41 0 tl [.inr (.inr (10, 0, 0)), .inl (v1), .inl (v2), .inl (v3)] [] r3) rfl ?_
  refine ox_R_to 2 (Y := if v2 < 0 then ox_ev m_Mod_write (ox_zz ox_ms (n + 4)) 188 0 tl [ox_d, ox_d, ox_d, ox_d] [] r3 else ox_ev m_Mod_write (ox_zz ox_ms (n + 4)) 45 0 tl [.inr (.inr (10, 0, 0)), .inl (v1), .inl (v2), .inl (v3)] [] r3) rfl ?_
  refine ox_R_if (fun _ => ?_) (fun _ => ?_)
  · exact (L_Mod_write_188 r3 n tl)
  · refine ox_R_to 5 (Y := if v2 = 0 then ox_ev m_Mod_write (ox_zz ox_ms (n + 4)) 52 0 tl [.inr (.inr (10, 0, 0)), .inl (v1), .inl (v2), .inl (v3)] [.inl (v3), .inl (v1), .inr (.inr (10, 0, 0))] r3 else ox_ev m_Mod_write (ox_zz ox_ms (n + 4)) 57 0 tl [.inr (.inr (10, 0, 0)), .inl (v1), .inl (v2), .inl (v3)] [.inl (v3), .inl (v1), .inr (.inr (10, 0, 0))] r3) rfl ?_
    refine ox_R_if (fun _ => ?_) (fun _ => ?_)
    · refine ox_R_to 2 (Y := ox_ev m_Mod_write (ox_zz ox_ms (n + 4)) 69 0 tl [.inr (.inr (10, 0, 0)), .inl (v1), .inl (v2), .inl (v3)] [.inl (84), .inl (v3), .inl (v1), .inr (.inr (10, 0, 0))] r3) rfl ?_
      exact (L_Mod_write_69 v1 v2 v3 84 v3 v1 r3 n tl)
    · refine ox_R_to 3 (Y := if v2 = 1 then ox_ev m_Mod_write (ox_zz ox_ms (n + 4)) 62 0 tl [.inr (.inr (10, 0, 0)), .inl (v1), .inl (v2), .inl (v3)] [.inl (v3), .inl (v1), .inr (.inr (10, 0, 0))] r3 else ox_ev m_Mod_write (ox_zz ox_ms (n + 4)) 67 0 tl [.inr (.inr (10, 0, 0)), .inl (v1), .inl (v2), .inl (v3)] [.inl (v3), .inl (v1), .inr (.inr (10, 0, 0))] r3) rfl ?_
      refine ox_R_if (fun _ => ?_) (fun _ => ?_)
      · refine ox_R_to 2 (Y := ox_ev m_Mod_write (ox_zz ox_ms (n + 4)) 69 0 tl [.inr (.inr (10, 0, 0)), .inl (v1), .inl (v2), .inl (v3)] [.inl (87), .inl (v3), .inl (v1), .inr (.inr (10, 0, 0))] r3) rfl ?_
        exact (L_Mod_write_69 v1 v2 v3 87 v3 v1 r3 n tl)
      · refine ox_R_to 1 (Y := ox_ev m_Mod_write (ox_zz ox_ms (n + 4)) 69 0 tl [.inr (.inr (10, 0, 0)), .inl (v1), .inl (v2), .inl (v3)] [.inl (68), .inl (v3), .inl (v1), .inr (.inr (10, 0, 0))] r3) rfl ?_
        exact (L_Mod_write_69 v1 v2 v3 68 v3 v1 r3 n tl)
def J_Mod_write_25  (v1 : Int) (v2 : Int) (v3 : Int) (s0 : Int) (s1 : Int) (s2 : Int) (σ : ox_H) : Option ox_H := if 0 ≤ (σ 10 0 13 0) then (J_Mod_write_37 v1 v2 v3 5 s0 s1 s2 σ) else (J_Mod_write_37 v1 v2 v3 0 s0 s1 s2 σ)
theorem L_Mod_write_25  (v1 : Int) (v2 : Int) (v3 : Int) (s0 : Int) (s1 : Int) (s2 : Int) (σ : ox_H) (n tl : Nat) : ox_R (fun r => some ((fun r : ox_H => ((.inl none, r) : ox_O)) r)) (J_Mod_write_25 v1 v2 v3 s0 s1 s2 σ) (ox_ev m_Mod_write (ox_zz ox_ms (n + 4)) 25 0 tl [.inr (.inr (10, 0, 0)), .inl (v1), .inl (v2), .inl (v3)] [.inl (s0), .inl (s1), .inl (s2), .inr (.inr (10, 0, 0))] σ) := by
  unfold J_Mod_write_25
  refine ox_R_to 3 (Y := if 0 ≤ (σ 10 0 13 0) then ox_ev m_Mod_write (ox_zz ox_ms (n + 4)) 36 0 tl [.inr (.inr (10, 0, 0)), .inl (v1), .inl (v2), .inl (v3)] [.inl (s0), .inl (s1), .inl (s2), .inr (.inr (10, 0, 0))] σ else ox_ev m_Mod_write (ox_zz ox_ms (n + 4)) 32 0 tl [.inr (.inr (10, 0, 0)), .inl (v1), .inl (v2), .inl (v3)] [.inl (s0), .inl (s1), .inl (s2), .inr (.inr (10, 0, 0))] σ) rfl ?_
  refine ox_R_if (fun _ => ?_) (fun _ => ?_)
  · refine ox_R_to 1 (Y := ox_ev m_Mod_write (ox_zz ox_ms (n + 4)) 37 0 tl [.inr (.inr (10, 0, 0)), .inl (v1), .inl (v2), .inl (v3)] [.inl (5), .inl (s0), .inl (s1), .inl (s2), .inr (.inr (10, 0, 0))] σ) rfl ?_
    exact (L_Mod_write_37 v1 v2 v3 5 s0 s1 s2 σ n tl)
  · refine ox_R_to 2 (Y := ox_ev m_Mod_write (ox_zz ox_ms (n + 4)) 37 0 tl [.inr (.inr (10, 0, 0)), .inl (v1), .inl (v2), .inl (v3)] [.inl (0), .inl (s0), .inl (s1), .inl (s2), .inr (.inr (10, 0, 0))] σ) rfl ?_
    exact (L_Mod_write_37 v1 v2 v3 0 s0 s1 s2 σ n tl)
def F_Mod_write  (a1 : Int) (a2 : Int) (σ : ox_H) : Option (ox_H) := (F_Mod_heading a1 σ).bind fun r4 => (if 0 ≤ a2 then (J_Mod_write_25 a1 a2 (ox_w ((r4.2 10 0 12 0) + 1)) 5 (ox_w ((r4.2 10 0 12 0) + 1)) a1 r4.2) else (J_Mod_write_25 a1 a2 (ox_w ((r4.2 10 0 12 0) + 1)) 0 (ox_w ((r4.2 10 0 12 0) + 1)) a1 r4.2))
theorem L_Mod_write  (a1 : Int) (a2 : Int) (σ : ox_H) (n tl : Nat) : ox_R (fun r => some ((fun r : ox_H => ((.inl none, r) : ox_O)) r)) (F_Mod_write a1 a2 σ) (ox_zz ox_ms (n + 5) 95 tl [.inr (.inr (10, 0, 0)), .inl (a1), .inl (a2)] σ) := by
  unfold F_Mod_write
  refine ox_R_of (Y := ox_ev m_Mod_write (ox_zz ox_ms (n + 4)) 0 0 tl [.inr (.inr (10, 0, 0)), .inl (a1), .inl (a2), ox_d] [] σ) rfl ?_
  refine ox_R_to 3 (Y := ox_back m_Mod_write 2 1 [] ((ox_zz ox_ms (n + 4)) 55 tl [.inr (.inr (10, 0, 0)), .inl (a1)] σ) (fun pc9 x9 st9 σ9 => ox_ev m_Mod_write (ox_zz ox_ms (n + 4)) pc9 0 tl (ox_kl (m_Mod_write.2.2.1 pc9) (ox_xl x9 [.inr (.inr (10, 0, 0)), .inl (a1), .inl (a2), ox_d])) st9 σ9)) rfl ?_
  refine ox_R_call (fc := (fun r : Int × ox_H => ((.inl (some (.inl r.1)), r.2) : ox_O))) (L_Mod_heading a1 σ (n + 0) tl) (fun r4 => ?_)
  refine ox_R_of (Y := ox_ev m_Mod_write (ox_zz ox_ms (n + 4)) 5 0 tl [.inr (.inr (10, 0, 0)), .inl (a1), .inl (a2), ox_d] [.inl (r4.1)] r4.2) rfl ?_
  refine ox_R_to 11 (Y := if 0 ≤ a2 then ox_ev m_Mod_write (ox_zz ox_ms (n + 4)) 24 0 tl [.inr (.inr (10, 0, 0)), .inl (a1), .inl (a2), .inl (ox_w ((r4.2 10 0 12 0) + 1))] [.inl (ox_w ((r4.2 10 0 12 0) + 1)), .inl (a1), .inr (.inr (10, 0, 0))] r4.2 else ox_ev m_Mod_write (ox_zz ox_ms (n + 4)) 20 0 tl [.inr (.inr (10, 0, 0)), .inl (a1), .inl (a2), .inl (ox_w ((r4.2 10 0 12 0) + 1))] [.inl (ox_w ((r4.2 10 0 12 0) + 1)), .inl (a1), .inr (.inr (10, 0, 0))] r4.2) rfl ?_
  refine ox_R_if (fun _ => ?_) (fun _ => ?_)
  · refine ox_R_to 1 (Y := ox_ev m_Mod_write (ox_zz ox_ms (n + 4)) 25 0 tl [.inr (.inr (10, 0, 0)), .inl (a1), .inl (a2), .inl (ox_w ((r4.2 10 0 12 0) + 1))] [.inl (5), .inl (ox_w ((r4.2 10 0 12 0) + 1)), .inl (a1), .inr (.inr (10, 0, 0))] r4.2) rfl ?_
    exact (L_Mod_write_25 a1 a2 (ox_w ((r4.2 10 0 12 0) + 1)) 5 (ox_w ((r4.2 10 0 12 0) + 1)) a1 r4.2 n tl)
  · refine ox_R_to 2 (Y := ox_ev m_Mod_write (ox_zz ox_ms (n + 4)) 25 0 tl [.inr (.inr (10, 0, 0)), .inl (a1), .inl (a2), .inl (ox_w ((r4.2 10 0 12 0) + 1))] [.inl (0), .inl (ox_w ((r4.2 10 0 12 0) + 1)), .inl (a1), .inr (.inr (10, 0, 0))] r4.2) rfl ?_
    exact (L_Mod_write_25 a1 a2 (ox_w ((r4.2 10 0 12 0) + 1)) 0 (ox_w ((r4.2 10 0 12 0) + 1)) a1 r4.2 n tl)
def J_Mod_add_84  (σ : ox_H) : Option ox_H := some σ
theorem L_Mod_add_84  (σ : ox_H) (n tl : Nat) : ox_R (fun r => some ((fun r : ox_H => ((.inl none, r) : ox_O)) r)) (J_Mod_add_84 σ) (ox_ev m_Mod_add (ox_zz ox_ms (n + 0)) 84 0 tl [ox_d, ox_d, ox_d, ox_d] [] σ) := by
  unfold J_Mod_add_84
  refine ox_R_to 1 (Y := some (.inl none, σ)) rfl ?_
  exact ox_R_ret rfl
def B_Mod_add_37  (v1 : Int) (v2 : Int) : (Int × ox_H) → Option (((Int × ox_H) ⊕ ox_H)) := fun (v3, σ) => if v3 ≤ 0 then ((J_Mod_add_84 σ).map .inr) else (if 0 ≤ v1 ∧ v1.toNat < 60 then (if v3 = 0 then none else (if 0 ≤ (ox_w ((ox_w (24 * v1)) + (σ 10 0 1 v1.toNat))) ∧ (ox_w ((ox_w (24 * v1)) + (σ 10 0 1 v1.toNat))).toNat < 1440 then (if 0 ≤ v1 ∧ v1.toNat < 60 then (if 0 ≤ v1 ∧ v1.toNat < 60 then (some (.inl (ox_w (Int.tdiv v3 10), (ox_up (ox_up σ 10 0 0 ((ox_w ((ox_w (24 * v1)) + (σ 10 0 1 v1.toNat))).toNat) (ox_w (48 + (Int.tmod (ox_w (Int.tdiv v2 v3)) 10)))) 10 0 1 v1.toNat (ox_w ((σ 10 0 1 v1.toNat) + 1)))))) else none) else none) else none)) else none)
def J_Mod_add_37  (v1 : Int) (v2 : Int) (v3 : Int) (σ : ox_H) : Option (ox_H) := ox_lp (B_Mod_add_37 v1 v2) ox_fu (v3, σ)
theorem L_Mod_add_37  (v1 : Int) (v2 : Int) (v3 : Int) (σ : ox_H) (n tl : Nat) : ox_R (fun r => some ((fun r : ox_H => ((.inl none, r) : ox_O)) r)) (J_Mod_add_37 v1 v2 v3 σ) (ox_ev m_Mod_add (ox_zz ox_ms (n + 0)) 37 0 tl [.inr (.inr (10, 0, 0)), .inl (v1), .inl (v2), .inl (v3)] [] σ) := by
  unfold J_Mod_add_37
  refine ox_R_lp (ψ := (fun (s : Int × ox_H) => match s with | (v3, σ) => ox_ev m_Mod_add (ox_zz ox_ms (n + 0)) 37 0 tl [.inr (.inr (10, 0, 0)), .inl (v1), .inl (v2), .inl (v3)] [] σ)) ?_ ox_fu (v3, σ)
  intro s
  obtain ⟨v3, σ⟩ := s
  unfold B_Mod_add_37
  refine ox_R_to 2 (Y := if v3 ≤ 0 then ox_ev m_Mod_add (ox_zz ox_ms (n + 0)) 84 0 tl [ox_d, ox_d, ox_d, ox_d] [] σ else ox_ev m_Mod_add (ox_zz ox_ms (n + 0)) 41 0 tl [.inr (.inr (10, 0, 0)), .inl (v1), .inl (v2), .inl (v3)] [] σ) rfl ?_
  refine ox_R_if (fun _ => ?_) (fun _ => ?_)
  · exact ox_R_map ((L_Mod_add_84 σ n tl))
  · refine ox_R_to 9 (Y := if 0 ≤ v1 ∧ v1.toNat < 60 then ox_ev m_Mod_add (ox_zz ox_ms (n + 0)) 55 0 tl [.inr (.inr (10, 0, 0)), .inl (v1), .inl (v2), .inl (v3)] [.inl (σ 10 0 1 v1.toNat), .inl (ox_w (24 * v1)), .inr (.inr (110, 0, 0))] σ else none) rfl ?_
    refine ox_R_if (fun _ => ?_) (fun _ => ox_R_none)
    refine ox_R_to 5 (Y := if v3 = 0 then none else ox_ev m_Mod_add (ox_zz ox_ms (n + 0)) 61 0 tl [.inr (.inr (10, 0, 0)), .inl (v1), .inl (v2), .inl (v3)] [.inl (ox_w (Int.tdiv v2 v3)), .inl (48), .inl (ox_w ((ox_w (24 * v1)) + (σ 10 0 1 v1.toNat))), .inr (.inr (110, 0, 0))] σ) rfl ?_
    refine ox_R_if (fun _ => ox_R_none) (fun _ => ?_)
    refine ox_R_to 4 (Y := if 0 ≤ (ox_w ((ox_w (24 * v1)) + (σ 10 0 1 v1.toNat))) ∧ (ox_w ((ox_w (24 * v1)) + (σ 10 0 1 v1.toNat))).toNat < 1440 then ox_ev m_Mod_add (ox_zz ox_ms (n + 0)) 66 0 tl [.inr (.inr (10, 0, 0)), .inl (v1), .inl (v2), .inl (v3)] [] (ox_up σ 10 0 0 ((ox_w ((ox_w (24 * v1)) + (σ 10 0 1 v1.toNat))).toNat) (ox_w (48 + (Int.tmod (ox_w (Int.tdiv v2 v3)) 10)))) else none) rfl ?_
    refine ox_R_if (fun _ => ?_) (fun _ => ox_R_none)
    refine ox_R_to 5 (Y := if 0 ≤ v1 ∧ v1.toNat < 60 then ox_ev m_Mod_add (ox_zz ox_ms (n + 0)) 73 0 tl [.inr (.inr (10, 0, 0)), .inl (v1), .inl (v2), .inl (v3)] [.inl (σ 10 0 1 v1.toNat), .inl (v1), .inr (.inr (110, 0, 1))] (ox_up σ 10 0 0 ((ox_w ((ox_w (24 * v1)) + (σ 10 0 1 v1.toNat))).toNat) (ox_w (48 + (Int.tmod (ox_w (Int.tdiv v2 v3)) 10)))) else none) rfl ?_
    refine ox_R_if (fun _ => ?_) (fun _ => ox_R_none)
    refine ox_R_to 3 (Y := if 0 ≤ v1 ∧ v1.toNat < 60 then ox_ev m_Mod_add (ox_zz ox_ms (n + 0)) 76 0 tl [.inr (.inr (10, 0, 0)), .inl (v1), .inl (v2), .inl (v3)] [] (ox_up (ox_up σ 10 0 0 ((ox_w ((ox_w (24 * v1)) + (σ 10 0 1 v1.toNat))).toNat) (ox_w (48 + (Int.tmod (ox_w (Int.tdiv v2 v3)) 10)))) 10 0 1 v1.toNat (ox_w ((σ 10 0 1 v1.toNat) + 1))) else none) rfl ?_
    refine ox_R_if (fun _ => ?_) (fun _ => ox_R_none)
    refine ox_R_to 5 (Y := ox_ev m_Mod_add (ox_zz ox_ms (n + 0)) 37 0 tl [.inr (.inr (10, 0, 0)), .inl (v1), .inl (v2), .inl (ox_w (Int.tdiv v3 10))] [] (ox_up (ox_up σ 10 0 0 ((ox_w ((ox_w (24 * v1)) + (σ 10 0 1 v1.toNat))).toNat) (ox_w (48 + (Int.tmod (ox_w (Int.tdiv v2 v3)) 10)))) 10 0 1 v1.toNat (ox_w ((σ 10 0 1 v1.toNat) + 1)))) rfl ?_
    exact ox_R_ret rfl
def J_Mod_add_36  (v1 : Int) (v2 : Int) (s0 : Int) (σ : ox_H) : Option ox_H := (J_Mod_add_37 v1 v2 s0 σ)
theorem L_Mod_add_36  (v1 : Int) (v2 : Int) (s0 : Int) (σ : ox_H) (n tl : Nat) : ox_R (fun r => some ((fun r : ox_H => ((.inl none, r) : ox_O)) r)) (J_Mod_add_36 v1 v2 s0 σ) (ox_ev m_Mod_add (ox_zz ox_ms (n + 0)) 36 0 tl [.inr (.inr (10, 0, 0)), .inl (v1), .inl (v2), ox_d] [.inl (s0)] σ) := by
  unfold J_Mod_add_36
  refine ox_R_to 1 (Y := ox_ev m_Mod_add (ox_zz ox_ms (n + 0)) 37 0 tl [.inr (.inr (10, 0, 0)), .inl (v1), .inl (v2), .inl (s0)] [] σ) rfl ?_
  exact (L_Mod_add_37 v1 v2 s0 σ n tl)
def F_Mod_add  (a1 : Int) (a2 : Int) (σ : ox_H) : Option (ox_H) := if a2 ≤ 999 then (if a2 ≤ 99 then (if a2 ≤ 9 then (J_Mod_add_36 a1 a2 1 σ) else (J_Mod_add_36 a1 a2 10 σ)) else (J_Mod_add_36 a1 a2 100 σ)) else (J_Mod_add_36 a1 a2 1000 σ)
theorem L_Mod_add  (a1 : Int) (a2 : Int) (σ : ox_H) (n tl : Nat) : ox_R (fun r => some ((fun r : ox_H => ((.inl none, r) : ox_O)) r)) (F_Mod_add a1 a2 σ) (ox_zz ox_ms (n + 1) 97 tl [.inr (.inr (10, 0, 0)), .inl (a1), .inl (a2)] σ) := by
  unfold F_Mod_add
  refine ox_R_of (Y := ox_ev m_Mod_add (ox_zz ox_ms (n + 0)) 0 0 tl [.inr (.inr (10, 0, 0)), .inl (a1), .inl (a2), ox_d] [] σ) rfl ?_
  refine ox_R_to 3 (Y := if a2 ≤ 999 then ox_ev m_Mod_add (ox_zz ox_ms (n + 0)) 13 0 tl [.inr (.inr (10, 0, 0)), .inl (a1), .inl (a2), ox_d] [] σ else ox_ev m_Mod_add (ox_zz ox_ms (n + 0)) 7 0 tl [.inr (.inr (10, 0, 0)), .inl (a1), .inl (a2), ox_d] [] σ) rfl ?_
  refine ox_R_if (fun _ => ?_) (fun _ => ?_)
  · refine ox_R_to 3 (Y := if a2 ≤ 99 then ox_ev m_Mod_add (ox_zz ox_ms (n + 0)) 24 0 tl [.inr (.inr (10, 0, 0)), .inl (a1), .inl (a2), ox_d] [] σ else ox_ev m_Mod_add (ox_zz ox_ms (n + 0)) 19 0 tl [.inr (.inr (10, 0, 0)), .inl (a1), .inl (a2), ox_d] [] σ) rfl ?_
    refine ox_R_if (fun _ => ?_) (fun _ => ?_)
    · refine ox_R_to 3 (Y := if a2 ≤ 9 then ox_ev m_Mod_add (ox_zz ox_ms (n + 0)) 35 0 tl [.inr (.inr (10, 0, 0)), .inl (a1), .inl (a2), ox_d] [] σ else ox_ev m_Mod_add (ox_zz ox_ms (n + 0)) 30 0 tl [.inr (.inr (10, 0, 0)), .inl (a1), .inl (a2), ox_d] [] σ) rfl ?_
      refine ox_R_if (fun _ => ?_) (fun _ => ?_)
      · refine ox_R_to 1 (Y := ox_ev m_Mod_add (ox_zz ox_ms (n + 0)) 36 0 tl [.inr (.inr (10, 0, 0)), .inl (a1), .inl (a2), ox_d] [.inl (1)] σ) rfl ?_
        exact (L_Mod_add_36 a1 a2 1 σ n tl)
      · refine ox_R_to 2 (Y := ox_ev m_Mod_add (ox_zz ox_ms (n + 0)) 36 0 tl [.inr (.inr (10, 0, 0)), .inl (a1), .inl (a2), ox_d] [.inl (10)] σ) rfl ?_
        exact (L_Mod_add_36 a1 a2 10 σ n tl)
    · refine ox_R_to 2 (Y := ox_ev m_Mod_add (ox_zz ox_ms (n + 0)) 36 0 tl [.inr (.inr (10, 0, 0)), .inl (a1), .inl (a2), ox_d] [.inl (100)] σ) rfl ?_
      exact (L_Mod_add_36 a1 a2 100 σ n tl)
  · refine ox_R_to 2 (Y := ox_ev m_Mod_add (ox_zz ox_ms (n + 0)) 36 0 tl [.inr (.inr (10, 0, 0)), .inl (a1), .inl (a2), ox_d] [.inl (1000)] σ) rfl ?_
    exact (L_Mod_add_36 a1 a2 1000 σ n tl)
def F_Mod_add1  (a1 : Int) (a2 : Int) (σ : ox_H) : Option (ox_H) := if 0 ≤ a1 ∧ a1.toNat < 60 then (if 0 ≤ (ox_w ((ox_w (24 * a1)) + (σ 10 0 1 a1.toNat))) ∧ (ox_w ((ox_w (24 * a1)) + (σ 10 0 1 a1.toNat))).toNat < 1440 then (if 0 ≤ a1 ∧ a1.toNat < 60 then (if 0 ≤ a1 ∧ a1.toNat < 60 then (some (ox_up (ox_up σ 10 0 0 ((ox_w ((ox_w (24 * a1)) + (σ 10 0 1 a1.toNat))).toNat) a2) 10 0 1 a1.toNat (ox_w ((σ 10 0 1 a1.toNat) + 1)))) else none) else none) else none) else none
theorem L_Mod_add1  (a1 : Int) (a2 : Int) (σ : ox_H) (n tl : Nat) : ox_R (fun r => some ((fun r : ox_H => ((.inl none, r) : ox_O)) r)) (F_Mod_add1 a1 a2 σ) (ox_zz ox_ms (n + 1) 98 tl [.inr (.inr (10, 0, 0)), .inl (a1), .inl (a2)] σ) := by
  unfold F_Mod_add1
  refine ox_R_of (Y := ox_ev m_Mod_add1 (ox_zz ox_ms (n + 0)) 0 0 tl [.inr (.inr (10, 0, 0)), .inl (a1), .inl (a2)] [] σ) rfl ?_
  refine ox_R_to 9 (Y := if 0 ≤ a1 ∧ a1.toNat < 60 then ox_ev m_Mod_add1 (ox_zz ox_ms (n + 0)) 14 0 tl [.inr (.inr (10, 0, 0)), .inl (a1), .inl (a2)] [.inl (σ 10 0 1 a1.toNat), .inl (ox_w (24 * a1)), .inr (.inr (110, 0, 0))] σ else none) rfl ?_
  refine ox_R_if (fun _ => ?_) (fun _ => ox_R_none)
  refine ox_R_to 3 (Y := if 0 ≤ (ox_w ((ox_w (24 * a1)) + (σ 10 0 1 a1.toNat))) ∧ (ox_w ((ox_w (24 * a1)) + (σ 10 0 1 a1.toNat))).toNat < 1440 then ox_ev m_Mod_add1 (ox_zz ox_ms (n + 0)) 17 0 tl [.inr (.inr (10, 0, 0)), .inl (a1), .inl (a2)] [] (ox_up σ 10 0 0 ((ox_w ((ox_w (24 * a1)) + (σ 10 0 1 a1.toNat))).toNat) a2) else none) rfl ?_
  refine ox_R_if (fun _ => ?_) (fun _ => ox_R_none)
  refine ox_R_to 5 (Y := if 0 ≤ a1 ∧ a1.toNat < 60 then ox_ev m_Mod_add1 (ox_zz ox_ms (n + 0)) 24 0 tl [.inr (.inr (10, 0, 0)), .inl (a1), .inl (a2)] [.inl (σ 10 0 1 a1.toNat), .inl (a1), .inr (.inr (110, 0, 1))] (ox_up σ 10 0 0 ((ox_w ((ox_w (24 * a1)) + (σ 10 0 1 a1.toNat))).toNat) a2) else none) rfl ?_
  refine ox_R_if (fun _ => ?_) (fun _ => ox_R_none)
  refine ox_R_to 3 (Y := if 0 ≤ a1 ∧ a1.toNat < 60 then ox_ev m_Mod_add1 (ox_zz ox_ms (n + 0)) 27 0 tl [.inr (.inr (10, 0, 0)), .inl (a1), .inl (a2)] [] (ox_up (ox_up σ 10 0 0 ((ox_w ((ox_w (24 * a1)) + (σ 10 0 1 a1.toNat))).toNat) a2) 10 0 1 a1.toNat (ox_w ((σ 10 0 1 a1.toNat) + 1))) else none) rfl ?_
  refine ox_R_if (fun _ => ?_) (fun _ => ox_R_none)
  refine ox_R_to 1 (Y := some (.inl none, (ox_up (ox_up σ 10 0 0 ((ox_w ((ox_w (24 * a1)) + (σ 10 0 1 a1.toNat))).toNat) a2) 10 0 1 a1.toNat (ox_w ((σ 10 0 1 a1.toNat) + 1))))) rfl ?_
  exact ox_R_ret rfl
def F_Mod_isOpen  (a1 : Int) (σ : ox_H) : Option (Int × ox_H) := (F_Mod_stateOf a1 σ).bind fun r1 => ((F_Mod_in r1.1 0 1 r1.2).bind fun r2 => (some (r2 % 2, r1.2)))
theorem L_Mod_isOpen  (a1 : Int) (σ : ox_H) (n tl : Nat) : ox_R (fun r => some ((fun r : Int × ox_H => ((.inl (some (.inl r.1)), r.2) : ox_O)) r)) (F_Mod_isOpen a1 σ) (ox_zz ox_ms (n + 6) 99 tl [.inr (.inr (10, 0, 0)), .inl (a1)] σ) := by
  unfold F_Mod_isOpen
  refine ox_R_of (Y := ox_ev m_Mod_isOpen (ox_zz ox_ms (n + 5)) 0 0 tl [.inr (.inr (10, 0, 0)), .inl (a1)] [] σ) rfl ?_
  refine ox_R_to 4 (Y := ox_back m_Mod_isOpen 3 1 [.inr (.inr (10, 0, 0))] ((ox_zz ox_ms (n + 5)) 75 tl [.inr (.inr (10, 0, 0)), .inl (a1)] σ) (fun pc9 x9 st9 σ9 => ox_ev m_Mod_isOpen (ox_zz ox_ms (n + 5)) pc9 0 tl (ox_kl (m_Mod_isOpen.2.2.1 pc9) (ox_xl x9 [.inr (.inr (10, 0, 0)), .inl (a1)])) st9 σ9)) rfl ?_
  refine ox_R_call (fc := (fun r : Int × ox_H => ((.inl (some (.inl r.1)), r.2) : ox_O))) (L_Mod_stateOf a1 σ (n + 0) tl) (fun r1 => ?_)
  refine ox_R_of (Y := ox_ev m_Mod_isOpen (ox_zz ox_ms (n + 5)) 6 0 tl [.inr (.inr (10, 0, 0)), .inl (a1)] [.inl (r1.1), .inr (.inr (10, 0, 0))] r1.2) rfl ?_
  refine ox_R_to 3 (Y := ox_back m_Mod_isOpen 8 1 [] ((ox_zz ox_ms (n + 5)) 44 tl [.inr (.inr (10, 0, 0)), .inl (r1.1), .inl (0), .inl (1)] r1.2) (fun pc9 x9 st9 σ9 => ox_ev m_Mod_isOpen (ox_zz ox_ms (n + 5)) pc9 0 tl (ox_kl (m_Mod_isOpen.2.2.1 pc9) (ox_xl x9 [.inr (.inr (10, 0, 0)), .inl (a1)])) st9 σ9)) rfl ?_
  refine ox_R_call (fc := (fun r : Int => ((.inl (some (.inl r)), r1.2) : ox_O))) (L_Mod_in r1.1 0 1 r1.2 (n + 4) tl) (fun r2 => ?_)
  refine ox_R_of (Y := ox_ev m_Mod_isOpen (ox_zz ox_ms (n + 5)) 11 0 tl [.inr (.inr (10, 0, 0)), .inl (a1)] [.inl (r2)] r1.2) rfl ?_
  refine ox_R_to 1 (Y := some (.inl (some (.inl (r2 % 2))), r1.2)) rfl ?_
  exact ox_R_ret rfl
def J_Mod_canBeDone_124  (v2 : Int) (σ : ox_H) : Option (Int × ox_H) := some (v2 % 2, σ)
theorem L_Mod_canBeDone_124  (v2 : Int) (σ : ox_H) (n tl : Nat) : ox_R (fun r => some ((fun r : Int × ox_H => ((.inl (some (.inl r.1)), r.2) : ox_O)) r)) (J_Mod_canBeDone_124 v2 σ) (ox_ev m_Mod_canBeDone (ox_zz ox_ms (n + 7)) 124 0 tl [ox_d, ox_d, .inl (v2), ox_d, ox_d, ox_d, ox_d] [] σ) := by
  unfold J_Mod_canBeDone_124
  refine ox_R_to 2 (Y := some (.inl (some (.inl (v2 % 2))), σ)) rfl ?_
  exact ox_R_ret rfl
def J_Mod_canBeDone_116  (v1 : Int) (v4 : Int) (v5 : Int) (v6 : Int) (s0 : Int) (s1 : Int) (σ : ox_H) : Option (((Int × Int × ox_H) ⊕ Int × ox_H)) := some (.inl (ox_and s1 s0, ox_w (v6 + 1), σ))
theorem L_Mod_canBeDone_116  (v1 : Int) (v4 : Int) (v5 : Int) (v6 : Int) (s0 : Int) (s1 : Int) (σ : ox_H) (n tl : Nat) : ox_R (Sum.elim (fun (s : Int × Int × ox_H) => match s with | (v2, v6, σ) => ox_ev m_Mod_canBeDone (ox_zz ox_ms (n + 7)) 79 0 tl [.inr (.inr (10, 0, 0)), .inl (v1), .inl (v2), ox_d, .inl (v4), .inl (v5), .inl (v6)] [] σ) (fun r => some ((fun r : Int × ox_H => ((.inl (some (.inl r.1)), r.2) : ox_O)) r))) (J_Mod_canBeDone_116 v1 v4 v5 v6 s0 s1 σ) (ox_ev m_Mod_canBeDone (ox_zz ox_ms (n + 7)) 116 0 tl [.inr (.inr (10, 0, 0)), .inl (v1), ox_d, ox_d, .inl (v4), .inl (v5), .inl (v6)] [.inl (s0), .inl (s1)] σ) := by
  unfold J_Mod_canBeDone_116
  refine ox_R_to 4 (Y := ox_ev m_Mod_canBeDone (ox_zz ox_ms (n + 7)) 79 0 tl [.inr (.inr (10, 0, 0)), .inl (v1), .inl (ox_and s1 s0), ox_d, .inl (v4), .inl (v5), .inl (ox_w (v6 + 1))] [] σ) rfl ?_
  exact ox_R_ret rfl
def J_Mod_canBeDone_111  (v1 : Int) (v4 : Int) (v5 : Int) (v6 : Int) (s0 : Int) (σ : ox_H) : Option (((Int × Int × ox_H) ⊕ Int × ox_H)) := (J_Mod_canBeDone_116 v1 v4 v5 v6 1 s0 σ)
theorem L_Mod_canBeDone_111  (v1 : Int) (v4 : Int) (v5 : Int) (v6 : Int) (s0 : Int) (σ : ox_H) (n tl : Nat) : ox_R (Sum.elim (fun (s : Int × Int × ox_H) => match s with | (v2, v6, σ) => ox_ev m_Mod_canBeDone (ox_zz ox_ms (n + 7)) 79 0 tl [.inr (.inr (10, 0, 0)), .inl (v1), .inl (v2), ox_d, .inl (v4), .inl (v5), .inl (v6)] [] σ) (fun r => some ((fun r : Int × ox_H => ((.inl (some (.inl r.1)), r.2) : ox_O)) r))) (J_Mod_canBeDone_111 v1 v4 v5 v6 s0 σ) (ox_ev m_Mod_canBeDone (ox_zz ox_ms (n + 7)) 111 0 tl [.inr (.inr (10, 0, 0)), .inl (v1), ox_d, ox_d, .inl (v4), .inl (v5), .inl (v6)] [.inl (s0)] σ) := by
  unfold J_Mod_canBeDone_111
  refine ox_R_to 2 (Y := ox_ev m_Mod_canBeDone (ox_zz ox_ms (n + 7)) 116 0 tl [.inr (.inr (10, 0, 0)), .inl (v1), ox_d, ox_d, .inl (v4), .inl (v5), .inl (v6)] [.inl (1), .inl (s0)] σ) rfl ?_
  exact (L_Mod_canBeDone_116 v1 v4 v5 v6 1 s0 σ n tl)
def B_Mod_canBeDone_79  (v1 : Int) (v4 : Int) (v5 : Int) : (Int × Int × ox_H) → Option (((Int × Int × ox_H) ⊕ Int × ox_H)) := fun (v2, v6, σ) => if v1 ≤ v6 then ((J_Mod_canBeDone_124 v2 σ).map .inr) else (if v5 = 0 then ((J_Mod_canBeDone_124 v2 σ).map .inr) else ((F_Mod_parent v6 σ).bind fun r1 => (if r1.1 = v4 then ((F_Mod_isOpen v6 r1.2).bind fun r2 => (if r2.1 = 0 then (J_Mod_canBeDone_111 v1 v4 v5 v6 v2 r2.2) else (J_Mod_canBeDone_116 v1 v4 v5 v6 0 v2 r2.2))) else (J_Mod_canBeDone_111 v1 v4 v5 v6 v2 r1.2))))
def J_Mod_canBeDone_79  (v1 : Int) (v2 : Int) (v4 : Int) (v5 : Int) (v6 : Int) (σ : ox_H) : Option (Int × ox_H) := ox_lp (B_Mod_canBeDone_79 v1 v4 v5) ox_fu (v2, v6, σ)
theorem L_Mod_canBeDone_79  (v1 : Int) (v2 : Int) (v4 : Int) (v5 : Int) (v6 : Int) (σ : ox_H) (n tl : Nat) : ox_R (fun r => some ((fun r : Int × ox_H => ((.inl (some (.inl r.1)), r.2) : ox_O)) r)) (J_Mod_canBeDone_79 v1 v2 v4 v5 v6 σ) (ox_ev m_Mod_canBeDone (ox_zz ox_ms (n + 7)) 79 0 tl [.inr (.inr (10, 0, 0)), .inl (v1), .inl (v2), ox_d, .inl (v4), .inl (v5), .inl (v6)] [] σ) := by
  unfold J_Mod_canBeDone_79
  refine ox_R_lp (ψ := (fun (s : Int × Int × ox_H) => match s with | (v2, v6, σ) => ox_ev m_Mod_canBeDone (ox_zz ox_ms (n + 7)) 79 0 tl [.inr (.inr (10, 0, 0)), .inl (v1), .inl (v2), ox_d, .inl (v4), .inl (v5), .inl (v6)] [] σ)) ?_ ox_fu (v2, v6, σ)
  intro s
  obtain ⟨v2, v6, σ⟩ := s
  unfold B_Mod_canBeDone_79
  refine ox_R_to 3 (Y := if v1 ≤ v6 then ox_ev m_Mod_canBeDone (ox_zz ox_ms (n + 7)) 124 0 tl [ox_d, ox_d, .inl (v2), ox_d, ox_d, ox_d, ox_d] [] σ else ox_ev m_Mod_canBeDone (ox_zz ox_ms (n + 7)) 85 0 tl [.inr (.inr (10, 0, 0)), .inl (v1), .inl (v2), ox_d, .inl (v4), .inl (v5), .inl (v6)] [] σ) rfl ?_
  refine ox_R_if (fun _ => ?_) (fun _ => ?_)
  · exact ox_R_map ((L_Mod_canBeDone_124 v2 σ n tl))
  · refine ox_R_to 2 (Y := if v5 = 0 then ox_ev m_Mod_canBeDone (ox_zz ox_ms (n + 7)) 124 0 tl [ox_d, ox_d, .inl (v2), ox_d, ox_d, ox_d, ox_d] [] σ else ox_ev m_Mod_canBeDone (ox_zz ox_ms (n + 7)) 90 0 tl [.inr (.inr (10, 0, 0)), .inl (v1), .inl (v2), ox_d, .inl (v4), .inl (v5), .inl (v6)] [] σ) rfl ?_
    refine ox_R_if (fun _ => ?_) (fun _ => ?_)
    · exact ox_R_map ((L_Mod_canBeDone_124 v2 σ n tl))
    · refine ox_R_to 4 (Y := ox_back m_Mod_canBeDone 94 1 [.inl (v2)] ((ox_zz ox_ms (n + 7)) 76 tl [.inr (.inr (10, 0, 0)), .inl (v6)] σ) (fun pc9 x9 st9 σ9 => ox_ev m_Mod_canBeDone (ox_zz ox_ms (n + 7)) pc9 0 tl (ox_kl (m_Mod_canBeDone.2.2.1 pc9) (ox_xl x9 [.inr (.inr (10, 0, 0)), .inl (v1), .inl (v2), ox_d, .inl (v4), .inl (v5), .inl (v6)])) st9 σ9)) rfl ?_
      refine ox_R_call (fc := (fun r : Int × ox_H => ((.inl (some (.inl r.1)), r.2) : ox_O))) (L_Mod_parent v6 σ (n + 1) tl) (fun r1 => ?_)
      refine ox_R_of (Y := ox_ev m_Mod_canBeDone (ox_zz ox_ms (n + 7)) 97 0 tl [.inr (.inr (10, 0, 0)), .inl (v1), .inl (v2), ox_d, .inl (v4), .inl (v5), .inl (v6)] [.inl (r1.1), .inl (v2)] r1.2) rfl ?_
      refine ox_R_to 2 (Y := if r1.1 = v4 then ox_ev m_Mod_canBeDone (ox_zz ox_ms (n + 7)) 102 0 tl [.inr (.inr (10, 0, 0)), .inl (v1), .inl (v2), ox_d, .inl (v4), .inl (v5), .inl (v6)] [.inl (v2)] r1.2 else ox_ev m_Mod_canBeDone (ox_zz ox_ms (n + 7)) 111 0 tl [.inr (.inr (10, 0, 0)), .inl (v1), ox_d, ox_d, .inl (v4), .inl (v5), .inl (v6)] [.inl (v2)] r1.2) rfl ?_
      refine ox_R_if (fun _ => ?_) (fun _ => ?_)
      · refine ox_R_to 3 (Y := ox_back m_Mod_canBeDone 105 1 [.inl (v2)] ((ox_zz ox_ms (n + 7)) 99 tl [.inr (.inr (10, 0, 0)), .inl (v6)] r1.2) (fun pc9 x9 st9 σ9 => ox_ev m_Mod_canBeDone (ox_zz ox_ms (n + 7)) pc9 0 tl (ox_kl (m_Mod_canBeDone.2.2.1 pc9) (ox_xl x9 [.inr (.inr (10, 0, 0)), .inl (v1), .inl (v2), ox_d, .inl (v4), .inl (v5), .inl (v6)])) st9 σ9)) rfl ?_
        refine ox_R_call (fc := (fun r : Int × ox_H => ((.inl (some (.inl r.1)), r.2) : ox_O))) (L_Mod_isOpen v6 r1.2 (n + 1) tl) (fun r2 => ?_)
        refine ox_R_of (Y := ox_ev m_Mod_canBeDone (ox_zz ox_ms (n + 7)) 108 0 tl [.inr (.inr (10, 0, 0)), .inl (v1), .inl (v2), ox_d, .inl (v4), .inl (v5), .inl (v6)] [.inl (r2.1), .inl (v2)] r2.2) rfl ?_
        refine ox_R_to 1 (Y := if r2.1 = 0 then ox_ev m_Mod_canBeDone (ox_zz ox_ms (n + 7)) 111 0 tl [.inr (.inr (10, 0, 0)), .inl (v1), ox_d, ox_d, .inl (v4), .inl (v5), .inl (v6)] [.inl (v2)] r2.2 else ox_ev m_Mod_canBeDone (ox_zz ox_ms (n + 7)) 115 0 tl [.inr (.inr (10, 0, 0)), .inl (v1), .inl (v2), ox_d, .inl (v4), .inl (v5), .inl (v6)] [.inl (v2)] r2.2) rfl ?_
        refine ox_R_if (fun _ => ?_) (fun _ => ?_)
        · exact (L_Mod_canBeDone_111 v1 v4 v5 v6 v2 r2.2 n tl)
        · refine ox_R_to 1 (Y := ox_ev m_Mod_canBeDone (ox_zz ox_ms (n + 7)) 116 0 tl [.inr (.inr (10, 0, 0)), .inl (v1), ox_d, ox_d, .inl (v4), .inl (v5), .inl (v6)] [.inl (0), .inl (v2)] r2.2) rfl ?_
          exact (L_Mod_canBeDone_116 v1 v4 v5 v6 0 v2 r2.2 n tl)
      · exact (L_Mod_canBeDone_111 v1 v4 v5 v6 v2 r1.2 n tl)
def J_Mod_canBeDone_71  (v1 : Int) (v2 : Int) (v4 : Int) (s0 : Int) (σ : ox_H) : Option (Int × ox_H) := (J_Mod_canBeDone_79 v1 v2 v4 s0 (ox_w (v4 + 1)) σ)
theorem L_Mod_canBeDone_71  (v1 : Int) (v2 : Int) (v4 : Int) (s0 : Int) (σ : ox_H) (n tl : Nat) : ox_R (fun r => some ((fun r : Int × ox_H => ((.inl (some (.inl r.1)), r.2) : ox_O)) r)) (J_Mod_canBeDone_71 v1 v2 v4 s0 σ) (ox_ev m_Mod_canBeDone (ox_zz ox_ms (n + 7)) 71 0 tl [.inr (.inr (10, 0, 0)), .inl (v1), .inl (v2), ox_d, .inl (v4), ox_d, ox_d] [.inl (s0)] σ) := by
  unfold J_Mod_canBeDone_71
  refine ox_R_to 5 (Y := ox_ev m_Mod_canBeDone (ox_zz ox_ms (n + 7)) 79 0 tl [.inr (.inr (10, 0, 0)), .inl (v1), .inl (v2), ox_d, .inl (v4), .inl (s0), .inl (ox_w (v4 + 1))] [] σ) rfl ?_
  exact (L_Mod_canBeDone_79 v1 v2 v4 s0 (ox_w (v4 + 1)) σ n tl)
def J_Mod_canBeDone_70  (v1 : Int) (v2 : Int) (v4 : Int) (σ : ox_H) : Option (Int × ox_H) := (J_Mod_canBeDone_71 v1 v2 v4 0 σ)
theorem L_Mod_canBeDone_70  (v1 : Int) (v2 : Int) (v4 : Int) (σ : ox_H) (n tl : Nat) : ox_R (fun r => some ((fun r : Int × ox_H => ((.inl (some (.inl r.1)), r.2) : ox_O)) r)) (J_Mod_canBeDone_70 v1 v2 v4 σ) (ox_ev m_Mod_canBeDone (ox_zz ox_ms (n + 7)) 70 0 tl [.inr (.inr (10, 0, 0)), .inl (v1), .inl (v2), ox_d, .inl (v4), ox_d, ox_d] [] σ) := by
  unfold J_Mod_canBeDone_70
  refine ox_R_to 1 (Y := ox_ev m_Mod_canBeDone (ox_zz ox_ms (n + 7)) 71 0 tl [.inr (.inr (10, 0, 0)), .inl (v1), .inl (v2), ox_d, .inl (v4), ox_d, ox_d] [.inl (0)] σ) rfl ?_
  exact (L_Mod_canBeDone_71 v1 v2 v4 0 σ n tl)
def J_Mod_canBeDone_42  (v1 : Int) (v2 : Int) (σ : ox_H) : Option (Int × ox_H) := (F_Mod_parent v1 σ).bind fun r3 => (if r3.1 < 0 then (J_Mod_canBeDone_70 v1 v2 r3.1 r3.2) else ((F_Mod_has r3.1 111 r3.2).bind fun r4 => (if r4.1 = 1 then (J_Mod_canBeDone_71 v1 v2 r3.1 1 r4.2) else (J_Mod_canBeDone_70 v1 v2 r3.1 r4.2))))
theorem L_Mod_canBeDone_42  (v1 : Int) (v2 : Int) (σ : ox_H) (n tl : Nat) : ox_R (fun r => some ((fun r : Int × ox_H => ((.inl (some (.inl r.1)), r.2) : ox_O)) r)) (J_Mod_canBeDone_42 v1 v2 σ) (ox_ev m_Mod_canBeDone (ox_zz ox_ms (n + 7)) 42 0 tl [.inr (.inr (10, 0, 0)), .inl (v1), .inl (v2), ox_d, ox_d, ox_d, ox_d] [] σ) := by
  unfold J_Mod_canBeDone_42
  refine ox_R_to 3 (Y := ox_back m_Mod_canBeDone 44 1 [] ((ox_zz ox_ms (n + 7)) 76 tl [.inr (.inr (10, 0, 0)), .inl (v1)] σ) (fun pc9 x9 st9 σ9 => ox_ev m_Mod_canBeDone (ox_zz ox_ms (n + 7)) pc9 0 tl (ox_kl (m_Mod_canBeDone.2.2.1 pc9) (ox_xl x9 [.inr (.inr (10, 0, 0)), .inl (v1), .inl (v2), ox_d, ox_d, ox_d, ox_d])) st9 σ9)) rfl ?_
  refine ox_R_call (fc := (fun r : Int × ox_H => ((.inl (some (.inl r.1)), r.2) : ox_O))) (L_Mod_parent v1 σ (n + 1) tl) (fun r3 => ?_)
  refine ox_R_of (Y := ox_ev m_Mod_canBeDone (ox_zz ox_ms (n + 7)) 47 0 tl [.inr (.inr (10, 0, 0)), .inl (v1), .inl (v2), ox_d, ox_d, ox_d, ox_d] [.inl (r3.1)] r3.2) rfl ?_
  refine ox_R_to 3 (Y := if r3.1 < 0 then ox_ev m_Mod_canBeDone (ox_zz ox_ms (n + 7)) 70 0 tl [.inr (.inr (10, 0, 0)), .inl (v1), .inl (v2), ox_d, .inl (r3.1), ox_d, ox_d] [] r3.2 else ox_ev m_Mod_canBeDone (ox_zz ox_ms (n + 7)) 54 0 tl [.inr (.inr (10, 0, 0)), .inl (v1), .inl (v2), ox_d, .inl (r3.1), ox_d, ox_d] [] r3.2) rfl ?_
  refine ox_R_if (fun _ => ?_) (fun _ => ?_)
  · exact (L_Mod_canBeDone_70 v1 v2 r3.1 r3.2 n tl)
  · refine ox_R_to 4 (Y := ox_back m_Mod_canBeDone 59 1 [] ((ox_zz ox_ms (n + 7)) 82 tl [.inr (.inr (10, 0, 0)), .inl (r3.1), .inl (111)] r3.2) (fun pc9 x9 st9 σ9 => ox_ev m_Mod_canBeDone (ox_zz ox_ms (n + 7)) pc9 0 tl (ox_kl (m_Mod_canBeDone.2.2.1 pc9) (ox_xl x9 [.inr (.inr (10, 0, 0)), .inl (v1), .inl (v2), ox_d, .inl (r3.1), ox_d, ox_d])) st9 σ9)) rfl ?_
    refine ox_R_call (fc := (fun r : Int × ox_H => ((.inl (some (.inl r.1)), r.2) : ox_O))) (L_Mod_has r3.1 111 r3.2 (n + 0) tl) (fun r4 => ?_)
    refine ox_R_of (Y := ox_ev m_Mod_canBeDone (ox_zz ox_ms (n + 7)) 62 0 tl [.inr (.inr (10, 0, 0)), .inl (v1), .inl (v2), ox_d, .inl (r3.1), ox_d, ox_d] [.inl (r4.1)] r4.2) rfl ?_
    refine ox_R_to 2 (Y := if r4.1 = 1 then ox_ev m_Mod_canBeDone (ox_zz ox_ms (n + 7)) 66 0 tl [.inr (.inr (10, 0, 0)), .inl (v1), .inl (v2), ox_d, .inl (r3.1), ox_d, ox_d] [] r4.2 else ox_ev m_Mod_canBeDone (ox_zz ox_ms (n + 7)) 70 0 tl [.inr (.inr (10, 0, 0)), .inl (v1), .inl (v2), ox_d, .inl (r3.1), ox_d, ox_d] [] r4.2) rfl ?_
    refine ox_R_if (fun _ => ?_) (fun _ => ?_)
    · refine ox_R_to 2 (Y := ox_ev m_Mod_canBeDone (ox_zz ox_ms (n + 7)) 71 0 tl [.inr (.inr (10, 0, 0)), .inl (v1), .inl (v2), ox_d, .inl (r3.1), ox_d, ox_d] [.inl (1)] r4.2) rfl ?_
      exact (L_Mod_canBeDone_71 v1 v2 r3.1 1 r4.2 n tl)
    · exact (L_Mod_canBeDone_70 v1 v2 r3.1 r4.2 n tl)
def J_Mod_canBeDone_34  (v1 : Int) (v3 : Int) (v4 : Int) (s0 : Int) (s1 : Int) (σ : ox_H) : Option (((Int × Int × ox_H) ⊕ Int × ox_H)) := some (.inl (ox_and s1 s0, ox_w (v4 + 1), σ))
theorem L_Mod_canBeDone_34  (v1 : Int) (v3 : Int) (v4 : Int) (s0 : Int) (s1 : Int) (σ : ox_H) (n tl : Nat) : ox_R (Sum.elim (fun (s : Int × Int × ox_H) => match s with | (v2, v4, σ) => ox_ev m_Mod_canBeDone (ox_zz ox_ms (n + 7)) 13 0 tl [.inr (.inr (10, 0, 0)), .inl (v1), .inl (v2), .inl (v3), .inl (v4), ox_d, ox_d] [] σ) (fun r => some ((fun r : Int × ox_H => ((.inl (some (.inl r.1)), r.2) : ox_O)) r))) (J_Mod_canBeDone_34 v1 v3 v4 s0 s1 σ) (ox_ev m_Mod_canBeDone (ox_zz ox_ms (n + 7)) 34 0 tl [.inr (.inr (10, 0, 0)), .inl (v1), ox_d, .inl (v3), .inl (v4), ox_d, ox_d] [.inl (s0), .inl (s1)] σ) := by
  unfold J_Mod_canBeDone_34
  refine ox_R_to 4 (Y := ox_ev m_Mod_canBeDone (ox_zz ox_ms (n + 7)) 13 0 tl [.inr (.inr (10, 0, 0)), .inl (v1), .inl (ox_and s1 s0), .inl (v3), .inl (ox_w (v4 + 1)), ox_d, ox_d] [] σ) rfl ?_
  exact ox_R_ret rfl
def B_Mod_canBeDone_13  (v1 : Int) (v3 : Int) : (Int × Int × ox_H) → Option (((Int × Int × ox_H) ⊕ Int × ox_H)) := fun (v2, v4, σ) => if v3 ≤ v4 then ((J_Mod_canBeDone_42 v1 v2 σ).map .inr) else ((F_Mod_isOpen v4 σ).bind fun r5 => (if r5.1 = 0 then (J_Mod_canBeDone_34 v1 v3 v4 1 v2 r5.2) else (J_Mod_canBeDone_34 v1 v3 v4 0 v2 r5.2)))
def J_Mod_canBeDone_13  (v1 : Int) (v2 : Int) (v3 : Int) (v4 : Int) (σ : ox_H) : Option (Int × ox_H) := ox_lp (B_Mod_canBeDone_13 v1 v3) ox_fu (v2, v4, σ)
theorem L_Mod_canBeDone_13  (v1 : Int) (v2 : Int) (v3 : Int) (v4 : Int) (σ : ox_H) (n tl : Nat) : ox_R (fun r => some ((fun r : Int × ox_H => ((.inl (some (.inl r.1)), r.2) : ox_O)) r)) (J_Mod_canBeDone_13 v1 v2 v3 v4 σ) (ox_ev m_Mod_canBeDone (ox_zz ox_ms (n + 7)) 13 0 tl [.inr (.inr (10, 0, 0)), .inl (v1), .inl (v2), .inl (v3), .inl (v4), ox_d, ox_d] [] σ) := by
  unfold J_Mod_canBeDone_13
  refine ox_R_lp (ψ := (fun (s : Int × Int × ox_H) => match s with | (v2, v4, σ) => ox_ev m_Mod_canBeDone (ox_zz ox_ms (n + 7)) 13 0 tl [.inr (.inr (10, 0, 0)), .inl (v1), .inl (v2), .inl (v3), .inl (v4), ox_d, ox_d] [] σ)) ?_ ox_fu (v2, v4, σ)
  intro s
  obtain ⟨v2, v4, σ⟩ := s
  unfold B_Mod_canBeDone_13
  refine ox_R_to 3 (Y := if v3 ≤ v4 then ox_ev m_Mod_canBeDone (ox_zz ox_ms (n + 7)) 42 0 tl [.inr (.inr (10, 0, 0)), .inl (v1), .inl (v2), ox_d, ox_d, ox_d, ox_d] [] σ else ox_ev m_Mod_canBeDone (ox_zz ox_ms (n + 7)) 19 0 tl [.inr (.inr (10, 0, 0)), .inl (v1), .inl (v2), .inl (v3), .inl (v4), ox_d, ox_d] [] σ) rfl ?_
  refine ox_R_if (fun _ => ?_) (fun _ => ?_)
  · exact ox_R_map ((L_Mod_canBeDone_42 v1 v2 σ n tl))
  · refine ox_R_to 4 (Y := ox_back m_Mod_canBeDone 23 1 [.inl (v2)] ((ox_zz ox_ms (n + 7)) 99 tl [.inr (.inr (10, 0, 0)), .inl (v4)] σ) (fun pc9 x9 st9 σ9 => ox_ev m_Mod_canBeDone (ox_zz ox_ms (n + 7)) pc9 0 tl (ox_kl (m_Mod_canBeDone.2.2.1 pc9) (ox_xl x9 [.inr (.inr (10, 0, 0)), .inl (v1), .inl (v2), .inl (v3), .inl (v4), ox_d, ox_d])) st9 σ9)) rfl ?_
    refine ox_R_call (fc := (fun r : Int × ox_H => ((.inl (some (.inl r.1)), r.2) : ox_O))) (L_Mod_isOpen v4 σ (n + 1) tl) (fun r5 => ?_)
    refine ox_R_of (Y := ox_ev m_Mod_canBeDone (ox_zz ox_ms (n + 7)) 26 0 tl [.inr (.inr (10, 0, 0)), .inl (v1), .inl (v2), .inl (v3), .inl (v4), ox_d, ox_d] [.inl (r5.1), .inl (v2)] r5.2) rfl ?_
    refine ox_R_to 1 (Y := if r5.1 = 0 then ox_ev m_Mod_canBeDone (ox_zz ox_ms (n + 7)) 29 0 tl [.inr (.inr (10, 0, 0)), .inl (v1), .inl (v2), .inl (v3), .inl (v4), ox_d, ox_d] [.inl (v2)] r5.2 else ox_ev m_Mod_canBeDone (ox_zz ox_ms (n + 7)) 33 0 tl [.inr (.inr (10, 0, 0)), .inl (v1), .inl (v2), .inl (v3), .inl (v4), ox_d, ox_d] [.inl (v2)] r5.2) rfl ?_
    refine ox_R_if (fun _ => ?_) (fun _ => ?_)
    · refine ox_R_to 2 (Y := ox_ev m_Mod_canBeDone (ox_zz ox_ms (n + 7)) 34 0 tl [.inr (.inr (10, 0, 0)), .inl (v1), ox_d, .inl (v3), .inl (v4), ox_d, ox_d] [.inl (1), .inl (v2)] r5.2) rfl ?_
      exact (L_Mod_canBeDone_34 v1 v3 v4 1 v2 r5.2 n tl)
    · refine ox_R_to 1 (Y := ox_ev m_Mod_canBeDone (ox_zz ox_ms (n + 7)) 34 0 tl [.inr (.inr (10, 0, 0)), .inl (v1), ox_d, .inl (v3), .inl (v4), ox_d, ox_d] [.inl (0), .inl (v2)] r5.2) rfl ?_
      exact (L_Mod_canBeDone_34 v1 v3 v4 0 v2 r5.2 n tl)
def F_Mod_canBeDone  (a1 : Int) (σ : ox_H) : Option (Int × ox_H) := (F_Mod_last a1 σ).bind fun r6 => (J_Mod_canBeDone_13 a1 1 r6.1 (ox_w (a1 + 1)) r6.2)
theorem L_Mod_canBeDone  (a1 : Int) (σ : ox_H) (n tl : Nat) : ox_R (fun r => some ((fun r : Int × ox_H => ((.inl (some (.inl r.1)), r.2) : ox_O)) r)) (F_Mod_canBeDone a1 σ) (ox_zz ox_ms (n + 8) 100 tl [.inr (.inr (10, 0, 0)), .inl (a1)] σ) := by
  unfold F_Mod_canBeDone
  refine ox_R_of (Y := ox_ev m_Mod_canBeDone (ox_zz ox_ms (n + 7)) 0 0 tl [.inr (.inr (10, 0, 0)), .inl (a1), ox_d, ox_d, ox_d, ox_d, ox_d] [] σ) rfl ?_
  refine ox_R_to 5 (Y := ox_back m_Mod_canBeDone 4 1 [] ((ox_zz ox_ms (n + 7)) 77 tl [.inr (.inr (10, 0, 0)), .inl (a1)] σ) (fun pc9 x9 st9 σ9 => ox_ev m_Mod_canBeDone (ox_zz ox_ms (n + 7)) pc9 0 tl (ox_kl (m_Mod_canBeDone.2.2.1 pc9) (ox_xl x9 [.inr (.inr (10, 0, 0)), .inl (a1), .inl (1), ox_d, ox_d, ox_d, ox_d])) st9 σ9)) rfl ?_
  refine ox_R_call (fc := (fun r : Int × ox_H => ((.inl (some (.inl r.1)), r.2) : ox_O))) (L_Mod_last a1 σ (n + 1) tl) (fun r6 => ?_)
  refine ox_R_of (Y := ox_ev m_Mod_canBeDone (ox_zz ox_ms (n + 7)) 7 0 tl [.inr (.inr (10, 0, 0)), .inl (a1), .inl (1), ox_d, ox_d, ox_d, ox_d] [.inl (r6.1)] r6.2) rfl ?_
  refine ox_R_to 5 (Y := ox_ev m_Mod_canBeDone (ox_zz ox_ms (n + 7)) 13 0 tl [.inr (.inr (10, 0, 0)), .inl (a1), .inl (1), .inl (r6.1), .inl (ox_w (a1 + 1)), ox_d, ox_d] [] r6.2) rfl ?_
  exact (L_Mod_canBeDone_13 a1 1 r6.1 (ox_w (a1 + 1)) r6.2 n tl)
def J_Mod_state_410  (v1 : Int) (σ : ox_H) : Option (Int × ox_H) := (F_Mod_stateOf v1 σ).bind fun r1 => (some (r1.1, r1.2))
theorem L_Mod_state_410  (v1 : Int) (σ : ox_H) (n tl : Nat) : ox_R (fun r => some ((fun r : Int × ox_H => ((.inl (some (.inl r.1)), r.2) : ox_O)) r)) (J_Mod_state_410 v1 σ) (ox_ev m_Mod_state (ox_zz ox_ms (n + 8)) 410 0 tl [.inr (.inr (10, 0, 0)), .inl (v1), ox_d, ox_d, ox_d, ox_d, ox_d, ox_d, ox_d, ox_d, ox_d, ox_d] [] σ) := by
  unfold J_Mod_state_410
  refine ox_R_to 3 (Y := ox_back m_Mod_state 412 1 [] ((ox_zz ox_ms (n + 8)) 75 tl [.inr (.inr (10, 0, 0)), .inl (v1)] σ) (fun pc9 x9 st9 σ9 => ox_ev m_Mod_state (ox_zz ox_ms (n + 8)) pc9 0 tl (ox_kl (m_Mod_state.2.2.1 pc9) (ox_xl x9 [.inr (.inr (10, 0, 0)), .inl (v1), ox_d, ox_d, ox_d, ox_d, ox_d, ox_d, ox_d, ox_d, ox_d, ox_d])) st9 σ9)) rfl ?_
  refine ox_R_call (fc := (fun r : Int × ox_H => ((.inl (some (.inl r.1)), r.2) : ox_O))) (L_Mod_stateOf v1 σ (n + 3) tl) (fun r1 => ?_)
  refine ox_R_of (Y := ox_ev m_Mod_state (ox_zz ox_ms (n + 8)) 415 0 tl [.inr (.inr (10, 0, 0)), .inl (v1), ox_d, ox_d, ox_d, ox_d, ox_d, ox_d, ox_d, ox_d, ox_d, ox_d] [.inl (r1.1)] r1.2) rfl ?_
  refine ox_R_to 1 (Y := some (.inl (some (.inl (r1.1))), r1.2)) rfl ?_
  exact ox_R_ret rfl
def J_Mod_state_402  (v1 : Int) (v6 : Int) (v10 : Int) (σ : ox_H) : Option (Int × ox_H) := (F_Mod_add1 v6 v10 σ).bind fun r2 => (J_Mod_state_410 v1 r2)
theorem L_Mod_state_402  (v1 : Int) (v6 : Int) (v10 : Int) (σ : ox_H) (n tl : Nat) : ox_R (fun r => some ((fun r : Int × ox_H => ((.inl (some (.inl r.1)), r.2) : ox_O)) r)) (J_Mod_state_402 v1 v6 v10 σ) (ox_ev m_Mod_state (ox_zz ox_ms (n + 8)) 402 0 tl [.inr (.inr (10, 0, 0)), .inl (v1), ox_d, ox_d, ox_d, ox_d, .inl (v6), ox_d, ox_d, ox_d, .inl (v10), ox_d] [] σ) := by
  unfold J_Mod_state_402
  refine ox_R_to 4 (Y := ox_back m_Mod_state 407 0 [] ((ox_zz ox_ms (n + 8)) 98 tl [.inr (.inr (10, 0, 0)), .inl (v6), .inl (v10)] σ) (fun pc9 x9 st9 σ9 => ox_ev m_Mod_state (ox_zz ox_ms (n + 8)) pc9 0 tl (ox_kl (m_Mod_state.2.2.1 pc9) (ox_xl x9 [.inr (.inr (10, 0, 0)), .inl (v1), ox_d, ox_d, ox_d, ox_d, .inl (v6), ox_d, ox_d, ox_d, .inl (v10), ox_d])) st9 σ9)) rfl ?_
  refine ox_R_call (fc := (fun r : ox_H => ((.inl none, r) : ox_O))) (L_Mod_add1 v6 v10 σ (n + 7) tl) (fun r2 => ?_)
  refine ox_R_of (Y := ox_ev m_Mod_state (ox_zz ox_ms (n + 8)) 410 0 tl [.inr (.inr (10, 0, 0)), .inl (v1), ox_d, ox_d, ox_d, ox_d, ox_d, ox_d, ox_d, ox_d, ox_d, ox_d] [] r2) rfl ?_
  exact (L_Mod_state_410 v1 r2 n tl)
def J_Mod_state_372  (v1 : Int) (v6 : Int) (v9 : Int) (v10 : Int) (σ : ox_H) : Option (Int × ox_H) := (F_Mod_add1 v6 43 σ).bind fun r3 => ((F_Mod_add v6 v9 r3).bind fun r4 => (if v10 = 43 then (J_Mod_state_402 v1 v6 v10 r4) else (if v10 = 46 then (J_Mod_state_402 v1 v6 v10 r4) else (J_Mod_state_410 v1 r4))))
theorem L_Mod_state_372  (v1 : Int) (v6 : Int) (v9 : Int) (v10 : Int) (σ : ox_H) (n tl : Nat) : ox_R (fun r => some ((fun r : Int × ox_H => ((.inl (some (.inl r.1)), r.2) : ox_O)) r)) (J_Mod_state_372 v1 v6 v9 v10 σ) (ox_ev m_Mod_state (ox_zz ox_ms (n + 8)) 372 0 tl [.inr (.inr (10, 0, 0)), .inl (v1), ox_d, ox_d, ox_d, ox_d, .inl (v6), ox_d, ox_d, .inl (v9), .inl (v10), ox_d] [] σ) := by
  unfold J_Mod_state_372
  refine ox_R_to 4 (Y := ox_back m_Mod_state 377 0 [] ((ox_zz ox_ms (n + 8)) 98 tl [.inr (.inr (10, 0, 0)), .inl (v6), .inl (43)] σ) (fun pc9 x9 st9 σ9 => ox_ev m_Mod_state (ox_zz ox_ms (n + 8)) pc9 0 tl (ox_kl (m_Mod_state.2.2.1 pc9) (ox_xl x9 [.inr (.inr (10, 0, 0)), .inl (v1), ox_d, ox_d, ox_d, ox_d, .inl (v6), ox_d, ox_d, .inl (v9), .inl (v10), ox_d])) st9 σ9)) rfl ?_
  refine ox_R_call (fc := (fun r : ox_H => ((.inl none, r) : ox_O))) (L_Mod_add1 v6 43 σ (n + 7) tl) (fun r3 => ?_)
  refine ox_R_of (Y := ox_ev m_Mod_state (ox_zz ox_ms (n + 8)) 380 0 tl [.inr (.inr (10, 0, 0)), .inl (v1), ox_d, ox_d, ox_d, ox_d, .inl (v6), ox_d, ox_d, .inl (v9), .inl (v10), ox_d] [] r3) rfl ?_
  refine ox_R_to 4 (Y := ox_back m_Mod_state 385 0 [] ((ox_zz ox_ms (n + 8)) 97 tl [.inr (.inr (10, 0, 0)), .inl (v6), .inl (v9)] r3) (fun pc9 x9 st9 σ9 => ox_ev m_Mod_state (ox_zz ox_ms (n + 8)) pc9 0 tl (ox_kl (m_Mod_state.2.2.1 pc9) (ox_xl x9 [.inr (.inr (10, 0, 0)), .inl (v1), ox_d, ox_d, ox_d, ox_d, .inl (v6), ox_d, ox_d, .inl (v9), .inl (v10), ox_d])) st9 σ9)) rfl ?_
  refine ox_R_call (fc := (fun r : ox_H => ((.inl none, r) : ox_O))) (L_Mod_add v6 v9 r3 (n + 7) tl) (fun r4 => ?_)
  refine ox_R_of (Y := ox_ev m_Mod_state (ox_zz ox_ms (n + 8)) 388 0 tl [.inr (.inr (10, 0, 0)), .inl (v1), ox_d, ox_d, ox_d, ox_d, .inl (v6), ox_d, ox_d, .inl (v9), .inl (v10), ox_d] [] r4) rfl ?_
  refine ox_R_to 3 (Y := if v10 = 43 then ox_ev m_Mod_state (ox_zz ox_ms (n + 8)) 402 0 tl [.inr (.inr (10, 0, 0)), .inl (v1), ox_d, ox_d, ox_d, ox_d, .inl (v6), ox_d, ox_d, ox_d, .inl (v10), ox_d] [] r4 else ox_ev m_Mod_state (ox_zz ox_ms (n + 8)) 395 0 tl [.inr (.inr (10, 0, 0)), .inl (v1), ox_d, ox_d, ox_d, ox_d, .inl (v6), ox_d, ox_d, .inl (v9), .inl (v10), ox_d] [] r4) rfl ?_
  refine ox_R_if (fun _ => ?_) (fun _ => ?_)
  · exact (L_Mod_state_402 v1 v6 v10 r4 n tl)
  · refine ox_R_to 3 (Y := if v10 = 46 then ox_ev m_Mod_state (ox_zz ox_ms (n + 8)) 402 0 tl [.inr (.inr (10, 0, 0)), .inl (v1), ox_d, ox_d, ox_d, ox_d, .inl (v6), ox_d, ox_d, ox_d, .inl (v10), ox_d] [] r4 else ox_ev m_Mod_state (ox_zz ox_ms (n + 8)) 410 0 tl [.inr (.inr (10, 0, 0)), .inl (v1), ox_d, ox_d, ox_d, ox_d, ox_d, ox_d, ox_d, ox_d, ox_d, ox_d] [] r4) rfl ?_
    refine ox_R_if (fun _ => ?_) (fun _ => ?_)
    · exact (L_Mod_state_402 v1 v6 v10 r4 n tl)
    · exact (L_Mod_state_410 v1 r4 n tl)
def J_Mod_state_308  (v1 : Int) (v6 : Int) (v7 : Int) (v8 : Int) (v9 : Int) (v10 : Int) (v11 : Int) (s0 : Int) (σ : ox_H) : Option (Int × ox_H) := (F_Mod_holds s0 σ).bind fun r5 => (if r5.1 = 0 then (if 0 ≤ v1 ∧ v1.toNat < 61 then ((F_Mod_write (r5.2 10 0 21 v1.toNat) v11 r5.2).bind fun r6 => (if v9 ≤ 0 then (J_Mod_state_410 v1 r6) else (if 0 ≤ v6 ∧ v6.toNat < 60 then ((F_Mod_add v6 v7 (ox_up r6 10 0 1 v6.toNat 1)).bind fun r7 => (if v8 ≤ v7 then (J_Mod_state_372 v1 v6 v9 v10 r7) else ((F_Mod_add1 v6 45 r7).bind fun r8 => ((F_Mod_add v6 v8 r8).bind fun r9 => (J_Mod_state_372 v1 v6 v9 v10 r9))))) else none))) else none) else (some ((-1), r5.2)))
theorem L_Mod_state_308  (v1 : Int) (v6 : Int) (v7 : Int) (v8 : Int) (v9 : Int) (v10 : Int) (v11 : Int) (s0 : Int) (σ : ox_H) (n tl : Nat) : ox_R (fun r => some ((fun r : Int × ox_H => ((.inl (some (.inl r.1)), r.2) : ox_O)) r)) (J_Mod_state_308 v1 v6 v7 v8 v9 v10 v11 s0 σ) (ox_ev m_Mod_state (ox_zz ox_ms (n + 8)) 308 0 tl [.inr (.inr (10, 0, 0)), .inl (v1), ox_d, ox_d, ox_d, ox_d, .inl (v6), .inl (v7), .inl (v8), .inl (v9), .inl (v10), .inl (v11)] [.inl (s0), .inr (.inr (10, 0, 0))] σ) := by
  unfold J_Mod_state_308
  refine ox_R_to 1 (Y := ox_back m_Mod_state 308 1 [] ((ox_zz ox_ms (n + 8)) 43 tl [.inr (.inr (10, 0, 0)), .inl (s0)] σ) (fun pc9 x9 st9 σ9 => ox_ev m_Mod_state (ox_zz ox_ms (n + 8)) pc9 0 tl (ox_kl (m_Mod_state.2.2.1 pc9) (ox_xl x9 [.inr (.inr (10, 0, 0)), .inl (v1), ox_d, ox_d, ox_d, ox_d, .inl (v6), .inl (v7), .inl (v8), .inl (v9), .inl (v10), .inl (v11)])) st9 σ9)) rfl ?_
  refine ox_R_call (fc := (fun r : Int × ox_H => ((.inl (some (.inl r.1)), r.2) : ox_O))) (L_Mod_holds s0 σ (n + 7) tl) (fun r5 => ?_)
  refine ox_R_of (Y := ox_ev m_Mod_state (ox_zz ox_ms (n + 8)) 311 0 tl [.inr (.inr (10, 0, 0)), .inl (v1), ox_d, ox_d, ox_d, ox_d, .inl (v6), .inl (v7), .inl (v8), .inl (v9), .inl (v10), .inl (v11)] [.inl (r5.1)] r5.2) rfl ?_
  refine ox_R_to 1 (Y := if r5.1 = 0 then ox_ev m_Mod_state (ox_zz ox_ms (n + 8)) 316 0 tl [.inr (.inr (10, 0, 0)), .inl (v1), ox_d, ox_d, ox_d, ox_d, .inl (v6), .inl (v7), .inl (v8), .inl (v9), .inl (v10), .inl (v11)] [] r5.2 else ox_ev m_Mod_state (ox_zz ox_ms (n + 8)) 314 0 tl [.inr (.inr (10, 0, 0)), .inl (v1), ox_d, ox_d, ox_d, ox_d, .inl (v6), .inl (v7), .inl (v8), .inl (v9), .inl (v10), .inl (v11)] [] r5.2) rfl ?_
  refine ox_R_if (fun _ => ?_) (fun _ => ?_)
  · refine ox_R_to 5 (Y := if 0 ≤ v1 ∧ v1.toNat < 61 then ox_ev m_Mod_state (ox_zz ox_ms (n + 8)) 323 0 tl [.inr (.inr (10, 0, 0)), .inl (v1), ox_d, ox_d, ox_d, ox_d, .inl (v6), .inl (v7), .inl (v8), .inl (v9), .inl (v10), .inl (v11)] [.inl (r5.2 10 0 21 v1.toNat), .inr (.inr (10, 0, 0))] r5.2 else none) rfl ?_
    refine ox_R_if (fun _ => ?_) (fun _ => ox_R_none)
    refine ox_R_to 2 (Y := ox_back m_Mod_state 325 0 [] ((ox_zz ox_ms (n + 8)) 95 tl [.inr (.inr (10, 0, 0)), .inl (r5.2 10 0 21 v1.toNat), .inl (v11)] r5.2) (fun pc9 x9 st9 σ9 => ox_ev m_Mod_state (ox_zz ox_ms (n + 8)) pc9 0 tl (ox_kl (m_Mod_state.2.2.1 pc9) (ox_xl x9 [.inr (.inr (10, 0, 0)), .inl (v1), ox_d, ox_d, ox_d, ox_d, .inl (v6), .inl (v7), .inl (v8), .inl (v9), .inl (v10), .inl (v11)])) st9 σ9)) rfl ?_
    refine ox_R_call (fc := (fun r : ox_H => ((.inl none, r) : ox_O))) (L_Mod_write (r5.2 10 0 21 v1.toNat) v11 r5.2 (n + 3) tl) (fun r6 => ?_)
    refine ox_R_of (Y := ox_ev m_Mod_state (ox_zz ox_ms (n + 8)) 328 0 tl [.inr (.inr (10, 0, 0)), .inl (v1), ox_d, ox_d, ox_d, ox_d, .inl (v6), .inl (v7), .inl (v8), .inl (v9), .inl (v10), .inl (v11)] [] r6) rfl ?_
    refine ox_R_to 2 (Y := if v9 ≤ 0 then ox_ev m_Mod_state (ox_zz ox_ms (n + 8)) 410 0 tl [.inr (.inr (10, 0, 0)), .inl (v1), ox_d, ox_d, ox_d, ox_d, ox_d, ox_d, ox_d, ox_d, ox_d, ox_d] [] r6 else ox_ev m_Mod_state (ox_zz ox_ms (n + 8)) 333 0 tl [.inr (.inr (10, 0, 0)), .inl (v1), ox_d, ox_d, ox_d, ox_d, .inl (v6), .inl (v7), .inl (v8), .inl (v9), .inl (v10), .inl (v11)] [] r6) rfl ?_
    refine ox_R_if (fun _ => ?_) (fun _ => ?_)
    · exact (L_Mod_state_410 v1 r6 n tl)
    · refine ox_R_to 5 (Y := if 0 ≤ v6 ∧ v6.toNat < 60 then ox_ev m_Mod_state (ox_zz ox_ms (n + 8)) 341 0 tl [.inr (.inr (10, 0, 0)), .inl (v1), ox_d, ox_d, ox_d, ox_d, .inl (v6), .inl (v7), .inl (v8), .inl (v9), .inl (v10), .inl (v11)] [] (ox_up r6 10 0 1 v6.toNat 1) else none) rfl ?_
      refine ox_R_if (fun _ => ?_) (fun _ => ox_R_none)
      refine ox_R_to 4 (Y := ox_back m_Mod_state 346 0 [] ((ox_zz ox_ms (n + 8)) 97 tl [.inr (.inr (10, 0, 0)), .inl (v6), .inl (v7)] (ox_up r6 10 0 1 v6.toNat 1)) (fun pc9 x9 st9 σ9 => ox_ev m_Mod_state (ox_zz ox_ms (n + 8)) pc9 0 tl (ox_kl (m_Mod_state.2.2.1 pc9) (ox_xl x9 [.inr (.inr (10, 0, 0)), .inl (v1), ox_d, ox_d, ox_d, ox_d, .inl (v6), .inl (v7), .inl (v8), .inl (v9), .inl (v10), .inl (v11)])) st9 σ9)) rfl ?_
      refine ox_R_call (fc := (fun r : ox_H => ((.inl none, r) : ox_O))) (L_Mod_add v6 v7 (ox_up r6 10 0 1 v6.toNat 1) (n + 7) tl) (fun r7 => ?_)
      refine ox_R_of (Y := ox_ev m_Mod_state (ox_zz ox_ms (n + 8)) 349 0 tl [.inr (.inr (10, 0, 0)), .inl (v1), ox_d, ox_d, ox_d, ox_d, .inl (v6), .inl (v7), .inl (v8), .inl (v9), .inl (v10), .inl (v11)] [] r7) rfl ?_
      refine ox_R_to 3 (Y := if v8 ≤ v7 then ox_ev m_Mod_state (ox_zz ox_ms (n + 8)) 372 0 tl [.inr (.inr (10, 0, 0)), .inl (v1), ox_d, ox_d, ox_d, ox_d, .inl (v6), ox_d, ox_d, .inl (v9), .inl (v10), ox_d] [] r7 else ox_ev m_Mod_state (ox_zz ox_ms (n + 8)) 356 0 tl [.inr (.inr (10, 0, 0)), .inl (v1), ox_d, ox_d, ox_d, ox_d, .inl (v6), .inl (v7), .inl (v8), .inl (v9), .inl (v10), .inl (v11)] [] r7) rfl ?_
      refine ox_R_if (fun _ => ?_) (fun _ => ?_)
      · exact (L_Mod_state_372 v1 v6 v9 v10 r7 n tl)
      · refine ox_R_to 4 (Y := ox_back m_Mod_state 361 0 [] ((ox_zz ox_ms (n + 8)) 98 tl [.inr (.inr (10, 0, 0)), .inl (v6), .inl (45)] r7) (fun pc9 x9 st9 σ9 => ox_ev m_Mod_state (ox_zz ox_ms (n + 8)) pc9 0 tl (ox_kl (m_Mod_state.2.2.1 pc9) (ox_xl x9 [.inr (.inr (10, 0, 0)), .inl (v1), ox_d, ox_d, ox_d, ox_d, .inl (v6), .inl (v7), .inl (v8), .inl (v9), .inl (v10), .inl (v11)])) st9 σ9)) rfl ?_
        refine ox_R_call (fc := (fun r : ox_H => ((.inl none, r) : ox_O))) (L_Mod_add1 v6 45 r7 (n + 7) tl) (fun r8 => ?_)
        refine ox_R_of (Y := ox_ev m_Mod_state (ox_zz ox_ms (n + 8)) 364 0 tl [.inr (.inr (10, 0, 0)), .inl (v1), ox_d, ox_d, ox_d, ox_d, .inl (v6), .inl (v7), .inl (v8), .inl (v9), .inl (v10), .inl (v11)] [] r8) rfl ?_
        refine ox_R_to 4 (Y := ox_back m_Mod_state 369 0 [] ((ox_zz ox_ms (n + 8)) 97 tl [.inr (.inr (10, 0, 0)), .inl (v6), .inl (v8)] r8) (fun pc9 x9 st9 σ9 => ox_ev m_Mod_state (ox_zz ox_ms (n + 8)) pc9 0 tl (ox_kl (m_Mod_state.2.2.1 pc9) (ox_xl x9 [.inr (.inr (10, 0, 0)), .inl (v1), ox_d, ox_d, ox_d, ox_d, .inl (v6), .inl (v7), .inl (v8), .inl (v9), .inl (v10), .inl (v11)])) st9 σ9)) rfl ?_
        refine ox_R_call (fc := (fun r : ox_H => ((.inl none, r) : ox_O))) (L_Mod_add v6 v8 r8 (n + 7) tl) (fun r9 => ?_)
        refine ox_R_of (Y := ox_ev m_Mod_state (ox_zz ox_ms (n + 8)) 372 0 tl [.inr (.inr (10, 0, 0)), .inl (v1), ox_d, ox_d, ox_d, ox_d, .inl (v6), ox_d, ox_d, .inl (v9), .inl (v10), ox_d] [] r9) rfl ?_
        exact (L_Mod_state_372 v1 v6 v9 v10 r9 n tl)
  · refine ox_R_to 2 (Y := some (.inl (some (.inl ((-1)))), r5.2)) rfl ?_
    exact ox_R_ret rfl
def J_Mod_state_280  (v1 : Int) (v3 : Int) (v4 : Int) (v5 : Int) (v6 : Int) (v7 : Int) (v8 : Int) (v9 : Int) (v10 : Int) (v11 : Int) (σ : ox_H) : Option (Int × ox_H) := if v3 = 0 then (J_Mod_state_308 v1 v6 v7 v8 v9 v10 v11 1 σ) else (if v4 = 0 then (J_Mod_state_308 v1 v6 v7 v8 v9 v10 v11 2 σ) else (if v5 = 0 then (J_Mod_state_308 v1 v6 v7 v8 v9 v10 v11 0 σ) else (J_Mod_state_308 v1 v6 v7 v8 v9 v10 v11 3 σ)))
theorem L_Mod_state_280  (v1 : Int) (v3 : Int) (v4 : Int) (v5 : Int) (v6 : Int) (v7 : Int) (v8 : Int) (v9 : Int) (v10 : Int) (v11 : Int) (σ : ox_H) (n tl : Nat) : ox_R (fun r => some ((fun r : Int × ox_H => ((.inl (some (.inl r.1)), r.2) : ox_O)) r)) (J_Mod_state_280 v1 v3 v4 v5 v6 v7 v8 v9 v10 v11 σ) (ox_ev m_Mod_state (ox_zz ox_ms (n + 8)) 280 0 tl [.inr (.inr (10, 0, 0)), .inl (v1), ox_d, .inl (v3), .inl (v4), .inl (v5), .inl (v6), .inl (v7), .inl (v8), .inl (v9), .inl (v10), .inl (v11)] [] σ) := by
  unfold J_Mod_state_280
  refine ox_R_to 3 (Y := if v3 = 0 then ox_ev m_Mod_state (ox_zz ox_ms (n + 8)) 285 0 tl [.inr (.inr (10, 0, 0)), .inl (v1), ox_d, .inl (v3), .inl (v4), .inl (v5), .inl (v6), .inl (v7), .inl (v8), .inl (v9), .inl (v10), .inl (v11)] [.inr (.inr (10, 0, 0))] σ else ox_ev m_Mod_state (ox_zz ox_ms (n + 8)) 289 0 tl [.inr (.inr (10, 0, 0)), .inl (v1), ox_d, .inl (v3), .inl (v4), .inl (v5), .inl (v6), .inl (v7), .inl (v8), .inl (v9), .inl (v10), .inl (v11)] [.inr (.inr (10, 0, 0))] σ) rfl ?_
  refine ox_R_if (fun _ => ?_) (fun _ => ?_)
  · refine ox_R_to 2 (Y := ox_ev m_Mod_state (ox_zz ox_ms (n + 8)) 308 0 tl [.inr (.inr (10, 0, 0)), .inl (v1), ox_d, ox_d, ox_d, ox_d, .inl (v6), .inl (v7), .inl (v8), .inl (v9), .inl (v10), .inl (v11)] [.inl (1), .inr (.inr (10, 0, 0))] σ) rfl ?_
    exact (L_Mod_state_308 v1 v6 v7 v8 v9 v10 v11 1 σ n tl)
  · refine ox_R_to 2 (Y := if v4 = 0 then ox_ev m_Mod_state (ox_zz ox_ms (n + 8)) 294 0 tl [.inr (.inr (10, 0, 0)), .inl (v1), ox_d, .inl (v3), .inl (v4), .inl (v5), .inl (v6), .inl (v7), .inl (v8), .inl (v9), .inl (v10), .inl (v11)] [.inr (.inr (10, 0, 0))] σ else ox_ev m_Mod_state (ox_zz ox_ms (n + 8)) 298 0 tl [.inr (.inr (10, 0, 0)), .inl (v1), ox_d, .inl (v3), .inl (v4), .inl (v5), .inl (v6), .inl (v7), .inl (v8), .inl (v9), .inl (v10), .inl (v11)] [.inr (.inr (10, 0, 0))] σ) rfl ?_
    refine ox_R_if (fun _ => ?_) (fun _ => ?_)
    · refine ox_R_to 2 (Y := ox_ev m_Mod_state (ox_zz ox_ms (n + 8)) 308 0 tl [.inr (.inr (10, 0, 0)), .inl (v1), ox_d, ox_d, ox_d, ox_d, .inl (v6), .inl (v7), .inl (v8), .inl (v9), .inl (v10), .inl (v11)] [.inl (2), .inr (.inr (10, 0, 0))] σ) rfl ?_
      exact (L_Mod_state_308 v1 v6 v7 v8 v9 v10 v11 2 σ n tl)
    · refine ox_R_to 2 (Y := if v5 = 0 then ox_ev m_Mod_state (ox_zz ox_ms (n + 8)) 307 0 tl [.inr (.inr (10, 0, 0)), .inl (v1), ox_d, .inl (v3), .inl (v4), .inl (v5), .inl (v6), .inl (v7), .inl (v8), .inl (v9), .inl (v10), .inl (v11)] [.inr (.inr (10, 0, 0))] σ else ox_ev m_Mod_state (ox_zz ox_ms (n + 8)) 303 0 tl [.inr (.inr (10, 0, 0)), .inl (v1), ox_d, .inl (v3), .inl (v4), .inl (v5), .inl (v6), .inl (v7), .inl (v8), .inl (v9), .inl (v10), .inl (v11)] [.inr (.inr (10, 0, 0))] σ) rfl ?_
      refine ox_R_if (fun _ => ?_) (fun _ => ?_)
      · refine ox_R_to 1 (Y := ox_ev m_Mod_state (ox_zz ox_ms (n + 8)) 308 0 tl [.inr (.inr (10, 0, 0)), .inl (v1), ox_d, ox_d, ox_d, ox_d, .inl (v6), .inl (v7), .inl (v8), .inl (v9), .inl (v10), .inl (v11)] [.inl (0), .inr (.inr (10, 0, 0))] σ) rfl ?_
        exact (L_Mod_state_308 v1 v6 v7 v8 v9 v10 v11 0 σ n tl)
      · refine ox_R_to 2 (Y := ox_ev m_Mod_state (ox_zz ox_ms (n + 8)) 308 0 tl [.inr (.inr (10, 0, 0)), .inl (v1), ox_d, ox_d, ox_d, ox_d, .inl (v6), .inl (v7), .inl (v8), .inl (v9), .inl (v10), .inl (v11)] [.inl (3), .inr (.inr (10, 0, 0))] σ) rfl ?_
        exact (L_Mod_state_308 v1 v6 v7 v8 v9 v10 v11 3 σ n tl)
def J_Mod_state_277  (v1 : Int) (v3 : Int) (v4 : Int) (v6 : Int) (v7 : Int) (v8 : Int) (v9 : Int) (v10 : Int) (v11 : Int) (s0 : Int) (s1 : Int) (σ : ox_H) : Option (Int × ox_H) := (J_Mod_state_280 v1 v3 v4 (ox_or s1 s0) v6 v7 v8 v9 v10 v11 σ)
theorem L_Mod_state_277  (v1 : Int) (v3 : Int) (v4 : Int) (v6 : Int) (v7 : Int) (v8 : Int) (v9 : Int) (v10 : Int) (v11 : Int) (s0 : Int) (s1 : Int) (σ : ox_H) (n tl : Nat) : ox_R (fun r => some ((fun r : Int × ox_H => ((.inl (some (.inl r.1)), r.2) : ox_O)) r)) (J_Mod_state_277 v1 v3 v4 v6 v7 v8 v9 v10 v11 s0 s1 σ) (ox_ev m_Mod_state (ox_zz ox_ms (n + 8)) 277 0 tl [.inr (.inr (10, 0, 0)), .inl (v1), ox_d, .inl (v3), .inl (v4), ox_d, .inl (v6), .inl (v7), .inl (v8), .inl (v9), .inl (v10), .inl (v11)] [.inl (s0), .inl (s1)] σ) := by
  unfold J_Mod_state_277
  refine ox_R_to 2 (Y := ox_ev m_Mod_state (ox_zz ox_ms (n + 8)) 280 0 tl [.inr (.inr (10, 0, 0)), .inl (v1), ox_d, .inl (v3), .inl (v4), .inl (ox_or s1 s0), .inl (v6), .inl (v7), .inl (v8), .inl (v9), .inl (v10), .inl (v11)] [] σ) rfl ?_
  exact (L_Mod_state_280 v1 v3 v4 (ox_or s1 s0) v6 v7 v8 v9 v10 v11 σ n tl)
def J_Mod_state_266  (v1 : Int) (v3 : Int) (v4 : Int) (v6 : Int) (v7 : Int) (v8 : Int) (v9 : Int) (v10 : Int) (v11 : Int) (s0 : Int) (s1 : Int) (s2 : Int) (σ : ox_H) : Option (Int × ox_H) := if (ox_w (s1 - s0)) ≤ 24 then (J_Mod_state_277 v1 v3 v4 v6 v7 v8 v9 v10 v11 0 s2 σ) else (J_Mod_state_277 v1 v3 v4 v6 v7 v8 v9 v10 v11 1 s2 σ)
theorem L_Mod_state_266  (v1 : Int) (v3 : Int) (v4 : Int) (v6 : Int) (v7 : Int) (v8 : Int) (v9 : Int) (v10 : Int) (v11 : Int) (s0 : Int) (s1 : Int) (s2 : Int) (σ : ox_H) (n tl : Nat) : ox_R (fun r => some ((fun r : Int × ox_H => ((.inl (some (.inl r.1)), r.2) : ox_O)) r)) (J_Mod_state_266 v1 v3 v4 v6 v7 v8 v9 v10 v11 s0 s1 s2 σ) (ox_ev m_Mod_state (ox_zz ox_ms (n + 8)) 266 0 tl [.inr (.inr (10, 0, 0)), .inl (v1), ox_d, .inl (v3), .inl (v4), ox_d, .inl (v6), .inl (v7), .inl (v8), .inl (v9), .inl (v10), .inl (v11)] [.inl (s0), .inl (s1), .inl (s2)] σ) := by
  unfold J_Mod_state_266
  refine ox_R_to 3 (Y := if (ox_w (s1 - s0)) ≤ 24 then ox_ev m_Mod_state (ox_zz ox_ms (n + 8)) 276 0 tl [.inr (.inr (10, 0, 0)), .inl (v1), ox_d, .inl (v3), .inl (v4), ox_d, .inl (v6), .inl (v7), .inl (v8), .inl (v9), .inl (v10), .inl (v11)] [.inl (s2)] σ else ox_ev m_Mod_state (ox_zz ox_ms (n + 8)) 272 0 tl [.inr (.inr (10, 0, 0)), .inl (v1), ox_d, .inl (v3), .inl (v4), ox_d, .inl (v6), .inl (v7), .inl (v8), .inl (v9), .inl (v10), .inl (v11)] [.inl (s2)] σ) rfl ?_
  refine ox_R_if (fun _ => ?_) (fun _ => ?_)
  · refine ox_R_to 1 (Y := ox_ev m_Mod_state (ox_zz ox_ms (n + 8)) 277 0 tl [.inr (.inr (10, 0, 0)), .inl (v1), ox_d, .inl (v3), .inl (v4), ox_d, .inl (v6), .inl (v7), .inl (v8), .inl (v9), .inl (v10), .inl (v11)] [.inl (0), .inl (s2)] σ) rfl ?_
    exact (L_Mod_state_277 v1 v3 v4 v6 v7 v8 v9 v10 v11 0 s2 σ n tl)
  · refine ox_R_to 2 (Y := ox_ev m_Mod_state (ox_zz ox_ms (n + 8)) 277 0 tl [.inr (.inr (10, 0, 0)), .inl (v1), ox_d, .inl (v3), .inl (v4), ox_d, .inl (v6), .inl (v7), .inl (v8), .inl (v9), .inl (v10), .inl (v11)] [.inl (1), .inl (s2)] σ) rfl ?_
    exact (L_Mod_state_277 v1 v3 v4 v6 v7 v8 v9 v10 v11 1 s2 σ n tl)
def J_Mod_state_253  (v1 : Int) (v3 : Int) (v4 : Int) (v6 : Int) (v7 : Int) (v8 : Int) (v9 : Int) (v10 : Int) (v11 : Int) (s0 : Int) (s1 : Int) (s2 : Int) (σ : ox_H) : Option (Int × ox_H) := if 0 ≤ (σ 10 0 13 0) then (J_Mod_state_266 v1 v3 v4 v6 v7 v8 v9 v10 v11 5 (ox_w (s1 + s0)) s2 σ) else (J_Mod_state_266 v1 v3 v4 v6 v7 v8 v9 v10 v11 0 (ox_w (s1 + s0)) s2 σ)
theorem L_Mod_state_253  (v1 : Int) (v3 : Int) (v4 : Int) (v6 : Int) (v7 : Int) (v8 : Int) (v9 : Int) (v10 : Int) (v11 : Int) (s0 : Int) (s1 : Int) (s2 : Int) (σ : ox_H) (n tl : Nat) : ox_R (fun r => some ((fun r : Int × ox_H => ((.inl (some (.inl r.1)), r.2) : ox_O)) r)) (J_Mod_state_253 v1 v3 v4 v6 v7 v8 v9 v10 v11 s0 s1 s2 σ) (ox_ev m_Mod_state (ox_zz ox_ms (n + 8)) 253 0 tl [.inr (.inr (10, 0, 0)), .inl (v1), ox_d, .inl (v3), .inl (v4), ox_d, .inl (v6), .inl (v7), .inl (v8), .inl (v9), .inl (v10), .inl (v11)] [.inl (s0), .inl (s1), .inl (s2)] σ) := by
  unfold J_Mod_state_253
  refine ox_R_to 4 (Y := if 0 ≤ (σ 10 0 13 0) then ox_ev m_Mod_state (ox_zz ox_ms (n + 8)) 265 0 tl [.inr (.inr (10, 0, 0)), .inl (v1), ox_d, .inl (v3), .inl (v4), ox_d, .inl (v6), .inl (v7), .inl (v8), .inl (v9), .inl (v10), .inl (v11)] [.inl (ox_w (s1 + s0)), .inl (s2)] σ else ox_ev m_Mod_state (ox_zz ox_ms (n + 8)) 261 0 tl [.inr (.inr (10, 0, 0)), .inl (v1), ox_d, .inl (v3), .inl (v4), ox_d, .inl (v6), .inl (v7), .inl (v8), .inl (v9), .inl (v10), .inl (v11)] [.inl (ox_w (s1 + s0)), .inl (s2)] σ) rfl ?_
  refine ox_R_if (fun _ => ?_) (fun _ => ?_)
  · refine ox_R_to 1 (Y := ox_ev m_Mod_state (ox_zz ox_ms (n + 8)) 266 0 tl [.inr (.inr (10, 0, 0)), .inl (v1), ox_d, .inl (v3), .inl (v4), ox_d, .inl (v6), .inl (v7), .inl (v8), .inl (v9), .inl (v10), .inl (v11)] [.inl (5), .inl (ox_w (s1 + s0)), .inl (s2)] σ) rfl ?_
    exact (L_Mod_state_266 v1 v3 v4 v6 v7 v8 v9 v10 v11 5 (ox_w (s1 + s0)) s2 σ n tl)
  · refine ox_R_to 2 (Y := ox_ev m_Mod_state (ox_zz ox_ms (n + 8)) 266 0 tl [.inr (.inr (10, 0, 0)), .inl (v1), ox_d, .inl (v3), .inl (v4), ox_d, .inl (v6), .inl (v7), .inl (v8), .inl (v9), .inl (v10), .inl (v11)] [.inl (0), .inl (ox_w (s1 + s0)), .inl (s2)] σ) rfl ?_
    exact (L_Mod_state_266 v1 v3 v4 v6 v7 v8 v9 v10 v11 0 (ox_w (s1 + s0)) s2 σ n tl)
def J_Mod_state_208  (v1 : Int) (v3 : Int) (v4 : Int) (v5 : Int) (v6 : Int) (v7 : Int) (v8 : Int) (v9 : Int) (v10 : Int) (s0 : Int) (σ : ox_H) : Option (Int × ox_H) := if v3 = 0 then (J_Mod_state_280 v1 v3 v4 v5 v6 v7 v8 v9 v10 s0 σ) else (if v4 = 0 then (J_Mod_state_280 v1 v3 v4 v5 v6 v7 v8 v9 v10 s0 σ) else (if 0 ≤ v1 ∧ v1.toNat < 61 then ((F_Mod_heading (σ 10 0 21 v1.toNat) σ).bind fun r10 => (if 0 ≤ v1 ∧ v1.toNat < 61 then (if 0 ≤ (r10.2 10 0 21 v1.toNat) ∧ (r10.2 10 0 21 v1.toNat).toNat < 60 then (if 0 ≤ s0 then (J_Mod_state_253 v1 v3 v4 v6 v7 v8 v9 v10 s0 5 (r10.2 10 0 1 ((r10.2 10 0 21 v1.toNat).toNat)) v5 r10.2) else (J_Mod_state_253 v1 v3 v4 v6 v7 v8 v9 v10 s0 0 (r10.2 10 0 1 ((r10.2 10 0 21 v1.toNat).toNat)) v5 r10.2)) else none) else none)) else none))
theorem L_Mod_state_208  (v1 : Int) (v3 : Int) (v4 : Int) (v5 : Int) (v6 : Int) (v7 : Int) (v8 : Int) (v9 : Int) (v10 : Int) (s0 : Int) (σ : ox_H) (n tl : Nat) : ox_R (fun r => some ((fun r : Int × ox_H => ((.inl (some (.inl r.1)), r.2) : ox_O)) r)) (J_Mod_state_208 v1 v3 v4 v5 v6 v7 v8 v9 v10 s0 σ) (ox_ev m_Mod_state (ox_zz ox_ms (n + 8)) 208 0 tl [.inr (.inr (10, 0, 0)), .inl (v1), ox_d, .inl (v3), .inl (v4), .inl (v5), .inl (v6), .inl (v7), .inl (v8), .inl (v9), .inl (v10), ox_d] [.inl (s0)] σ) := by
  unfold J_Mod_state_208
  refine ox_R_to 3 (Y := if v3 = 0 then ox_ev m_Mod_state (ox_zz ox_ms (n + 8)) 280 0 tl [.inr (.inr (10, 0, 0)), .inl (v1), ox_d, .inl (v3), .inl (v4), .inl (v5), .inl (v6), .inl (v7), .inl (v8), .inl (v9), .inl (v10), .inl (s0)] [] σ else ox_ev m_Mod_state (ox_zz ox_ms (n + 8)) 214 0 tl [.inr (.inr (10, 0, 0)), .inl (v1), ox_d, .inl (v3), .inl (v4), .inl (v5), .inl (v6), .inl (v7), .inl (v8), .inl (v9), .inl (v10), .inl (s0)] [] σ) rfl ?_
  refine ox_R_if (fun _ => ?_) (fun _ => ?_)
  · exact (L_Mod_state_280 v1 v3 v4 v5 v6 v7 v8 v9 v10 s0 σ n tl)
  · refine ox_R_to 2 (Y := if v4 = 0 then ox_ev m_Mod_state (ox_zz ox_ms (n + 8)) 280 0 tl [.inr (.inr (10, 0, 0)), .inl (v1), ox_d, .inl (v3), .inl (v4), .inl (v5), .inl (v6), .inl (v7), .inl (v8), .inl (v9), .inl (v10), .inl (s0)] [] σ else ox_ev m_Mod_state (ox_zz ox_ms (n + 8)) 219 0 tl [.inr (.inr (10, 0, 0)), .inl (v1), ox_d, .inl (v3), .inl (v4), .inl (v5), .inl (v6), .inl (v7), .inl (v8), .inl (v9), .inl (v10), .inl (s0)] [] σ) rfl ?_
    refine ox_R_if (fun _ => ?_) (fun _ => ?_)
    · exact (L_Mod_state_280 v1 v3 v4 v5 v6 v7 v8 v9 v10 s0 σ n tl)
    · refine ox_R_to 5 (Y := if 0 ≤ v1 ∧ v1.toNat < 61 then ox_ev m_Mod_state (ox_zz ox_ms (n + 8)) 226 0 tl [.inr (.inr (10, 0, 0)), .inl (v1), ox_d, .inl (v3), .inl (v4), .inl (v5), .inl (v6), .inl (v7), .inl (v8), .inl (v9), .inl (v10), .inl (s0)] [.inl (σ 10 0 21 v1.toNat), .inr (.inr (10, 0, 0))] σ else none) rfl ?_
      refine ox_R_if (fun _ => ?_) (fun _ => ox_R_none)
      refine ox_R_to 1 (Y := ox_back m_Mod_state 226 1 [] ((ox_zz ox_ms (n + 8)) 55 tl [.inr (.inr (10, 0, 0)), .inl (σ 10 0 21 v1.toNat)] σ) (fun pc9 x9 st9 σ9 => ox_ev m_Mod_state (ox_zz ox_ms (n + 8)) pc9 0 tl (ox_kl (m_Mod_state.2.2.1 pc9) (ox_xl x9 [.inr (.inr (10, 0, 0)), .inl (v1), ox_d, .inl (v3), .inl (v4), .inl (v5), .inl (v6), .inl (v7), .inl (v8), .inl (v9), .inl (v10), .inl (s0)])) st9 σ9)) rfl ?_
      refine ox_R_call (fc := (fun r : Int × ox_H => ((.inl (some (.inl r.1)), r.2) : ox_O))) (L_Mod_heading (σ 10 0 21 v1.toNat) σ (n + 4) tl) (fun r10 => ?_)
      refine ox_R_of (Y := ox_ev m_Mod_state (ox_zz ox_ms (n + 8)) 229 0 tl [.inr (.inr (10, 0, 0)), .inl (v1), ox_d, .inl (v3), .inl (v4), .inl (v5), .inl (v6), .inl (v7), .inl (v8), .inl (v9), .inl (v10), .inl (s0)] [.inl (r10.1)] r10.2) rfl ?_
      refine ox_R_to 8 (Y := if 0 ≤ v1 ∧ v1.toNat < 61 then ox_ev m_Mod_state (ox_zz ox_ms (n + 8)) 242 0 tl [.inr (.inr (10, 0, 0)), .inl (v1), ox_d, .inl (v3), .inl (v4), .inl (v5), .inl (v6), .inl (v7), .inl (v8), .inl (v9), .inl (v10), .inl (s0)] [.inl (r10.2 10 0 21 v1.toNat), .inr (.inr (110, 0, 1)), .inl (v5)] r10.2 else none) rfl ?_
      refine ox_R_if (fun _ => ?_) (fun _ => ox_R_none)
      refine ox_R_to 1 (Y := if 0 ≤ (r10.2 10 0 21 v1.toNat) ∧ (r10.2 10 0 21 v1.toNat).toNat < 60 then ox_ev m_Mod_state (ox_zz ox_ms (n + 8)) 243 0 tl [.inr (.inr (10, 0, 0)), .inl (v1), ox_d, .inl (v3), .inl (v4), .inl (v5), .inl (v6), .inl (v7), .inl (v8), .inl (v9), .inl (v10), .inl (s0)] [.inl (r10.2 10 0 1 ((r10.2 10 0 21 v1.toNat).toNat)), .inl (v5)] r10.2 else none) rfl ?_
      refine ox_R_if (fun _ => ?_) (fun _ => ox_R_none)
      refine ox_R_to 2 (Y := if 0 ≤ s0 then ox_ev m_Mod_state (ox_zz ox_ms (n + 8)) 252 0 tl [.inr (.inr (10, 0, 0)), .inl (v1), ox_d, .inl (v3), .inl (v4), .inl (v5), .inl (v6), .inl (v7), .inl (v8), .inl (v9), .inl (v10), .inl (s0)] [.inl (r10.2 10 0 1 ((r10.2 10 0 21 v1.toNat).toNat)), .inl (v5)] r10.2 else ox_ev m_Mod_state (ox_zz ox_ms (n + 8)) 248 0 tl [.inr (.inr (10, 0, 0)), .inl (v1), ox_d, .inl (v3), .inl (v4), .inl (v5), .inl (v6), .inl (v7), .inl (v8), .inl (v9), .inl (v10), .inl (s0)] [.inl (r10.2 10 0 1 ((r10.2 10 0 21 v1.toNat).toNat)), .inl (v5)] r10.2) rfl ?_
      refine ox_R_if (fun _ => ?_) (fun _ => ?_)
      · refine ox_R_to 1 (Y := ox_ev m_Mod_state (ox_zz ox_ms (n + 8)) 253 0 tl [.inr (.inr (10, 0, 0)), .inl (v1), ox_d, .inl (v3), .inl (v4), ox_d, .inl (v6), .inl (v7), .inl (v8), .inl (v9), .inl (v10), .inl (s0)] [.inl (5), .inl (r10.2 10 0 1 ((r10.2 10 0 21 v1.toNat).toNat)), .inl (v5)] r10.2) rfl ?_
        exact (L_Mod_state_253 v1 v3 v4 v6 v7 v8 v9 v10 s0 5 (r10.2 10 0 1 ((r10.2 10 0 21 v1.toNat).toNat)) v5 r10.2 n tl)
      · refine ox_R_to 2 (Y := ox_ev m_Mod_state (ox_zz ox_ms (n + 8)) 253 0 tl [.inr (.inr (10, 0, 0)), .inl (v1), ox_d, .inl (v3), .inl (v4), ox_d, .inl (v6), .inl (v7), .inl (v8), .inl (v9), .inl (v10), .inl (s0)] [.inl (0), .inl (r10.2 10 0 1 ((r10.2 10 0 21 v1.toNat).toNat)), .inl (v5)] r10.2) rfl ?_
        exact (L_Mod_state_253 v1 v3 v4 v6 v7 v8 v9 v10 s0 0 (r10.2 10 0 1 ((r10.2 10 0 21 v1.toNat).toNat)) v5 r10.2 n tl)
def J_Mod_state_198  (v1 : Int) (v2 : Int) (v3 : Int) (v4 : Int) (v5 : Int) (v6 : Int) (v7 : Int) (v8 : Int) (v9 : Int) (v10 : Int) (σ : ox_H) : Option (Int × ox_H) := if v9 ≤ 0 then (J_Mod_state_208 v1 v3 v4 v5 v6 v7 v8 v9 v10 v2 σ) else (J_Mod_state_208 v1 v3 v4 v5 v6 v7 v8 v9 v10 0 σ)
theorem L_Mod_state_198  (v1 : Int) (v2 : Int) (v3 : Int) (v4 : Int) (v5 : Int) (v6 : Int) (v7 : Int) (v8 : Int) (v9 : Int) (v10 : Int) (σ : ox_H) (n tl : Nat) : ox_R (fun r => some ((fun r : Int × ox_H => ((.inl (some (.inl r.1)), r.2) : ox_O)) r)) (J_Mod_state_198 v1 v2 v3 v4 v5 v6 v7 v8 v9 v10 σ) (ox_ev m_Mod_state (ox_zz ox_ms (n + 8)) 198 0 tl [.inr (.inr (10, 0, 0)), .inl (v1), .inl (v2), .inl (v3), .inl (v4), .inl (v5), .inl (v6), .inl (v7), .inl (v8), .inl (v9), .inl (v10), ox_d] [] σ) := by
  unfold J_Mod_state_198
  refine ox_R_to 2 (Y := if v9 ≤ 0 then ox_ev m_Mod_state (ox_zz ox_ms (n + 8)) 207 0 tl [.inr (.inr (10, 0, 0)), .inl (v1), .inl (v2), .inl (v3), .inl (v4), .inl (v5), .inl (v6), .inl (v7), .inl (v8), .inl (v9), .inl (v10), ox_d] [] σ else ox_ev m_Mod_state (ox_zz ox_ms (n + 8)) 203 0 tl [.inr (.inr (10, 0, 0)), .inl (v1), .inl (v2), .inl (v3), .inl (v4), .inl (v5), .inl (v6), .inl (v7), .inl (v8), .inl (v9), .inl (v10), ox_d] [] σ) rfl ?_
  refine ox_R_if (fun _ => ?_) (fun _ => ?_)
  · refine ox_R_to 1 (Y := ox_ev m_Mod_state (ox_zz ox_ms (n + 8)) 208 0 tl [.inr (.inr (10, 0, 0)), .inl (v1), ox_d, .inl (v3), .inl (v4), .inl (v5), .inl (v6), .inl (v7), .inl (v8), .inl (v9), .inl (v10), ox_d] [.inl (v2)] σ) rfl ?_
    exact (L_Mod_state_208 v1 v3 v4 v5 v6 v7 v8 v9 v10 v2 σ n tl)
  · refine ox_R_to 2 (Y := ox_ev m_Mod_state (ox_zz ox_ms (n + 8)) 208 0 tl [.inr (.inr (10, 0, 0)), .inl (v1), ox_d, .inl (v3), .inl (v4), .inl (v5), .inl (v6), .inl (v7), .inl (v8), .inl (v9), .inl (v10), ox_d] [.inl (0)] σ) rfl ?_
    exact (L_Mod_state_208 v1 v3 v4 v5 v6 v7 v8 v9 v10 0 σ n tl)
def J_Mod_state_195  (v1 : Int) (v2 : Int) (v3 : Int) (v4 : Int) (v6 : Int) (v7 : Int) (v8 : Int) (v9 : Int) (v10 : Int) (s0 : Int) (s1 : Int) (σ : ox_H) : Option (Int × ox_H) := (J_Mod_state_198 v1 v2 v3 v4 (ox_or s1 s0) v6 v7 v8 v9 v10 σ)
theorem L_Mod_state_195  (v1 : Int) (v2 : Int) (v3 : Int) (v4 : Int) (v6 : Int) (v7 : Int) (v8 : Int) (v9 : Int) (v10 : Int) (s0 : Int) (s1 : Int) (σ : ox_H) (n tl : Nat) : ox_R (fun r => some ((fun r : Int × ox_H => ((.inl (some (.inl r.1)), r.2) : ox_O)) r)) (J_Mod_state_195 v1 v2 v3 v4 v6 v7 v8 v9 v10 s0 s1 σ) (ox_ev m_Mod_state (ox_zz ox_ms (n + 8)) 195 0 tl [.inr (.inr (10, 0, 0)), .inl (v1), .inl (v2), .inl (v3), .inl (v4), ox_d, .inl (v6), .inl (v7), .inl (v8), .inl (v9), .inl (v10), ox_d] [.inl (s0), .inl (s1)] σ) := by
  unfold J_Mod_state_195
  refine ox_R_to 2 (Y := ox_ev m_Mod_state (ox_zz ox_ms (n + 8)) 198 0 tl [.inr (.inr (10, 0, 0)), .inl (v1), .inl (v2), .inl (v3), .inl (v4), .inl (ox_or s1 s0), .inl (v6), .inl (v7), .inl (v8), .inl (v9), .inl (v10), ox_d] [] σ) rfl ?_
  exact (L_Mod_state_198 v1 v2 v3 v4 (ox_or s1 s0) v6 v7 v8 v9 v10 σ n tl)
def J_Mod_state_190  (v1 : Int) (v2 : Int) (v3 : Int) (v4 : Int) (v6 : Int) (v7 : Int) (v8 : Int) (v9 : Int) (v10 : Int) (s0 : Int) (σ : ox_H) : Option (Int × ox_H) := (J_Mod_state_195 v1 v2 v3 v4 v6 v7 v8 v9 v10 1 s0 σ)
theorem L_Mod_state_190  (v1 : Int) (v2 : Int) (v3 : Int) (v4 : Int) (v6 : Int) (v7 : Int) (v8 : Int) (v9 : Int) (v10 : Int) (s0 : Int) (σ : ox_H) (n tl : Nat) : ox_R (fun r => some ((fun r : Int × ox_H => ((.inl (some (.inl r.1)), r.2) : ox_O)) r)) (J_Mod_state_190 v1 v2 v3 v4 v6 v7 v8 v9 v10 s0 σ) (ox_ev m_Mod_state (ox_zz ox_ms (n + 8)) 190 0 tl [.inr (.inr (10, 0, 0)), .inl (v1), .inl (v2), .inl (v3), .inl (v4), ox_d, .inl (v6), .inl (v7), .inl (v8), .inl (v9), .inl (v10), ox_d] [.inl (s0)] σ) := by
  unfold J_Mod_state_190
  refine ox_R_to 2 (Y := ox_ev m_Mod_state (ox_zz ox_ms (n + 8)) 195 0 tl [.inr (.inr (10, 0, 0)), .inl (v1), .inl (v2), .inl (v3), .inl (v4), ox_d, .inl (v6), .inl (v7), .inl (v8), .inl (v9), .inl (v10), ox_d] [.inl (1), .inl (s0)] σ) rfl ?_
  exact (L_Mod_state_195 v1 v2 v3 v4 v6 v7 v8 v9 v10 1 s0 σ n tl)
def J_Mod_state_158  (v1 : Int) (v2 : Int) (v3 : Int) (v4 : Int) (v5 : Int) (v6 : Int) (v7 : Int) (v8 : Int) (v9 : Int) (v10 : Int) (v11 : Int) (σ : ox_H) : Option (Int × ox_H) := if 9999 < (ox_w (v7 + v11)) then (J_Mod_state_190 v1 v2 v3 v4 v6 (ox_w (v7 + v11)) (ox_w (v8 + v11)) v9 v10 v5 σ) else (if (ox_w (v8 + v11)) ≤ 9999 then (J_Mod_state_195 v1 v2 v3 v4 v6 (ox_w (v7 + v11)) (ox_w (v8 + v11)) v9 v10 0 v5 σ) else (J_Mod_state_190 v1 v2 v3 v4 v6 (ox_w (v7 + v11)) (ox_w (v8 + v11)) v9 v10 v5 σ))
theorem L_Mod_state_158  (v1 : Int) (v2 : Int) (v3 : Int) (v4 : Int) (v5 : Int) (v6 : Int) (v7 : Int) (v8 : Int) (v9 : Int) (v10 : Int) (v11 : Int) (σ : ox_H) (n tl : Nat) : ox_R (fun r => some ((fun r : Int × ox_H => ((.inl (some (.inl r.1)), r.2) : ox_O)) r)) (J_Mod_state_158 v1 v2 v3 v4 v5 v6 v7 v8 v9 v10 v11 σ) (ox_ev m_Mod_state (ox_zz ox_ms (n + 8)) 158 0 tl [.inr (.inr (10, 0, 0)), .inl (v1), .inl (v2), .inl (v3), .inl (v4), .inl (v5), .inl (v6), .inl (v7), .inl (v8), .inl (v9), .inl (v10), .inl (v11)] [] σ) := by
  unfold J_Mod_state_158
  refine ox_R_to 12 (Y := if 9999 < (ox_w (v7 + v11)) then ox_ev m_Mod_state (ox_zz ox_ms (n + 8)) 190 0 tl [.inr (.inr (10, 0, 0)), .inl (v1), .inl (v2), .inl (v3), .inl (v4), ox_d, .inl (v6), .inl (ox_w (v7 + v11)), .inl (ox_w (v8 + v11)), .inl (v9), .inl (v10), ox_d] [.inl (v5)] σ else ox_ev m_Mod_state (ox_zz ox_ms (n + 8)) 182 0 tl [.inr (.inr (10, 0, 0)), .inl (v1), .inl (v2), .inl (v3), .inl (v4), .inl (v5), .inl (v6), .inl (ox_w (v7 + v11)), .inl (ox_w (v8 + v11)), .inl (v9), .inl (v10), .inl (v11)] [.inl (v5)] σ) rfl ?_
  refine ox_R_if (fun _ => ?_) (fun _ => ?_)
  · exact (L_Mod_state_190 v1 v2 v3 v4 v6 (ox_w (v7 + v11)) (ox_w (v8 + v11)) v9 v10 v5 σ n tl)
  · refine ox_R_to 3 (Y := if (ox_w (v8 + v11)) ≤ 9999 then ox_ev m_Mod_state (ox_zz ox_ms (n + 8)) 194 0 tl [.inr (.inr (10, 0, 0)), .inl (v1), .inl (v2), .inl (v3), .inl (v4), .inl (v5), .inl (v6), .inl (ox_w (v7 + v11)), .inl (ox_w (v8 + v11)), .inl (v9), .inl (v10), .inl (v11)] [.inl (v5)] σ else ox_ev m_Mod_state (ox_zz ox_ms (n + 8)) 190 0 tl [.inr (.inr (10, 0, 0)), .inl (v1), .inl (v2), .inl (v3), .inl (v4), ox_d, .inl (v6), .inl (ox_w (v7 + v11)), .inl (ox_w (v8 + v11)), .inl (v9), .inl (v10), ox_d] [.inl (v5)] σ) rfl ?_
    refine ox_R_if (fun _ => ?_) (fun _ => ?_)
    · refine ox_R_to 1 (Y := ox_ev m_Mod_state (ox_zz ox_ms (n + 8)) 195 0 tl [.inr (.inr (10, 0, 0)), .inl (v1), .inl (v2), .inl (v3), .inl (v4), ox_d, .inl (v6), .inl (ox_w (v7 + v11)), .inl (ox_w (v8 + v11)), .inl (v9), .inl (v10), ox_d] [.inl (0), .inl (v5)] σ) rfl ?_
      exact (L_Mod_state_195 v1 v2 v3 v4 v6 (ox_w (v7 + v11)) (ox_w (v8 + v11)) v9 v10 0 v5 σ n tl)
    · exact (L_Mod_state_190 v1 v2 v3 v4 v6 (ox_w (v7 + v11)) (ox_w (v8 + v11)) v9 v10 v5 σ n tl)
def B_Mod_state_129  (v1 : Int) (v2 : Int) (v3 : Int) (v4 : Int) (v5 : Int) (v6 : Int) (v7 : Int) (v8 : Int) (v9 : Int) (v10 : Int) (σ : ox_H) : (Int) → Option (((Int) ⊕ Int × ox_H)) := fun v11 => if v10 = 43 then (if (σ 10 0 23 0) < (ox_w (v7 + v11)) then ((J_Mod_state_158 v1 v2 v3 v4 v5 v6 v7 v8 v9 v10 v11 σ).map .inr) else (some (.inl (ox_w (v11 + v9))))) else ((J_Mod_state_158 v1 v2 v3 v4 v5 v6 v7 v8 v9 v10 v11 σ).map .inr)
def J_Mod_state_129  (v1 : Int) (v2 : Int) (v3 : Int) (v4 : Int) (v5 : Int) (v6 : Int) (v7 : Int) (v8 : Int) (v9 : Int) (v10 : Int) (v11 : Int) (σ : ox_H) : Option (Int × ox_H) := ox_lp (B_Mod_state_129 v1 v2 v3 v4 v5 v6 v7 v8 v9 v10 σ) ox_fu v11
theorem L_Mod_state_129  (v1 : Int) (v2 : Int) (v3 : Int) (v4 : Int) (v5 : Int) (v6 : Int) (v7 : Int) (v8 : Int) (v9 : Int) (v10 : Int) (v11 : Int) (σ : ox_H) (n tl : Nat) : ox_R (fun r => some ((fun r : Int × ox_H => ((.inl (some (.inl r.1)), r.2) : ox_O)) r)) (J_Mod_state_129 v1 v2 v3 v4 v5 v6 v7 v8 v9 v10 v11 σ) (ox_ev m_Mod_state (ox_zz ox_ms (n + 8)) 129 0 tl [.inr (.inr (10, 0, 0)), .inl (v1), .inl (v2), .inl (v3), .inl (v4), .inl (v5), .inl (v6), .inl (v7), .inl (v8), .inl (v9), .inl (v10), .inl (v11)] [] σ) := by
  unfold J_Mod_state_129
  refine ox_R_lp (ψ := (fun (v11 : Int) => ox_ev m_Mod_state (ox_zz ox_ms (n + 8)) 129 0 tl [.inr (.inr (10, 0, 0)), .inl (v1), .inl (v2), .inl (v3), .inl (v4), .inl (v5), .inl (v6), .inl (v7), .inl (v8), .inl (v9), .inl (v10), .inl (v11)] [] σ)) ?_ ox_fu v11
  intro s
  revert s; intro v11
  unfold B_Mod_state_129
  refine ox_R_to 3 (Y := if v10 = 43 then ox_ev m_Mod_state (ox_zz ox_ms (n + 8)) 136 0 tl [.inr (.inr (10, 0, 0)), .inl (v1), .inl (v2), .inl (v3), .inl (v4), .inl (v5), .inl (v6), .inl (v7), .inl (v8), .inl (v9), .inl (v10), .inl (v11)] [] σ else ox_ev m_Mod_state (ox_zz ox_ms (n + 8)) 158 0 tl [.inr (.inr (10, 0, 0)), .inl (v1), .inl (v2), .inl (v3), .inl (v4), .inl (v5), .inl (v6), .inl (v7), .inl (v8), .inl (v9), .inl (v10), .inl (v11)] [] σ) rfl ?_
  refine ox_R_if (fun _ => ?_) (fun _ => ?_)
  · refine ox_R_to 6 (Y := if (σ 10 0 23 0) < (ox_w (v7 + v11)) then ox_ev m_Mod_state (ox_zz ox_ms (n + 8)) 158 0 tl [.inr (.inr (10, 0, 0)), .inl (v1), .inl (v2), .inl (v3), .inl (v4), .inl (v5), .inl (v6), .inl (v7), .inl (v8), .inl (v9), .inl (v10), .inl (v11)] [] σ else ox_ev m_Mod_state (ox_zz ox_ms (n + 8)) 148 0 tl [.inr (.inr (10, 0, 0)), .inl (v1), .inl (v2), .inl (v3), .inl (v4), .inl (v5), .inl (v6), .inl (v7), .inl (v8), .inl (v9), .inl (v10), .inl (v11)] [] σ) rfl ?_
    refine ox_R_if (fun _ => ?_) (fun _ => ?_)
    · exact ox_R_map ((L_Mod_state_158 v1 v2 v3 v4 v5 v6 v7 v8 v9 v10 v11 σ n tl))
    · refine ox_R_to 5 (Y := ox_ev m_Mod_state (ox_zz ox_ms (n + 8)) 129 0 tl [.inr (.inr (10, 0, 0)), .inl (v1), .inl (v2), .inl (v3), .inl (v4), .inl (v5), .inl (v6), .inl (v7), .inl (v8), .inl (v9), .inl (v10), .inl (ox_w (v11 + v9))] [] σ) rfl ?_
      exact ox_R_ret rfl
  · exact ox_R_map ((L_Mod_state_158 v1 v2 v3 v4 v5 v6 v7 v8 v9 v10 v11 σ n tl))
def J_Mod_state_127  (v1 : Int) (v2 : Int) (v3 : Int) (v4 : Int) (v5 : Int) (v6 : Int) (v7 : Int) (v8 : Int) (v9 : Int) (v10 : Int) (s0 : Int) (σ : ox_H) : Option (Int × ox_H) := (J_Mod_state_129 v1 v2 v3 v4 v5 v6 v7 v8 v9 v10 s0 σ)
theorem L_Mod_state_127  (v1 : Int) (v2 : Int) (v3 : Int) (v4 : Int) (v5 : Int) (v6 : Int) (v7 : Int) (v8 : Int) (v9 : Int) (v10 : Int) (s0 : Int) (σ : ox_H) (n tl : Nat) : ox_R (fun r => some ((fun r : Int × ox_H => ((.inl (some (.inl r.1)), r.2) : ox_O)) r)) (J_Mod_state_127 v1 v2 v3 v4 v5 v6 v7 v8 v9 v10 s0 σ) (ox_ev m_Mod_state (ox_zz ox_ms (n + 8)) 127 0 tl [.inr (.inr (10, 0, 0)), .inl (v1), .inl (v2), .inl (v3), .inl (v4), .inl (v5), .inl (v6), .inl (v7), .inl (v8), .inl (v9), .inl (v10), ox_d] [.inl (s0)] σ) := by
  unfold J_Mod_state_127
  refine ox_R_to 1 (Y := ox_ev m_Mod_state (ox_zz ox_ms (n + 8)) 129 0 tl [.inr (.inr (10, 0, 0)), .inl (v1), .inl (v2), .inl (v3), .inl (v4), .inl (v5), .inl (v6), .inl (v7), .inl (v8), .inl (v9), .inl (v10), .inl (s0)] [] σ) rfl ?_
  exact (L_Mod_state_129 v1 v2 v3 v4 v5 v6 v7 v8 v9 v10 s0 σ n tl)
def J_Mod_state_60  (v1 : Int) (v2 : Int) (v3 : Int) (v4 : Int) (v7 : Int) (v8 : Int) (v9 : Int) (v10 : Int) (s0 : Int) (σ : ox_H) : Option (Int × ox_H) := (F_Mod_dateOf v1 σ).bind fun r11 => (if r11.1 < 0 then (J_Mod_state_198 v1 v2 v3 v4 s0 r11.1 v7 v8 v9 v10 r11.2) else (if (r11.2 10 0 19 0) ≤ 0 then (J_Mod_state_198 v1 v2 v3 v4 s0 r11.1 v7 v8 v9 v10 r11.2) else (if (r11.2 10 0 20 0) = 46 then (J_Mod_state_127 v1 v2 v3 v4 s0 r11.1 (r11.2 10 0 17 0) (r11.2 10 0 18 0) (r11.2 10 0 19 0) (r11.2 10 0 20 0) (ox_w ((ox_w ((r11.2 10 0 23 0) + (r11.2 10 0 19 0))) - (r11.2 10 0 17 0))) r11.2) else (J_Mod_state_127 v1 v2 v3 v4 s0 r11.1 (r11.2 10 0 17 0) (r11.2 10 0 18 0) (r11.2 10 0 19 0) (r11.2 10 0 20 0) (r11.2 10 0 19 0) r11.2))))
theorem L_Mod_state_60  (v1 : Int) (v2 : Int) (v3 : Int) (v4 : Int) (v7 : Int) (v8 : Int) (v9 : Int) (v10 : Int) (s0 : Int) (σ : ox_H) (n tl : Nat) : ox_R (fun r => some ((fun r : Int × ox_H => ((.inl (some (.inl r.1)), r.2) : ox_O)) r)) (J_Mod_state_60 v1 v2 v3 v4 v7 v8 v9 v10 s0 σ) (ox_ev m_Mod_state (ox_zz ox_ms (n + 8)) 60 0 tl [.inr (.inr (10, 0, 0)), .inl (v1), .inl (v2), .inl (v3), .inl (v4), ox_d, ox_d, .inl (v7), .inl (v8), .inl (v9), .inl (v10), ox_d] [.inl (s0)] σ) := by
  unfold J_Mod_state_60
  refine ox_R_to 4 (Y := ox_back m_Mod_state 64 1 [] ((ox_zz ox_ms (n + 8)) 80 tl [.inr (.inr (10, 0, 0)), .inl (v1)] σ) (fun pc9 x9 st9 σ9 => ox_ev m_Mod_state (ox_zz ox_ms (n + 8)) pc9 0 tl (ox_kl (m_Mod_state.2.2.1 pc9) (ox_xl x9 [.inr (.inr (10, 0, 0)), .inl (v1), .inl (v2), .inl (v3), .inl (v4), .inl (s0), ox_d, .inl (v7), .inl (v8), .inl (v9), .inl (v10), ox_d])) st9 σ9)) rfl ?_
  refine ox_R_call (fc := (fun r : Int × ox_H => ((.inl (some (.inl r.1)), r.2) : ox_O))) (L_Mod_dateOf v1 σ (n + 3) tl) (fun r11 => ?_)
  refine ox_R_of (Y := ox_ev m_Mod_state (ox_zz ox_ms (n + 8)) 67 0 tl [.inr (.inr (10, 0, 0)), .inl (v1), .inl (v2), .inl (v3), .inl (v4), .inl (s0), ox_d, .inl (v7), .inl (v8), .inl (v9), .inl (v10), ox_d] [.inl (r11.1)] r11.2) rfl ?_
  refine ox_R_to 3 (Y := if r11.1 < 0 then ox_ev m_Mod_state (ox_zz ox_ms (n + 8)) 198 0 tl [.inr (.inr (10, 0, 0)), .inl (v1), .inl (v2), .inl (v3), .inl (v4), .inl (s0), .inl (r11.1), .inl (v7), .inl (v8), .inl (v9), .inl (v10), ox_d] [] r11.2 else ox_ev m_Mod_state (ox_zz ox_ms (n + 8)) 74 0 tl [.inr (.inr (10, 0, 0)), .inl (v1), .inl (v2), .inl (v3), .inl (v4), .inl (s0), .inl (r11.1), .inl (v7), .inl (v8), .inl (v9), .inl (v10), ox_d] [] r11.2) rfl ?_
  refine ox_R_if (fun _ => ?_) (fun _ => ?_)
  · exact (L_Mod_state_198 v1 v2 v3 v4 s0 r11.1 v7 v8 v9 v10 r11.2 n tl)
  · refine ox_R_to 3 (Y := if (r11.2 10 0 19 0) ≤ 0 then ox_ev m_Mod_state (ox_zz ox_ms (n + 8)) 198 0 tl [.inr (.inr (10, 0, 0)), .inl (v1), .inl (v2), .inl (v3), .inl (v4), .inl (s0), .inl (r11.1), .inl (v7), .inl (v8), .inl (v9), .inl (v10), ox_d] [] r11.2 else ox_ev m_Mod_state (ox_zz ox_ms (n + 8)) 81 0 tl [.inr (.inr (10, 0, 0)), .inl (v1), .inl (v2), .inl (v3), .inl (v4), .inl (s0), .inl (r11.1), .inl (v7), .inl (v8), .inl (v9), .inl (v10), ox_d] [] r11.2) rfl ?_
    refine ox_R_if (fun _ => ?_) (fun _ => ?_)
    · exact (L_Mod_state_198 v1 v2 v3 v4 s0 r11.1 v7 v8 v9 v10 r11.2 n tl)
    · refine ox_R_to 15 (Y := if (r11.2 10 0 20 0) = 46 then ox_ev m_Mod_state (ox_zz ox_ms (n + 8)) 112 0 tl [.inr (.inr (10, 0, 0)), .inl (v1), .inl (v2), .inl (v3), .inl (v4), .inl (s0), .inl (r11.1), .inl (r11.2 10 0 17 0), .inl (r11.2 10 0 18 0), .inl (r11.2 10 0 19 0), .inl (r11.2 10 0 20 0), ox_d] [] r11.2 else ox_ev m_Mod_state (ox_zz ox_ms (n + 8)) 125 0 tl [.inr (.inr (10, 0, 0)), .inl (v1), .inl (v2), .inl (v3), .inl (v4), .inl (s0), .inl (r11.1), .inl (r11.2 10 0 17 0), .inl (r11.2 10 0 18 0), .inl (r11.2 10 0 19 0), .inl (r11.2 10 0 20 0), ox_d] [] r11.2) rfl ?_
      refine ox_R_if (fun _ => ?_) (fun _ => ?_)
      · refine ox_R_to 7 (Y := ox_ev m_Mod_state (ox_zz ox_ms (n + 8)) 127 0 tl [.inr (.inr (10, 0, 0)), .inl (v1), .inl (v2), .inl (v3), .inl (v4), .inl (s0), .inl (r11.1), .inl (r11.2 10 0 17 0), .inl (r11.2 10 0 18 0), .inl (r11.2 10 0 19 0), .inl (r11.2 10 0 20 0), ox_d] [.inl (ox_w ((ox_w ((r11.2 10 0 23 0) + (r11.2 10 0 19 0))) - (r11.2 10 0 17 0)))] r11.2) rfl ?_
        exact (L_Mod_state_127 v1 v2 v3 v4 s0 r11.1 (r11.2 10 0 17 0) (r11.2 10 0 18 0) (r11.2 10 0 19 0) (r11.2 10 0 20 0) (ox_w ((ox_w ((r11.2 10 0 23 0) + (r11.2 10 0 19 0))) - (r11.2 10 0 17 0))) r11.2 n tl)
      · refine ox_R_to 1 (Y := ox_ev m_Mod_state (ox_zz ox_ms (n + 8)) 127 0 tl [.inr (.inr (10, 0, 0)), .inl (v1), .inl (v2), .inl (v3), .inl (v4), .inl (s0), .inl (r11.1), .inl (r11.2 10 0 17 0), .inl (r11.2 10 0 18 0), .inl (r11.2 10 0 19 0), .inl (r11.2 10 0 20 0), ox_d] [.inl (r11.2 10 0 19 0)] r11.2) rfl ?_
        exact (L_Mod_state_127 v1 v2 v3 v4 s0 r11.1 (r11.2 10 0 17 0) (r11.2 10 0 18 0) (r11.2 10 0 19 0) (r11.2 10 0 20 0) (r11.2 10 0 19 0) r11.2 n tl)
def F_Mod_state  (a1 : Int) (a2 : Int) (σ : ox_H) : Option (Int × ox_H) := (F_Mod_isEntry a1 σ).bind fun r12 => ((F_Mod_in a2 (-1) 3 r12.2).bind fun r13 => (if r12.1 = 0 then (J_Mod_state_198 a1 a2 r12.1 r13 0 (-1) 0 0 0 0 r12.2) else (if r13 = 0 then (J_Mod_state_198 a1 a2 r12.1 r13 0 (-1) 0 0 0 0 r12.2) else (if a2 = 2 then ((F_Mod_canBeDone a1 r12.2).bind fun r14 => (if r14.1 = 0 then (J_Mod_state_60 a1 a2 r12.1 r13 0 0 0 0 1 r14.2) else (J_Mod_state_60 a1 a2 r12.1 r13 0 0 0 0 0 r14.2))) else (J_Mod_state_198 a1 a2 r12.1 r13 0 (-1) 0 0 0 0 r12.2)))))
theorem L_Mod_state  (a1 : Int) (a2 : Int) (σ : ox_H) (n tl : Nat) : ox_R (fun r => some ((fun r : Int × ox_H => ((.inl (some (.inl r.1)), r.2) : ox_O)) r)) (F_Mod_state a1 a2 σ) (ox_zz ox_ms (n + 9) 101 tl [.inr (.inr (10, 0, 0)), .inl (a1), .inl (a2)] σ) := by
  unfold F_Mod_state
  refine ox_R_of (Y := ox_ev m_Mod_state (ox_zz ox_ms (n + 8)) 0 0 tl [.inr (.inr (10, 0, 0)), .inl (a1), .inl (a2), ox_d, ox_d, ox_d, ox_d, ox_d, ox_d, ox_d, ox_d, ox_d] [] σ) rfl ?_
  refine ox_R_to 3 (Y := ox_back m_Mod_state 2 1 [] ((ox_zz ox_ms (n + 8)) 73 tl [.inr (.inr (10, 0, 0)), .inl (a1)] σ) (fun pc9 x9 st9 σ9 => ox_ev m_Mod_state (ox_zz ox_ms (n + 8)) pc9 0 tl (ox_kl (m_Mod_state.2.2.1 pc9) (ox_xl x9 [.inr (.inr (10, 0, 0)), .inl (a1), .inl (a2), ox_d, ox_d, ox_d, ox_d, ox_d, ox_d, ox_d, ox_d, ox_d])) st9 σ9)) rfl ?_
  refine ox_R_call (fc := (fun r : Int × ox_H => ((.inl (some (.inl r.1)), r.2) : ox_O))) (L_Mod_isEntry a1 σ (n + 2) tl) (fun r12 => ?_)
  refine ox_R_of (Y := ox_ev m_Mod_state (ox_zz ox_ms (n + 8)) 5 0 tl [.inr (.inr (10, 0, 0)), .inl (a1), .inl (a2), ox_d, ox_d, ox_d, ox_d, ox_d, ox_d, ox_d, ox_d, ox_d] [.inl (r12.1)] r12.2) rfl ?_
  refine ox_R_to 6 (Y := ox_back m_Mod_state 10 1 [] ((ox_zz ox_ms (n + 8)) 44 tl [.inr (.inr (10, 0, 0)), .inl (a2), .inl ((-1)), .inl (3)] r12.2) (fun pc9 x9 st9 σ9 => ox_ev m_Mod_state (ox_zz ox_ms (n + 8)) pc9 0 tl (ox_kl (m_Mod_state.2.2.1 pc9) (ox_xl x9 [.inr (.inr (10, 0, 0)), .inl (a1), .inl (a2), .inl (r12.1), ox_d, ox_d, ox_d, ox_d, ox_d, ox_d, ox_d, ox_d])) st9 σ9)) rfl ?_
  refine ox_R_call (fc := (fun r : Int => ((.inl (some (.inl r)), r12.2) : ox_O))) (L_Mod_in a2 (-1) 3 r12.2 (n + 7) tl) (fun r13 => ?_)
  refine ox_R_of (Y := ox_ev m_Mod_state (ox_zz ox_ms (n + 8)) 13 0 tl [.inr (.inr (10, 0, 0)), .inl (a1), .inl (a2), .inl (r12.1), ox_d, ox_d, ox_d, ox_d, ox_d, ox_d, ox_d, ox_d] [.inl (r13)] r12.2) rfl ?_
  refine ox_R_to 15 (Y := if r12.1 = 0 then ox_ev m_Mod_state (ox_zz ox_ms (n + 8)) 198 0 tl [.inr (.inr (10, 0, 0)), .inl (a1), .inl (a2), .inl (r12.1), .inl (r13), .inl (0), .inl ((-1)), .inl (0), .inl (0), .inl (0), .inl (0), ox_d] [] r12.2 else ox_ev m_Mod_state (ox_zz ox_ms (n + 8)) 37 0 tl [.inr (.inr (10, 0, 0)), .inl (a1), .inl (a2), .inl (r12.1), .inl (r13), .inl (0), .inl ((-1)), .inl (0), .inl (0), .inl (0), .inl (0), ox_d] [] r12.2) rfl ?_
  refine ox_R_if (fun _ => ?_) (fun _ => ?_)
  · exact (L_Mod_state_198 a1 a2 r12.1 r13 0 (-1) 0 0 0 0 r12.2 n tl)
  · refine ox_R_to 2 (Y := if r13 = 0 then ox_ev m_Mod_state (ox_zz ox_ms (n + 8)) 198 0 tl [.inr (.inr (10, 0, 0)), .inl (a1), .inl (a2), .inl (r12.1), .inl (r13), .inl (0), .inl ((-1)), .inl (0), .inl (0), .inl (0), .inl (0), ox_d] [] r12.2 else ox_ev m_Mod_state (ox_zz ox_ms (n + 8)) 42 0 tl [.inr (.inr (10, 0, 0)), .inl (a1), .inl (a2), .inl (r12.1), .inl (r13), .inl (0), .inl ((-1)), .inl (0), .inl (0), .inl (0), .inl (0), ox_d] [] r12.2) rfl ?_
    refine ox_R_if (fun _ => ?_) (fun _ => ?_)
    · exact (L_Mod_state_198 a1 a2 r12.1 r13 0 (-1) 0 0 0 0 r12.2 n tl)
    · refine ox_R_to 3 (Y := if a2 = 2 then ox_ev m_Mod_state (ox_zz ox_ms (n + 8)) 47 0 tl [.inr (.inr (10, 0, 0)), .inl (a1), .inl (a2), .inl (r12.1), .inl (r13), .inl (0), .inl ((-1)), .inl (0), .inl (0), .inl (0), .inl (0), ox_d] [] r12.2 else ox_ev m_Mod_state (ox_zz ox_ms (n + 8)) 198 0 tl [.inr (.inr (10, 0, 0)), .inl (a1), .inl (a2), .inl (r12.1), .inl (r13), .inl (0), .inl ((-1)), .inl (0), .inl (0), .inl (0), .inl (0), ox_d] [] r12.2) rfl ?_
      refine ox_R_if (fun _ => ?_) (fun _ => ?_)
      · refine ox_R_to 3 (Y := ox_back m_Mod_state 49 1 [] ((ox_zz ox_ms (n + 8)) 100 tl [.inr (.inr (10, 0, 0)), .inl (a1)] r12.2) (fun pc9 x9 st9 σ9 => ox_ev m_Mod_state (ox_zz ox_ms (n + 8)) pc9 0 tl (ox_kl (m_Mod_state.2.2.1 pc9) (ox_xl x9 [.inr (.inr (10, 0, 0)), .inl (a1), .inl (a2), .inl (r12.1), .inl (r13), .inl (0), .inl ((-1)), .inl (0), .inl (0), .inl (0), .inl (0), ox_d])) st9 σ9)) rfl ?_
        refine ox_R_call (fc := (fun r : Int × ox_H => ((.inl (some (.inl r.1)), r.2) : ox_O))) (L_Mod_canBeDone a1 r12.2 (n + 0) tl) (fun r14 => ?_)
        refine ox_R_of (Y := ox_ev m_Mod_state (ox_zz ox_ms (n + 8)) 52 0 tl [.inr (.inr (10, 0, 0)), .inl (a1), .inl (a2), .inl (r12.1), .inl (r13), .inl (0), .inl ((-1)), .inl (0), .inl (0), .inl (0), .inl (0), ox_d] [.inl (r14.1)] r14.2) rfl ?_
        refine ox_R_to 1 (Y := if r14.1 = 0 then ox_ev m_Mod_state (ox_zz ox_ms (n + 8)) 55 0 tl [.inr (.inr (10, 0, 0)), .inl (a1), .inl (a2), .inl (r12.1), .inl (r13), .inl (0), .inl ((-1)), .inl (0), .inl (0), .inl (0), .inl (0), ox_d] [] r14.2 else ox_ev m_Mod_state (ox_zz ox_ms (n + 8)) 59 0 tl [.inr (.inr (10, 0, 0)), .inl (a1), .inl (a2), .inl (r12.1), .inl (r13), .inl (0), .inl ((-1)), .inl (0), .inl (0), .inl (0), .inl (0), ox_d] [] r14.2) rfl ?_
        refine ox_R_if (fun _ => ?_) (fun _ => ?_)
        · refine ox_R_to 2 (Y := ox_ev m_Mod_state (ox_zz ox_ms (n + 8)) 60 0 tl [.inr (.inr (10, 0, 0)), .inl (a1), .inl (a2), .inl (r12.1), .inl (r13), ox_d, ox_d, .inl (0), .inl (0), .inl (0), .inl (0), ox_d] [.inl (1)] r14.2) rfl ?_
          exact (L_Mod_state_60 a1 a2 r12.1 r13 0 0 0 0 1 r14.2 n tl)
        · refine ox_R_to 1 (Y := ox_ev m_Mod_state (ox_zz ox_ms (n + 8)) 60 0 tl [.inr (.inr (10, 0, 0)), .inl (a1), .inl (a2), .inl (r12.1), .inl (r13), ox_d, ox_d, .inl (0), .inl (0), .inl (0), .inl (0), ox_d] [.inl (0)] r14.2) rfl ?_
          exact (L_Mod_state_60 a1 a2 r12.1 r13 0 0 0 0 0 r14.2 n tl)
      · exact (L_Mod_state_198 a1 a2 r12.1 r13 0 (-1) 0 0 0 0 r12.2 n tl)
def J_Mod_capture_174  (v2 : Int) (v6 : Int) (σ : ox_H) : Option (Int × ox_H) := (F_Mod_add1 v6 32 σ).bind fun r1 => ((F_Mod_write v6 0 r1).bind fun r2 => ((F_Mod_add1 v6 (ox_w (97 + v2)) r2).bind fun r3 => ((F_Mod_entryAt v6 r3).bind fun r4 => (some (r4.1, r4.2)))))
theorem L_Mod_capture_174  (v2 : Int) (v6 : Int) (σ : ox_H) (n tl : Nat) : ox_R (fun r => some ((fun r : Int × ox_H => ((.inl (some (.inl r.1)), r.2) : ox_O)) r)) (J_Mod_capture_174 v2 v6 σ) (ox_ev m_Mod_capture (ox_zz ox_ms (n + 7)) 174 0 tl [.inr (.inr (10, 0, 0)), ox_d, .inl (v2), ox_d, ox_d, ox_d, .inl (v6), ox_d] [] σ) := by
  unfold J_Mod_capture_174
  refine ox_R_to 4 (Y := ox_back m_Mod_capture 179 0 [] ((ox_zz ox_ms (n + 7)) 98 tl [.inr (.inr (10, 0, 0)), .inl (v6), .inl (32)] σ) (fun pc9 x9 st9 σ9 => ox_ev m_Mod_capture (ox_zz ox_ms (n + 7)) pc9 0 tl (ox_kl (m_Mod_capture.2.2.1 pc9) (ox_xl x9 [.inr (.inr (10, 0, 0)), ox_d, .inl (v2), ox_d, ox_d, ox_d, .inl (v6), ox_d])) st9 σ9)) rfl ?_
  refine ox_R_call (fc := (fun r : ox_H => ((.inl none, r) : ox_O))) (L_Mod_add1 v6 32 σ (n + 6) tl) (fun r1 => ?_)
  refine ox_R_of (Y := ox_ev m_Mod_capture (ox_zz ox_ms (n + 7)) 182 0 tl [.inr (.inr (10, 0, 0)), ox_d, .inl (v2), ox_d, ox_d, ox_d, .inl (v6), ox_d] [] r1) rfl ?_
  refine ox_R_to 4 (Y := ox_back m_Mod_capture 186 0 [] ((ox_zz ox_ms (n + 7)) 95 tl [.inr (.inr (10, 0, 0)), .inl (v6), .inl (0)] r1) (fun pc9 x9 st9 σ9 => ox_ev m_Mod_capture (ox_zz ox_ms (n + 7)) pc9 0 tl (ox_kl (m_Mod_capture.2.2.1 pc9) (ox_xl x9 [.inr (.inr (10, 0, 0)), ox_d, .inl (v2), ox_d, ox_d, ox_d, .inl (v6), ox_d])) st9 σ9)) rfl ?_
  refine ox_R_call (fc := (fun r : ox_H => ((.inl none, r) : ox_O))) (L_Mod_write v6 0 r1 (n + 2) tl) (fun r2 => ?_)
  refine ox_R_of (Y := ox_ev m_Mod_capture (ox_zz ox_ms (n + 7)) 189 0 tl [.inr (.inr (10, 0, 0)), ox_d, .inl (v2), ox_d, ox_d, ox_d, .inl (v6), ox_d] [] r2) rfl ?_
  refine ox_R_to 6 (Y := ox_back m_Mod_capture 196 0 [] ((ox_zz ox_ms (n + 7)) 98 tl [.inr (.inr (10, 0, 0)), .inl (v6), .inl (ox_w (97 + v2))] r2) (fun pc9 x9 st9 σ9 => ox_ev m_Mod_capture (ox_zz ox_ms (n + 7)) pc9 0 tl (ox_kl (m_Mod_capture.2.2.1 pc9) (ox_xl x9 [.inr (.inr (10, 0, 0)), ox_d, .inl (v2), ox_d, ox_d, ox_d, .inl (v6), ox_d])) st9 σ9)) rfl ?_
  refine ox_R_call (fc := (fun r : ox_H => ((.inl none, r) : ox_O))) (L_Mod_add1 v6 (ox_w (97 + v2)) r2 (n + 6) tl) (fun r3 => ?_)
  refine ox_R_of (Y := ox_ev m_Mod_capture (ox_zz ox_ms (n + 7)) 199 0 tl [.inr (.inr (10, 0, 0)), ox_d, .inl (v2), ox_d, ox_d, ox_d, .inl (v6), ox_d] [] r3) rfl ?_
  refine ox_R_to 3 (Y := ox_back m_Mod_capture 202 1 [] ((ox_zz ox_ms (n + 7)) 93 tl [.inr (.inr (10, 0, 0)), .inl (v6)] r3) (fun pc9 x9 st9 σ9 => ox_ev m_Mod_capture (ox_zz ox_ms (n + 7)) pc9 0 tl (ox_kl (m_Mod_capture.2.2.1 pc9) (ox_xl x9 [.inr (.inr (10, 0, 0)), ox_d, .inl (v2), ox_d, ox_d, ox_d, .inl (v6), ox_d])) st9 σ9)) rfl ?_
  refine ox_R_call (fc := (fun r : Int × ox_H => ((.inl (some (.inl r.1)), r.2) : ox_O))) (L_Mod_entryAt v6 r3 (n + 1) tl) (fun r4 => ?_)
  refine ox_R_of (Y := ox_ev m_Mod_capture (ox_zz ox_ms (n + 7)) 205 0 tl [.inr (.inr (10, 0, 0)), ox_d, .inl (v2), ox_d, ox_d, ox_d, .inl (v6), ox_d] [.inl (r4.1)] r4.2) rfl ?_
  refine ox_R_to 1 (Y := some (.inl (some (.inl (r4.1))), r4.2)) rfl ?_
  exact ox_R_ret rfl
def B_Mod_capture_146  (v2 : Int) (v5 : Int) (v6 : Int) : (Int × ox_H) → Option (((Int × ox_H) ⊕ Int × ox_H)) := fun (v7, σ) => if v5 ≤ v7 then ((J_Mod_capture_174 v2 v6 σ).map .inr) else (if 0 ≤ (ox_w ((ox_w (24 * v6)) + v7)) ∧ (ox_w ((ox_w (24 * v6)) + v7)).toNat < 1440 then (some (.inl (ox_w (v7 + 1), (ox_up σ 10 0 0 ((ox_w ((ox_w (24 * v6)) + v7)).toNat) 42)))) else none)
def J_Mod_capture_146  (v2 : Int) (v5 : Int) (v6 : Int) (v7 : Int) (σ : ox_H) : Option (Int × ox_H) := ox_lp (B_Mod_capture_146 v2 v5 v6) ox_fu (v7, σ)
theorem L_Mod_capture_146  (v2 : Int) (v5 : Int) (v6 : Int) (v7 : Int) (σ : ox_H) (n tl : Nat) : ox_R (fun r => some ((fun r : Int × ox_H => ((.inl (some (.inl r.1)), r.2) : ox_O)) r)) (J_Mod_capture_146 v2 v5 v6 v7 σ) (ox_ev m_Mod_capture (ox_zz ox_ms (n + 7)) 146 0 tl [.inr (.inr (10, 0, 0)), ox_d, .inl (v2), ox_d, ox_d, .inl (v5), .inl (v6), .inl (v7)] [] σ) := by
  unfold J_Mod_capture_146
  refine ox_R_lp (ψ := (fun (s : Int × ox_H) => match s with | (v7, σ) => ox_ev m_Mod_capture (ox_zz ox_ms (n + 7)) 146 0 tl [.inr (.inr (10, 0, 0)), ox_d, .inl (v2), ox_d, ox_d, .inl (v5), .inl (v6), .inl (v7)] [] σ)) ?_ ox_fu (v7, σ)
  intro s
  obtain ⟨v7, σ⟩ := s
  unfold B_Mod_capture_146
  refine ox_R_to 3 (Y := if v5 ≤ v7 then ox_ev m_Mod_capture (ox_zz ox_ms (n + 7)) 174 0 tl [.inr (.inr (10, 0, 0)), ox_d, .inl (v2), ox_d, ox_d, ox_d, .inl (v6), ox_d] [] σ else ox_ev m_Mod_capture (ox_zz ox_ms (n + 7)) 153 0 tl [.inr (.inr (10, 0, 0)), ox_d, .inl (v2), ox_d, ox_d, .inl (v5), .inl (v6), .inl (v7)] [] σ) rfl ?_
  refine ox_R_if (fun _ => ?_) (fun _ => ?_)
  · exact ox_R_map ((L_Mod_capture_174 v2 v6 σ n tl))
  · refine ox_R_to 9 (Y := if 0 ≤ (ox_w ((ox_w (24 * v6)) + v7)) ∧ (ox_w ((ox_w (24 * v6)) + v7)).toNat < 1440 then ox_ev m_Mod_capture (ox_zz ox_ms (n + 7)) 168 0 tl [.inr (.inr (10, 0, 0)), ox_d, .inl (v2), ox_d, ox_d, .inl (v5), .inl (v6), .inl (v7)] [] (ox_up σ 10 0 0 ((ox_w ((ox_w (24 * v6)) + v7)).toNat) 42) else none) rfl ?_
    refine ox_R_if (fun _ => ?_) (fun _ => ox_R_none)
    refine ox_R_to 2 (Y := ox_ev m_Mod_capture (ox_zz ox_ms (n + 7)) 146 0 tl [.inr (.inr (10, 0, 0)), ox_d, .inl (v2), ox_d, ox_d, .inl (v5), .inl (v6), .inl (ox_w (v7 + 1))] [] (ox_up σ 10 0 0 ((ox_w ((ox_w (24 * v6)) + v7)).toNat) 42)) rfl ?_
    exact ox_R_ret rfl
def J_Mod_capture_125  (v2 : Int) (v5 : Int) (s0 : Int) (σ : ox_H) : Option (Int × ox_H) := (F_Mod_open s0 1 σ).bind fun r5 => (if 0 ≤ s0 ∧ s0.toNat < 60 then (J_Mod_capture_146 v2 v5 s0 0 (ox_up r5 10 0 1 s0.toNat v5)) else none)
theorem L_Mod_capture_125  (v2 : Int) (v5 : Int) (s0 : Int) (σ : ox_H) (n tl : Nat) : ox_R (fun r => some ((fun r : Int × ox_H => ((.inl (some (.inl r.1)), r.2) : ox_O)) r)) (J_Mod_capture_125 v2 v5 s0 σ) (ox_ev m_Mod_capture (ox_zz ox_ms (n + 7)) 125 0 tl [.inr (.inr (10, 0, 0)), ox_d, .inl (v2), ox_d, ox_d, .inl (v5), ox_d, ox_d] [.inl (s0)] σ) := by
  unfold J_Mod_capture_125
  refine ox_R_to 5 (Y := ox_back m_Mod_capture 131 0 [] ((ox_zz ox_ms (n + 7)) 64 tl [.inr (.inr (10, 0, 0)), .inl (s0), .inl (1)] σ) (fun pc9 x9 st9 σ9 => ox_ev m_Mod_capture (ox_zz ox_ms (n + 7)) pc9 0 tl (ox_kl (m_Mod_capture.2.2.1 pc9) (ox_xl x9 [.inr (.inr (10, 0, 0)), ox_d, .inl (v2), ox_d, ox_d, .inl (v5), .inl (s0), ox_d])) st9 σ9)) rfl ?_
  refine ox_R_call (fc := (fun r : ox_H => ((.inl none, r) : ox_O))) (L_Mod_open s0 1 σ (n + 6) tl) (fun r5 => ?_)
  refine ox_R_of (Y := ox_ev m_Mod_capture (ox_zz ox_ms (n + 7)) 134 0 tl [.inr (.inr (10, 0, 0)), ox_d, .inl (v2), ox_d, ox_d, .inl (v5), .inl (s0), ox_d] [] r5) rfl ?_
  refine ox_R_to 5 (Y := if 0 ≤ s0 ∧ s0.toNat < 60 then ox_ev m_Mod_capture (ox_zz ox_ms (n + 7)) 143 0 tl [.inr (.inr (10, 0, 0)), ox_d, .inl (v2), ox_d, ox_d, .inl (v5), .inl (s0), ox_d] [] (ox_up r5 10 0 1 s0.toNat v5) else none) rfl ?_
  refine ox_R_if (fun _ => ?_) (fun _ => ox_R_none)
  refine ox_R_to 2 (Y := ox_ev m_Mod_capture (ox_zz ox_ms (n + 7)) 146 0 tl [.inr (.inr (10, 0, 0)), ox_d, .inl (v2), ox_d, ox_d, .inl (v5), .inl (s0), .inl (0)] [] (ox_up r5 10 0 1 s0.toNat v5)) rfl ?_
  exact (L_Mod_capture_146 v2 v5 s0 0 (ox_up r5 10 0 1 s0.toNat v5) n tl)
def J_Mod_capture_99  (v2 : Int) (v4 : Int) (v5 : Int) (s0 : Int) (σ : ox_H) : Option (Int × ox_H) := (F_Mod_holds s0 σ).bind fun r6 => (if r6.1 = 0 then (if 0 ≤ v4 then ((F_Mod_end v4 r6.2).bind fun r7 => (J_Mod_capture_125 v2 v5 r7.1 r7.2)) else (J_Mod_capture_125 v2 v5 (r6.2 10 0 2 0) r6.2)) else (some ((-1), r6.2)))
theorem L_Mod_capture_99  (v2 : Int) (v4 : Int) (v5 : Int) (s0 : Int) (σ : ox_H) (n tl : Nat) : ox_R (fun r => some ((fun r : Int × ox_H => ((.inl (some (.inl r.1)), r.2) : ox_O)) r)) (J_Mod_capture_99 v2 v4 v5 s0 σ) (ox_ev m_Mod_capture (ox_zz ox_ms (n + 7)) 99 0 tl [.inr (.inr (10, 0, 0)), ox_d, .inl (v2), ox_d, .inl (v4), .inl (v5), ox_d, ox_d] [.inl (s0), .inr (.inr (10, 0, 0))] σ) := by
  unfold J_Mod_capture_99
  refine ox_R_to 1 (Y := ox_back m_Mod_capture 99 1 [] ((ox_zz ox_ms (n + 7)) 43 tl [.inr (.inr (10, 0, 0)), .inl (s0)] σ) (fun pc9 x9 st9 σ9 => ox_ev m_Mod_capture (ox_zz ox_ms (n + 7)) pc9 0 tl (ox_kl (m_Mod_capture.2.2.1 pc9) (ox_xl x9 [.inr (.inr (10, 0, 0)), ox_d, .inl (v2), ox_d, .inl (v4), .inl (v5), ox_d, ox_d])) st9 σ9)) rfl ?_
  refine ox_R_call (fc := (fun r : Int × ox_H => ((.inl (some (.inl r.1)), r.2) : ox_O))) (L_Mod_holds s0 σ (n + 6) tl) (fun r6 => ?_)
  refine ox_R_of (Y := ox_ev m_Mod_capture (ox_zz ox_ms (n + 7)) 102 0 tl [.inr (.inr (10, 0, 0)), ox_d, .inl (v2), ox_d, .inl (v4), .inl (v5), ox_d, ox_d] [.inl (r6.1)] r6.2) rfl ?_
  refine ox_R_to 1 (Y := if r6.1 = 0 then ox_ev m_Mod_capture (ox_zz ox_ms (n + 7)) 107 0 tl [.inr (.inr (10, 0, 0)), ox_d, .inl (v2), ox_d, .inl (v4), .inl (v5), ox_d, ox_d] [] r6.2 else ox_ev m_Mod_capture (ox_zz ox_ms (n + 7)) 105 0 tl [.inr (.inr (10, 0, 0)), ox_d, .inl (v2), ox_d, .inl (v4), .inl (v5), ox_d, ox_d] [] r6.2) rfl ?_
  refine ox_R_if (fun _ => ?_) (fun _ => ?_)
  · refine ox_R_to 2 (Y := if 0 ≤ v4 then ox_ev m_Mod_capture (ox_zz ox_ms (n + 7)) 119 0 tl [.inr (.inr (10, 0, 0)), ox_d, .inl (v2), ox_d, .inl (v4), .inl (v5), ox_d, ox_d] [] r6.2 else ox_ev m_Mod_capture (ox_zz ox_ms (n + 7)) 112 0 tl [.inr (.inr (10, 0, 0)), ox_d, .inl (v2), ox_d, .inl (v4), .inl (v5), ox_d, ox_d] [] r6.2) rfl ?_
    refine ox_R_if (fun _ => ?_) (fun _ => ?_)
    · refine ox_R_to 3 (Y := ox_back m_Mod_capture 122 1 [] ((ox_zz ox_ms (n + 7)) 78 tl [.inr (.inr (10, 0, 0)), .inl (v4)] r6.2) (fun pc9 x9 st9 σ9 => ox_ev m_Mod_capture (ox_zz ox_ms (n + 7)) pc9 0 tl (ox_kl (m_Mod_capture.2.2.1 pc9) (ox_xl x9 [.inr (.inr (10, 0, 0)), ox_d, .inl (v2), ox_d, .inl (v4), .inl (v5), ox_d, ox_d])) st9 σ9)) rfl ?_
      refine ox_R_call (fc := (fun r : Int × ox_H => ((.inl (some (.inl r.1)), r.2) : ox_O))) (L_Mod_end v4 r6.2 (n + 0) tl) (fun r7 => ?_)
      refine ox_R_of (Y := ox_ev m_Mod_capture (ox_zz ox_ms (n + 7)) 125 0 tl [.inr (.inr (10, 0, 0)), ox_d, .inl (v2), ox_d, ox_d, .inl (v5), ox_d, ox_d] [.inl (r7.1)] r7.2) rfl ?_
      exact (L_Mod_capture_125 v2 v5 r7.1 r7.2 n tl)
    · refine ox_R_to 3 (Y := ox_ev m_Mod_capture (ox_zz ox_ms (n + 7)) 125 0 tl [.inr (.inr (10, 0, 0)), ox_d, .inl (v2), ox_d, ox_d, .inl (v5), ox_d, ox_d] [.inl (r6.2 10 0 2 0)] r6.2) rfl ?_
      exact (L_Mod_capture_125 v2 v5 (r6.2 10 0 2 0) r6.2 n tl)
  · refine ox_R_to 2 (Y := some (.inl (some (.inl ((-1)))), r6.2)) rfl ?_
    exact ox_R_ret rfl
def J_Mod_capture_94  (v2 : Int) (v4 : Int) (v5 : Int) (σ : ox_H) : Option (Int × ox_H) := (J_Mod_capture_99 v2 v4 v5 2 σ)
theorem L_Mod_capture_94  (v2 : Int) (v4 : Int) (v5 : Int) (σ : ox_H) (n tl : Nat) : ox_R (fun r => some ((fun r : Int × ox_H => ((.inl (some (.inl r.1)), r.2) : ox_O)) r)) (J_Mod_capture_94 v2 v4 v5 σ) (ox_ev m_Mod_capture (ox_zz ox_ms (n + 7)) 94 0 tl [.inr (.inr (10, 0, 0)), ox_d, .inl (v2), ox_d, .inl (v4), .inl (v5), ox_d, ox_d] [.inr (.inr (10, 0, 0))] σ) := by
  unfold J_Mod_capture_94
  refine ox_R_to 2 (Y := ox_ev m_Mod_capture (ox_zz ox_ms (n + 7)) 99 0 tl [.inr (.inr (10, 0, 0)), ox_d, .inl (v2), ox_d, .inl (v4), .inl (v5), ox_d, ox_d] [.inl (2), .inr (.inr (10, 0, 0))] σ) rfl ?_
  exact (L_Mod_capture_99 v2 v4 v5 2 σ n tl)
def J_Mod_capture_67  (v2 : Int) (v3 : Int) (v4 : Int) (s0 : Int) (σ : ox_H) : Option (Int × ox_H) := if v3 = 0 then (J_Mod_capture_99 v2 v4 s0 1 σ) else (if s0 = 6 then (J_Mod_capture_94 v2 v4 s0 σ) else (if (σ 10 0 2 0) = 60 then (J_Mod_capture_94 v2 v4 s0 σ) else (J_Mod_capture_99 v2 v4 s0 0 σ)))
theorem L_Mod_capture_67  (v2 : Int) (v3 : Int) (v4 : Int) (s0 : Int) (σ : ox_H) (n tl : Nat) : ox_R (fun r => some ((fun r : Int × ox_H => ((.inl (some (.inl r.1)), r.2) : ox_O)) r)) (J_Mod_capture_67 v2 v3 v4 s0 σ) (ox_ev m_Mod_capture (ox_zz ox_ms (n + 7)) 67 0 tl [.inr (.inr (10, 0, 0)), ox_d, .inl (v2), .inl (v3), .inl (v4), ox_d, ox_d, ox_d] [.inl (s0)] σ) := by
  unfold J_Mod_capture_67
  refine ox_R_to 4 (Y := if v3 = 0 then ox_ev m_Mod_capture (ox_zz ox_ms (n + 7)) 74 0 tl [.inr (.inr (10, 0, 0)), ox_d, .inl (v2), .inl (v3), .inl (v4), .inl (s0), ox_d, ox_d] [.inr (.inr (10, 0, 0))] σ else ox_ev m_Mod_capture (ox_zz ox_ms (n + 7)) 78 0 tl [.inr (.inr (10, 0, 0)), ox_d, .inl (v2), .inl (v3), .inl (v4), .inl (s0), ox_d, ox_d] [.inr (.inr (10, 0, 0))] σ) rfl ?_
  refine ox_R_if (fun _ => ?_) (fun _ => ?_)
  · refine ox_R_to 2 (Y := ox_ev m_Mod_capture (ox_zz ox_ms (n + 7)) 99 0 tl [.inr (.inr (10, 0, 0)), ox_d, .inl (v2), ox_d, .inl (v4), .inl (s0), ox_d, ox_d] [.inl (1), .inr (.inr (10, 0, 0))] σ) rfl ?_
    exact (L_Mod_capture_99 v2 v4 s0 1 σ n tl)
  · refine ox_R_to 3 (Y := if s0 = 6 then ox_ev m_Mod_capture (ox_zz ox_ms (n + 7)) 94 0 tl [.inr (.inr (10, 0, 0)), ox_d, .inl (v2), ox_d, .inl (v4), .inl (s0), ox_d, ox_d] [.inr (.inr (10, 0, 0))] σ else ox_ev m_Mod_capture (ox_zz ox_ms (n + 7)) 85 0 tl [.inr (.inr (10, 0, 0)), ox_d, .inl (v2), .inl (v3), .inl (v4), .inl (s0), ox_d, ox_d] [.inr (.inr (10, 0, 0))] σ) rfl ?_
    refine ox_R_if (fun _ => ?_) (fun _ => ?_)
    · exact (L_Mod_capture_94 v2 v4 s0 σ n tl)
    · refine ox_R_to 4 (Y := if (σ 10 0 2 0) = 60 then ox_ev m_Mod_capture (ox_zz ox_ms (n + 7)) 94 0 tl [.inr (.inr (10, 0, 0)), ox_d, .inl (v2), ox_d, .inl (v4), .inl (s0), ox_d, ox_d] [.inr (.inr (10, 0, 0))] σ else ox_ev m_Mod_capture (ox_zz ox_ms (n + 7)) 98 0 tl [.inr (.inr (10, 0, 0)), ox_d, .inl (v2), .inl (v3), .inl (v4), .inl (s0), ox_d, ox_d] [.inr (.inr (10, 0, 0))] σ) rfl ?_
      refine ox_R_if (fun _ => ?_) (fun _ => ?_)
      · exact (L_Mod_capture_94 v2 v4 s0 σ n tl)
      · refine ox_R_to 1 (Y := ox_ev m_Mod_capture (ox_zz ox_ms (n + 7)) 99 0 tl [.inr (.inr (10, 0, 0)), ox_d, .inl (v2), ox_d, .inl (v4), .inl (s0), ox_d, ox_d] [.inl (0), .inr (.inr (10, 0, 0))] σ) rfl ?_
        exact (L_Mod_capture_99 v2 v4 s0 0 σ n tl)
def J_Mod_capture_48  (v2 : Int) (v3 : Int) (s0 : Int) (σ : ox_H) : Option (Int × ox_H) := if 0 ≤ s0 then ((F_Mod_level s0 σ).bind fun r8 => (J_Mod_capture_67 v2 v3 s0 (ox_w (r8.1 + 1)) r8.2)) else (J_Mod_capture_67 v2 v3 s0 1 σ)
theorem L_Mod_capture_48  (v2 : Int) (v3 : Int) (s0 : Int) (σ : ox_H) (n tl : Nat) : ox_R (fun r => some ((fun r : Int × ox_H => ((.inl (some (.inl r.1)), r.2) : ox_O)) r)) (J_Mod_capture_48 v2 v3 s0 σ) (ox_ev m_Mod_capture (ox_zz ox_ms (n + 7)) 48 0 tl [.inr (.inr (10, 0, 0)), ox_d, .inl (v2), .inl (v3), ox_d, ox_d, ox_d, ox_d] [.inl (s0)] σ) := by
  unfold J_Mod_capture_48
  refine ox_R_to 3 (Y := if 0 ≤ s0 then ox_ev m_Mod_capture (ox_zz ox_ms (n + 7)) 59 0 tl [.inr (.inr (10, 0, 0)), ox_d, .inl (v2), .inl (v3), .inl (s0), ox_d, ox_d, ox_d] [] σ else ox_ev m_Mod_capture (ox_zz ox_ms (n + 7)) 55 0 tl [.inr (.inr (10, 0, 0)), ox_d, .inl (v2), .inl (v3), .inl (s0), ox_d, ox_d, ox_d] [] σ) rfl ?_
  refine ox_R_if (fun _ => ?_) (fun _ => ?_)
  · refine ox_R_to 3 (Y := ox_back m_Mod_capture 62 1 [] ((ox_zz ox_ms (n + 7)) 74 tl [.inr (.inr (10, 0, 0)), .inl (s0)] σ) (fun pc9 x9 st9 σ9 => ox_ev m_Mod_capture (ox_zz ox_ms (n + 7)) pc9 0 tl (ox_kl (m_Mod_capture.2.2.1 pc9) (ox_xl x9 [.inr (.inr (10, 0, 0)), ox_d, .inl (v2), .inl (v3), .inl (s0), ox_d, ox_d, ox_d])) st9 σ9)) rfl ?_
    refine ox_R_call (fc := (fun r : Int × ox_H => ((.inl (some (.inl r.1)), r.2) : ox_O))) (L_Mod_level s0 σ (n + 2) tl) (fun r8 => ?_)
    refine ox_R_of (Y := ox_ev m_Mod_capture (ox_zz ox_ms (n + 7)) 65 0 tl [.inr (.inr (10, 0, 0)), ox_d, .inl (v2), .inl (v3), .inl (s0), ox_d, ox_d, ox_d] [.inl (r8.1)] r8.2) rfl ?_
    refine ox_R_to 2 (Y := ox_ev m_Mod_capture (ox_zz ox_ms (n + 7)) 67 0 tl [.inr (.inr (10, 0, 0)), ox_d, .inl (v2), .inl (v3), .inl (s0), ox_d, ox_d, ox_d] [.inl (ox_w (r8.1 + 1))] r8.2) rfl ?_
    exact (L_Mod_capture_67 v2 v3 s0 (ox_w (r8.1 + 1)) r8.2 n tl)
  · refine ox_R_to 2 (Y := ox_ev m_Mod_capture (ox_zz ox_ms (n + 7)) 67 0 tl [.inr (.inr (10, 0, 0)), ox_d, .inl (v2), .inl (v3), .inl (s0), ox_d, ox_d, ox_d] [.inl (1)] σ) rfl ?_
    exact (L_Mod_capture_67 v2 v3 s0 1 σ n tl)
def J_Mod_capture_27  (v1 : Int) (v2 : Int) (s0 : Int) (σ : ox_H) : Option (Int × ox_H) := (F_Mod_find σ).bind fun r9 => (if s0 = 0 then (J_Mod_capture_48 v2 s0 (-1) r9) else ((F_Mod_titled (ox_w (97 + v1)) r9).bind fun r10 => (J_Mod_capture_48 v2 s0 r10.1 r10.2)))
theorem L_Mod_capture_27  (v1 : Int) (v2 : Int) (s0 : Int) (σ : ox_H) (n tl : Nat) : ox_R (fun r => some ((fun r : Int × ox_H => ((.inl (some (.inl r.1)), r.2) : ox_O)) r)) (J_Mod_capture_27 v1 v2 s0 σ) (ox_ev m_Mod_capture (ox_zz ox_ms (n + 7)) 27 0 tl [.inr (.inr (10, 0, 0)), .inl (v1), .inl (v2), ox_d, ox_d, ox_d, ox_d, ox_d] [.inl (s0)] σ) := by
  unfold J_Mod_capture_27
  refine ox_R_to 3 (Y := ox_back m_Mod_capture 29 0 [] ((ox_zz ox_ms (n + 7)) 72 tl [.inr (.inr (10, 0, 0))] σ) (fun pc9 x9 st9 σ9 => ox_ev m_Mod_capture (ox_zz ox_ms (n + 7)) pc9 0 tl (ox_kl (m_Mod_capture.2.2.1 pc9) (ox_xl x9 [.inr (.inr (10, 0, 0)), .inl (v1), .inl (v2), .inl (s0), ox_d, ox_d, ox_d, ox_d])) st9 σ9)) rfl ?_
  refine ox_R_call (fc := (fun r : ox_H => ((.inl none, r) : ox_O))) (L_Mod_find σ (n + 2) tl) (fun r9 => ?_)
  refine ox_R_of (Y := ox_ev m_Mod_capture (ox_zz ox_ms (n + 7)) 32 0 tl [.inr (.inr (10, 0, 0)), .inl (v1), .inl (v2), .inl (s0), ox_d, ox_d, ox_d, ox_d] [] r9) rfl ?_
  refine ox_R_to 2 (Y := if s0 = 0 then ox_ev m_Mod_capture (ox_zz ox_ms (n + 7)) 47 0 tl [.inr (.inr (10, 0, 0)), .inl (v1), .inl (v2), .inl (s0), ox_d, ox_d, ox_d, ox_d] [] r9 else ox_ev m_Mod_capture (ox_zz ox_ms (n + 7)) 36 0 tl [.inr (.inr (10, 0, 0)), .inl (v1), .inl (v2), .inl (s0), ox_d, ox_d, ox_d, ox_d] [] r9) rfl ?_
  refine ox_R_if (fun _ => ?_) (fun _ => ?_)
  · refine ox_R_to 1 (Y := ox_ev m_Mod_capture (ox_zz ox_ms (n + 7)) 48 0 tl [.inr (.inr (10, 0, 0)), ox_d, .inl (v2), .inl (s0), ox_d, ox_d, ox_d, ox_d] [.inl ((-1))] r9) rfl ?_
    exact (L_Mod_capture_48 v2 s0 (-1) r9 n tl)
  · refine ox_R_to 5 (Y := ox_back m_Mod_capture 41 1 [] ((ox_zz ox_ms (n + 7)) 84 tl [.inr (.inr (10, 0, 0)), .inl (ox_w (97 + v1))] r9) (fun pc9 x9 st9 σ9 => ox_ev m_Mod_capture (ox_zz ox_ms (n + 7)) pc9 0 tl (ox_kl (m_Mod_capture.2.2.1 pc9) (ox_xl x9 [.inr (.inr (10, 0, 0)), .inl (v1), .inl (v2), .inl (s0), ox_d, ox_d, ox_d, ox_d])) st9 σ9)) rfl ?_
    refine ox_R_call (fc := (fun r : Int × ox_H => ((.inl (some (.inl r.1)), r.2) : ox_O))) (L_Mod_titled (ox_w (97 + v1)) r9 (n + 1) tl) (fun r10 => ?_)
    refine ox_R_of (Y := ox_ev m_Mod_capture (ox_zz ox_ms (n + 7)) 44 0 tl [.inr (.inr (10, 0, 0)), .inl (v1), .inl (v2), .inl (s0), ox_d, ox_d, ox_d, ox_d] [.inl (r10.1)] r10.2) rfl ?_
    refine ox_R_to 1 (Y := ox_ev m_Mod_capture (ox_zz ox_ms (n + 7)) 48 0 tl [.inr (.inr (10, 0, 0)), ox_d, .inl (v2), .inl (s0), ox_d, ox_d, ox_d, ox_d] [.inl (r10.1)] r10.2) rfl ?_
    exact (L_Mod_capture_48 v2 s0 r10.1 r10.2 n tl)
def J_Mod_capture_26  (v1 : Int) (v2 : Int) (σ : ox_H) : Option (Int × ox_H) := (J_Mod_capture_27 v1 v2 0 σ)
theorem L_Mod_capture_26  (v1 : Int) (v2 : Int) (σ : ox_H) (n tl : Nat) : ox_R (fun r => some ((fun r : Int × ox_H => ((.inl (some (.inl r.1)), r.2) : ox_O)) r)) (J_Mod_capture_26 v1 v2 σ) (ox_ev m_Mod_capture (ox_zz ox_ms (n + 7)) 26 0 tl [.inr (.inr (10, 0, 0)), .inl (v1), .inl (v2), ox_d, ox_d, ox_d, ox_d, ox_d] [] σ) := by
  unfold J_Mod_capture_26
  refine ox_R_to 1 (Y := ox_ev m_Mod_capture (ox_zz ox_ms (n + 7)) 27 0 tl [.inr (.inr (10, 0, 0)), .inl (v1), .inl (v2), ox_d, ox_d, ox_d, ox_d, ox_d] [.inl (0)] σ) rfl ?_
  exact (L_Mod_capture_27 v1 v2 0 σ n tl)
def F_Mod_capture  (a1 : Int) (a2 : Int) (σ : ox_H) : Option (Int × ox_H) := (F_Mod_in a1 0 25 σ).bind fun r11 => (if r11 = 0 then (J_Mod_capture_26 a1 a2 σ) else ((F_Mod_in a2 0 25 σ).bind fun r12 => (if r12 = 0 then (J_Mod_capture_26 a1 a2 σ) else (J_Mod_capture_27 a1 a2 1 σ))))
theorem L_Mod_capture  (a1 : Int) (a2 : Int) (σ : ox_H) (n tl : Nat) : ox_R (fun r => some ((fun r : Int × ox_H => ((.inl (some (.inl r.1)), r.2) : ox_O)) r)) (F_Mod_capture a1 a2 σ) (ox_zz ox_ms (n + 8) 102 tl [.inr (.inr (10, 0, 0)), .inl (a1), .inl (a2)] σ) := by
  unfold F_Mod_capture
  refine ox_R_of (Y := ox_ev m_Mod_capture (ox_zz ox_ms (n + 7)) 0 0 tl [.inr (.inr (10, 0, 0)), .inl (a1), .inl (a2), ox_d, ox_d, ox_d, ox_d, ox_d] [] σ) rfl ?_
  refine ox_R_to 5 (Y := ox_back m_Mod_capture 5 1 [] ((ox_zz ox_ms (n + 7)) 44 tl [.inr (.inr (10, 0, 0)), .inl (a1), .inl (0), .inl (25)] σ) (fun pc9 x9 st9 σ9 => ox_ev m_Mod_capture (ox_zz ox_ms (n + 7)) pc9 0 tl (ox_kl (m_Mod_capture.2.2.1 pc9) (ox_xl x9 [.inr (.inr (10, 0, 0)), .inl (a1), .inl (a2), ox_d, ox_d, ox_d, ox_d, ox_d])) st9 σ9)) rfl ?_
  refine ox_R_call (fc := (fun r : Int => ((.inl (some (.inl r)), σ) : ox_O))) (L_Mod_in a1 0 25 σ (n + 6) tl) (fun r11 => ?_)
  refine ox_R_of (Y := ox_ev m_Mod_capture (ox_zz ox_ms (n + 7)) 8 0 tl [.inr (.inr (10, 0, 0)), .inl (a1), .inl (a2), ox_d, ox_d, ox_d, ox_d, ox_d] [.inl (r11)] σ) rfl ?_
  refine ox_R_to 1 (Y := if r11 = 0 then ox_ev m_Mod_capture (ox_zz ox_ms (n + 7)) 26 0 tl [.inr (.inr (10, 0, 0)), .inl (a1), .inl (a2), ox_d, ox_d, ox_d, ox_d, ox_d] [] σ else ox_ev m_Mod_capture (ox_zz ox_ms (n + 7)) 11 0 tl [.inr (.inr (10, 0, 0)), .inl (a1), .inl (a2), ox_d, ox_d, ox_d, ox_d, ox_d] [] σ) rfl ?_
  refine ox_R_if (fun _ => ?_) (fun _ => ?_)
  · exact (L_Mod_capture_26 a1 a2 σ n tl)
  · refine ox_R_to 5 (Y := ox_back m_Mod_capture 16 1 [] ((ox_zz ox_ms (n + 7)) 44 tl [.inr (.inr (10, 0, 0)), .inl (a2), .inl (0), .inl (25)] σ) (fun pc9 x9 st9 σ9 => ox_ev m_Mod_capture (ox_zz ox_ms (n + 7)) pc9 0 tl (ox_kl (m_Mod_capture.2.2.1 pc9) (ox_xl x9 [.inr (.inr (10, 0, 0)), .inl (a1), .inl (a2), ox_d, ox_d, ox_d, ox_d, ox_d])) st9 σ9)) rfl ?_
    refine ox_R_call (fc := (fun r : Int => ((.inl (some (.inl r)), σ) : ox_O))) (L_Mod_in a2 0 25 σ (n + 6) tl) (fun r12 => ?_)
    refine ox_R_of (Y := ox_ev m_Mod_capture (ox_zz ox_ms (n + 7)) 19 0 tl [.inr (.inr (10, 0, 0)), .inl (a1), .inl (a2), ox_d, ox_d, ox_d, ox_d, ox_d] [.inl (r12)] σ) rfl ?_
    refine ox_R_to 1 (Y := if r12 = 0 then ox_ev m_Mod_capture (ox_zz ox_ms (n + 7)) 26 0 tl [.inr (.inr (10, 0, 0)), .inl (a1), .inl (a2), ox_d, ox_d, ox_d, ox_d, ox_d] [] σ else ox_ev m_Mod_capture (ox_zz ox_ms (n + 7)) 22 0 tl [.inr (.inr (10, 0, 0)), .inl (a1), .inl (a2), ox_d, ox_d, ox_d, ox_d, ox_d] [] σ) rfl ?_
    refine ox_R_if (fun _ => ?_) (fun _ => ?_)
    · exact (L_Mod_capture_26 a1 a2 σ n tl)
    · refine ox_R_to 2 (Y := ox_ev m_Mod_capture (ox_zz ox_ms (n + 7)) 27 0 tl [.inr (.inr (10, 0, 0)), .inl (a1), .inl (a2), ox_d, ox_d, ox_d, ox_d, ox_d] [.inl (1)] σ) rfl ?_
      exact (L_Mod_capture_27 a1 a2 1 σ n tl)
def J_Mod_archive_185  (v3 : Int) (v4 : Int) (σ : ox_H) : Option (Int × ox_H) := (F_Mod_close v3 v4 σ).bind fun r1 => (some (ox_w ((r1 10 0 10 0) + 1), (ox_up r1 10 0 10 0 (ox_w ((r1 10 0 10 0) + 1)))))
theorem L_Mod_archive_185  (v3 : Int) (v4 : Int) (σ : ox_H) (n tl : Nat) : ox_R (fun r => some ((fun r : Int × ox_H => ((.inl (some (.inl r.1)), r.2) : ox_O)) r)) (J_Mod_archive_185 v3 v4 σ) (ox_ev m_Mod_archive (ox_zz ox_ms (n + 7)) 185 0 tl [.inr (.inr (10, 0, 0)), ox_d, ox_d, .inl (v3), .inl (v4), ox_d, ox_d] [] σ) := by
  unfold J_Mod_archive_185
  refine ox_R_to 4 (Y := ox_back m_Mod_archive 189 0 [] ((ox_zz ox_ms (n + 7)) 65 tl [.inr (.inr (10, 0, 0)), .inl (v3), .inl (v4)] σ) (fun pc9 x9 st9 σ9 => ox_ev m_Mod_archive (ox_zz ox_ms (n + 7)) pc9 0 tl (ox_kl (m_Mod_archive.2.2.1 pc9) (ox_xl x9 [.inr (.inr (10, 0, 0)), ox_d, ox_d, .inl (v3), .inl (v4), ox_d, ox_d])) st9 σ9)) rfl ?_
  refine ox_R_call (fc := (fun r : ox_H => ((.inl none, r) : ox_O))) (L_Mod_close v3 v4 σ (n + 6) tl) (fun r1 => ?_)
  refine ox_R_of (Y := ox_ev m_Mod_archive (ox_zz ox_ms (n + 7)) 192 0 tl [.inr (.inr (10, 0, 0)), ox_d, ox_d, .inl (v3), .inl (v4), ox_d, ox_d] [] r1) rfl ?_
  refine ox_R_to 9 (Y := some (.inl (some (.inl (ox_w ((r1 10 0 10 0) + 1)))), (ox_up r1 10 0 10 0 (ox_w ((r1 10 0 10 0) + 1))))) rfl ?_
  exact ox_R_ret rfl
def J_Mod_archive_179  (v3 : Int) (v4 : Int) (v5 : Int) (σ : ox_H) : Option (((Int × ox_H) ⊕ Int × ox_H)) := some (.inl (ox_w (v5 + 1), σ))
theorem L_Mod_archive_179  (v3 : Int) (v4 : Int) (v5 : Int) (σ : ox_H) (n tl : Nat) : ox_R (Sum.elim (fun (s : Int × ox_H) => match s with | (v5, σ) => ox_ev m_Mod_archive (ox_zz ox_ms (n + 7)) 99 0 tl [.inr (.inr (10, 0, 0)), ox_d, ox_d, .inl (v3), .inl (v4), .inl (v5), ox_d] [] σ) (fun r => some ((fun r : Int × ox_H => ((.inl (some (.inl r.1)), r.2) : ox_O)) r))) (J_Mod_archive_179 v3 v4 v5 σ) (ox_ev m_Mod_archive (ox_zz ox_ms (n + 7)) 179 0 tl [.inr (.inr (10, 0, 0)), ox_d, ox_d, .inl (v3), .inl (v4), .inl (v5), ox_d] [] σ) := by
  unfold J_Mod_archive_179
  refine ox_R_to 2 (Y := ox_ev m_Mod_archive (ox_zz ox_ms (n + 7)) 99 0 tl [.inr (.inr (10, 0, 0)), ox_d, ox_d, .inl (v3), .inl (v4), .inl (ox_w (v5 + 1)), ox_d] [] σ) rfl ?_
  exact ox_R_ret rfl
def B_Mod_archive_131  (v3 : Int) (v4 : Int) (v5 : Int) : (Int × ox_H) → Option (((Int × ox_H) ⊕ ((Int × ox_H) ⊕ Int × ox_H))) := fun (v6, σ) => if 24 ≤ v6 then ((J_Mod_archive_179 v3 v4 v5 σ).map .inr) else (if 0 ≤ (ox_w ((ox_w (24 * v5)) + v6)) ∧ (ox_w ((ox_w (24 * v5)) + v6)).toNat < 1440 then (if 0 ≤ (ox_w ((ox_w ((ox_w (1440 * (σ 10 0 10 0))) + (ox_w (24 * v5)))) + v6)) ∧ (ox_w ((ox_w ((ox_w (1440 * (σ 10 0 10 0))) + (ox_w (24 * v5)))) + v6)).toNat < 7200 then (some (.inl (ox_w (v6 + 1), (ox_up σ 10 0 6 ((ox_w ((ox_w ((ox_w (1440 * (σ 10 0 10 0))) + (ox_w (24 * v5)))) + v6)).toNat) (σ 10 0 3 ((ox_w ((ox_w (24 * v5)) + v6)).toNat)))))) else none) else none)
def J_Mod_archive_131  (v3 : Int) (v4 : Int) (v5 : Int) (v6 : Int) (σ : ox_H) : Option (((Int × ox_H) ⊕ Int × ox_H)) := ox_lp (B_Mod_archive_131 v3 v4 v5) ox_fu (v6, σ)
theorem L_Mod_archive_131  (v3 : Int) (v4 : Int) (v5 : Int) (v6 : Int) (σ : ox_H) (n tl : Nat) : ox_R (Sum.elim (fun (s : Int × ox_H) => match s with | (v5, σ) => ox_ev m_Mod_archive (ox_zz ox_ms (n + 7)) 99 0 tl [.inr (.inr (10, 0, 0)), ox_d, ox_d, .inl (v3), .inl (v4), .inl (v5), ox_d] [] σ) (fun r => some ((fun r : Int × ox_H => ((.inl (some (.inl r.1)), r.2) : ox_O)) r))) (J_Mod_archive_131 v3 v4 v5 v6 σ) (ox_ev m_Mod_archive (ox_zz ox_ms (n + 7)) 131 0 tl [.inr (.inr (10, 0, 0)), ox_d, ox_d, .inl (v3), .inl (v4), .inl (v5), .inl (v6)] [] σ) := by
  unfold J_Mod_archive_131
  refine ox_R_lp (ψ := (fun (s : Int × ox_H) => match s with | (v6, σ) => ox_ev m_Mod_archive (ox_zz ox_ms (n + 7)) 131 0 tl [.inr (.inr (10, 0, 0)), ox_d, ox_d, .inl (v3), .inl (v4), .inl (v5), .inl (v6)] [] σ)) ?_ ox_fu (v6, σ)
  intro s
  obtain ⟨v6, σ⟩ := s
  unfold B_Mod_archive_131
  refine ox_R_to 3 (Y := if 24 ≤ v6 then ox_ev m_Mod_archive (ox_zz ox_ms (n + 7)) 179 0 tl [.inr (.inr (10, 0, 0)), ox_d, ox_d, .inl (v3), .inl (v4), .inl (v5), ox_d] [] σ else ox_ev m_Mod_archive (ox_zz ox_ms (n + 7)) 138 0 tl [.inr (.inr (10, 0, 0)), ox_d, ox_d, .inl (v3), .inl (v4), .inl (v5), .inl (v6)] [] σ) rfl ?_
  refine ox_R_if (fun _ => ?_) (fun _ => ?_)
  · exact ox_R_map ((L_Mod_archive_179 v3 v4 v5 σ n tl))
  · refine ox_R_to 20 (Y := if 0 ≤ (ox_w ((ox_w (24 * v5)) + v6)) ∧ (ox_w ((ox_w (24 * v5)) + v6)).toNat < 1440 then ox_ev m_Mod_archive (ox_zz ox_ms (n + 7)) 172 0 tl [.inr (.inr (10, 0, 0)), ox_d, ox_d, .inl (v3), .inl (v4), .inl (v5), .inl (v6)] [.inl (σ 10 0 3 ((ox_w ((ox_w (24 * v5)) + v6)).toNat)), .inl (ox_w ((ox_w ((ox_w (1440 * (σ 10 0 10 0))) + (ox_w (24 * v5)))) + v6)), .inr (.inr (110, 0, 6))] σ else none) rfl ?_
    refine ox_R_if (fun _ => ?_) (fun _ => ox_R_none)
    refine ox_R_to 1 (Y := if 0 ≤ (ox_w ((ox_w ((ox_w (1440 * (σ 10 0 10 0))) + (ox_w (24 * v5)))) + v6)) ∧ (ox_w ((ox_w ((ox_w (1440 * (σ 10 0 10 0))) + (ox_w (24 * v5)))) + v6)).toNat < 7200 then ox_ev m_Mod_archive (ox_zz ox_ms (n + 7)) 173 0 tl [.inr (.inr (10, 0, 0)), ox_d, ox_d, .inl (v3), .inl (v4), .inl (v5), .inl (v6)] [] (ox_up σ 10 0 6 ((ox_w ((ox_w ((ox_w (1440 * (σ 10 0 10 0))) + (ox_w (24 * v5)))) + v6)).toNat) (σ 10 0 3 ((ox_w ((ox_w (24 * v5)) + v6)).toNat))) else none) rfl ?_
    refine ox_R_if (fun _ => ?_) (fun _ => ox_R_none)
    refine ox_R_to 2 (Y := ox_ev m_Mod_archive (ox_zz ox_ms (n + 7)) 131 0 tl [.inr (.inr (10, 0, 0)), ox_d, ox_d, .inl (v3), .inl (v4), .inl (v5), .inl (ox_w (v6 + 1))] [] (ox_up σ 10 0 6 ((ox_w ((ox_w ((ox_w (1440 * (σ 10 0 10 0))) + (ox_w (24 * v5)))) + v6)).toNat) (σ 10 0 3 ((ox_w ((ox_w (24 * v5)) + v6)).toNat)))) rfl ?_
    exact ox_R_ret rfl
def B_Mod_archive_99  (v3 : Int) (v4 : Int) : (Int × ox_H) → Option (((Int × ox_H) ⊕ Int × ox_H)) := fun (v5, σ) => if v4 ≤ v5 then ((J_Mod_archive_185 v3 v4 σ).map .inr) else (if 0 ≤ v5 ∧ v5.toNat < 60 then (if 0 ≤ (ox_w ((ox_w (60 * (σ 10 0 10 0))) + v5)) ∧ (ox_w ((ox_w (60 * (σ 10 0 10 0))) + v5)).toNat < 300 then (J_Mod_archive_131 v3 v4 v5 0 (ox_up σ 10 0 7 ((ox_w ((ox_w (60 * (σ 10 0 10 0))) + v5)).toNat) (σ 10 0 4 v5.toNat))) else none) else none)
def J_Mod_archive_99  (v3 : Int) (v4 : Int) (v5 : Int) (σ : ox_H) : Option (Int × ox_H) := ox_lp (B_Mod_archive_99 v3 v4) ox_fu (v5, σ)
theorem L_Mod_archive_99  (v3 : Int) (v4 : Int) (v5 : Int) (σ : ox_H) (n tl : Nat) : ox_R (fun r => some ((fun r : Int × ox_H => ((.inl (some (.inl r.1)), r.2) : ox_O)) r)) (J_Mod_archive_99 v3 v4 v5 σ) (ox_ev m_Mod_archive (ox_zz ox_ms (n + 7)) 99 0 tl [.inr (.inr (10, 0, 0)), ox_d, ox_d, .inl (v3), .inl (v4), .inl (v5), ox_d] [] σ) := by
  unfold J_Mod_archive_99
  refine ox_R_lp (ψ := (fun (s : Int × ox_H) => match s with | (v5, σ) => ox_ev m_Mod_archive (ox_zz ox_ms (n + 7)) 99 0 tl [.inr (.inr (10, 0, 0)), ox_d, ox_d, .inl (v3), .inl (v4), .inl (v5), ox_d] [] σ)) ?_ ox_fu (v5, σ)
  intro s
  obtain ⟨v5, σ⟩ := s
  unfold B_Mod_archive_99
  refine ox_R_to 3 (Y := if v4 ≤ v5 then ox_ev m_Mod_archive (ox_zz ox_ms (n + 7)) 185 0 tl [.inr (.inr (10, 0, 0)), ox_d, ox_d, .inl (v3), .inl (v4), ox_d, ox_d] [] σ else ox_ev m_Mod_archive (ox_zz ox_ms (n + 7)) 106 0 tl [.inr (.inr (10, 0, 0)), ox_d, ox_d, .inl (v3), .inl (v4), .inl (v5), ox_d] [] σ) rfl ?_
  refine ox_R_if (fun _ => ?_) (fun _ => ?_)
  · exact ox_R_map ((L_Mod_archive_185 v3 v4 σ n tl))
  · refine ox_R_to 12 (Y := if 0 ≤ v5 ∧ v5.toNat < 60 then ox_ev m_Mod_archive (ox_zz ox_ms (n + 7)) 127 0 tl [.inr (.inr (10, 0, 0)), ox_d, ox_d, .inl (v3), .inl (v4), .inl (v5), ox_d] [.inl (σ 10 0 4 v5.toNat), .inl (ox_w ((ox_w (60 * (σ 10 0 10 0))) + v5)), .inr (.inr (110, 0, 7))] σ else none) rfl ?_
    refine ox_R_if (fun _ => ?_) (fun _ => ox_R_none)
    refine ox_R_to 1 (Y := if 0 ≤ (ox_w ((ox_w (60 * (σ 10 0 10 0))) + v5)) ∧ (ox_w ((ox_w (60 * (σ 10 0 10 0))) + v5)).toNat < 300 then ox_ev m_Mod_archive (ox_zz ox_ms (n + 7)) 128 0 tl [.inr (.inr (10, 0, 0)), ox_d, ox_d, .inl (v3), .inl (v4), .inl (v5), ox_d] [] (ox_up σ 10 0 7 ((ox_w ((ox_w (60 * (σ 10 0 10 0))) + v5)).toNat) (σ 10 0 4 v5.toNat)) else none) rfl ?_
    refine ox_R_if (fun _ => ?_) (fun _ => ox_R_none)
    refine ox_R_to 2 (Y := ox_ev m_Mod_archive (ox_zz ox_ms (n + 7)) 131 0 tl [.inr (.inr (10, 0, 0)), ox_d, ox_d, .inl (v3), .inl (v4), .inl (v5), .inl (0)] [] (ox_up σ 10 0 7 ((ox_w ((ox_w (60 * (σ 10 0 10 0))) + v5)).toNat) (σ 10 0 4 v5.toNat))) rfl ?_
    exact (L_Mod_archive_131 v3 v4 v5 0 (ox_up σ 10 0 7 ((ox_w ((ox_w (60 * (σ 10 0 10 0))) + v5)).toNat) (σ 10 0 4 v5.toNat)) n tl)
def J_Mod_archive_61  (v1 : Int) (s0 : Int) (s1 : Int) (σ : ox_H) : Option (Int × ox_H) := if 0 ≤ s1 ∧ s1.toNat < 5 then (if 0 ≤ v1 ∧ v1.toNat < 61 then ((F_Mod_end v1 (ox_up σ 10 0 9 s1.toNat s0)).bind fun r2 => ((F_Mod_lift (σ 10 0 21 v1.toNat) (ox_w (r2.1 - (σ 10 0 21 v1.toNat))) r2.2).bind fun r3 => (if 0 ≤ (r3 10 0 10 0) ∧ (r3 10 0 10 0).toNat < 5 then (J_Mod_archive_99 (σ 10 0 21 v1.toNat) (ox_w (r2.1 - (σ 10 0 21 v1.toNat))) 0 (ox_up r3 10 0 8 ((r3 10 0 10 0).toNat) (ox_w (r2.1 - (σ 10 0 21 v1.toNat))))) else none))) else none) else none
theorem L_Mod_archive_61  (v1 : Int) (s0 : Int) (s1 : Int) (σ : ox_H) (n tl : Nat) : ox_R (fun r => some ((fun r : Int × ox_H => ((.inl (some (.inl r.1)), r.2) : ox_O)) r)) (J_Mod_archive_61 v1 s0 s1 σ) (ox_ev m_Mod_archive (ox_zz ox_ms (n + 7)) 61 0 tl [.inr (.inr (10, 0, 0)), .inl (v1), ox_d, ox_d, ox_d, ox_d, ox_d] [.inl (s0), .inl (s1), .inr (.inr (110, 0, 9))] σ) := by
  unfold J_Mod_archive_61
  refine ox_R_to 1 (Y := if 0 ≤ s1 ∧ s1.toNat < 5 then ox_ev m_Mod_archive (ox_zz ox_ms (n + 7)) 62 0 tl [.inr (.inr (10, 0, 0)), .inl (v1), ox_d, ox_d, ox_d, ox_d, ox_d] [] (ox_up σ 10 0 9 s1.toNat s0) else none) rfl ?_
  refine ox_R_if (fun _ => ?_) (fun _ => ox_R_none)
  refine ox_R_to 4 (Y := if 0 ≤ v1 ∧ v1.toNat < 61 then ox_ev m_Mod_archive (ox_zz ox_ms (n + 7)) 68 0 tl [.inr (.inr (10, 0, 0)), .inl (v1), ox_d, ox_d, ox_d, ox_d, ox_d] [.inl (σ 10 0 21 v1.toNat)] (ox_up σ 10 0 9 s1.toNat s0) else none) rfl ?_
  refine ox_R_if (fun _ => ?_) (fun _ => ox_R_none)
  refine ox_R_to 4 (Y := ox_back m_Mod_archive 71 1 [] ((ox_zz ox_ms (n + 7)) 78 tl [.inr (.inr (10, 0, 0)), .inl (v1)] (ox_up σ 10 0 9 s1.toNat s0)) (fun pc9 x9 st9 σ9 => ox_ev m_Mod_archive (ox_zz ox_ms (n + 7)) pc9 0 tl (ox_kl (m_Mod_archive.2.2.1 pc9) (ox_xl x9 [.inr (.inr (10, 0, 0)), .inl (v1), ox_d, .inl (σ 10 0 21 v1.toNat), ox_d, ox_d, ox_d])) st9 σ9)) rfl ?_
  refine ox_R_call (fc := (fun r : Int × ox_H => ((.inl (some (.inl r.1)), r.2) : ox_O))) (L_Mod_end v1 (ox_up σ 10 0 9 s1.toNat s0) (n + 0) tl) (fun r2 => ?_)
  refine ox_R_of (Y := ox_ev m_Mod_archive (ox_zz ox_ms (n + 7)) 74 0 tl [.inr (.inr (10, 0, 0)), .inl (v1), ox_d, .inl (σ 10 0 21 v1.toNat), ox_d, ox_d, ox_d] [.inl (r2.1)] r2.2) rfl ?_
  refine ox_R_to 7 (Y := ox_back m_Mod_archive 82 0 [] ((ox_zz ox_ms (n + 7)) 91 tl [.inr (.inr (10, 0, 0)), .inl (σ 10 0 21 v1.toNat), .inl (ox_w (r2.1 - (σ 10 0 21 v1.toNat)))] r2.2) (fun pc9 x9 st9 σ9 => ox_ev m_Mod_archive (ox_zz ox_ms (n + 7)) pc9 0 tl (ox_kl (m_Mod_archive.2.2.1 pc9) (ox_xl x9 [.inr (.inr (10, 0, 0)), .inl (v1), ox_d, .inl (σ 10 0 21 v1.toNat), .inl (ox_w (r2.1 - (σ 10 0 21 v1.toNat))), ox_d, ox_d])) st9 σ9)) rfl ?_
  refine ox_R_call (fc := (fun r : ox_H => ((.inl none, r) : ox_O))) (L_Mod_lift (σ 10 0 21 v1.toNat) (ox_w (r2.1 - (σ 10 0 21 v1.toNat))) r2.2 (n + 6) tl) (fun r3 => ?_)
  refine ox_R_of (Y := ox_ev m_Mod_archive (ox_zz ox_ms (n + 7)) 85 0 tl [.inr (.inr (10, 0, 0)), .inl (v1), ox_d, .inl (σ 10 0 21 v1.toNat), .inl (ox_w (r2.1 - (σ 10 0 21 v1.toNat))), ox_d, ox_d] [] r3) rfl ?_
  refine ox_R_to 6 (Y := if 0 ≤ (r3 10 0 10 0) ∧ (r3 10 0 10 0).toNat < 5 then ox_ev m_Mod_archive (ox_zz ox_ms (n + 7)) 96 0 tl [.inr (.inr (10, 0, 0)), .inl (v1), ox_d, .inl (σ 10 0 21 v1.toNat), .inl (ox_w (r2.1 - (σ 10 0 21 v1.toNat))), ox_d, ox_d] [] (ox_up r3 10 0 8 ((r3 10 0 10 0).toNat) (ox_w (r2.1 - (σ 10 0 21 v1.toNat)))) else none) rfl ?_
  refine ox_R_if (fun _ => ?_) (fun _ => ox_R_none)
  refine ox_R_to 2 (Y := ox_ev m_Mod_archive (ox_zz ox_ms (n + 7)) 99 0 tl [.inr (.inr (10, 0, 0)), ox_d, ox_d, .inl (σ 10 0 21 v1.toNat), .inl (ox_w (r2.1 - (σ 10 0 21 v1.toNat))), .inl (0), ox_d] [] (ox_up r3 10 0 8 ((r3 10 0 10 0).toNat) (ox_w (r2.1 - (σ 10 0 21 v1.toNat))))) rfl ?_
  exact (L_Mod_archive_99 (σ 10 0 21 v1.toNat) (ox_w (r2.1 - (σ 10 0 21 v1.toNat))) 0 (ox_up r3 10 0 8 ((r3 10 0 10 0).toNat) (ox_w (r2.1 - (σ 10 0 21 v1.toNat)))) n tl)
def J_Mod_archive_26  (v1 : Int) (s0 : Int) (σ : ox_H) : Option (Int × ox_H) := (F_Mod_holds s0 σ).bind fun r4 => (if r4.1 = 0 then ((F_Mod_parent v1 r4.2).bind fun r5 => (if 0 ≤ r5.1 then ((F_Mod_initial r5.1 r5.2).bind fun r6 => (J_Mod_archive_61 v1 r6.1 (r5.2 10 0 10 0) r6.2)) else (J_Mod_archive_61 v1 (-1) (r5.2 10 0 10 0) r5.2))) else (some ((-1), r4.2)))
theorem L_Mod_archive_26  (v1 : Int) (s0 : Int) (σ : ox_H) (n tl : Nat) : ox_R (fun r => some ((fun r : Int × ox_H => ((.inl (some (.inl r.1)), r.2) : ox_O)) r)) (J_Mod_archive_26 v1 s0 σ) (ox_ev m_Mod_archive (ox_zz ox_ms (n + 7)) 26 0 tl [.inr (.inr (10, 0, 0)), .inl (v1), ox_d, ox_d, ox_d, ox_d, ox_d] [.inl (s0), .inr (.inr (10, 0, 0))] σ) := by
  unfold J_Mod_archive_26
  refine ox_R_to 1 (Y := ox_back m_Mod_archive 26 1 [] ((ox_zz ox_ms (n + 7)) 43 tl [.inr (.inr (10, 0, 0)), .inl (s0)] σ) (fun pc9 x9 st9 σ9 => ox_ev m_Mod_archive (ox_zz ox_ms (n + 7)) pc9 0 tl (ox_kl (m_Mod_archive.2.2.1 pc9) (ox_xl x9 [.inr (.inr (10, 0, 0)), .inl (v1), ox_d, ox_d, ox_d, ox_d, ox_d])) st9 σ9)) rfl ?_
  refine ox_R_call (fc := (fun r : Int × ox_H => ((.inl (some (.inl r.1)), r.2) : ox_O))) (L_Mod_holds s0 σ (n + 6) tl) (fun r4 => ?_)
  refine ox_R_of (Y := ox_ev m_Mod_archive (ox_zz ox_ms (n + 7)) 29 0 tl [.inr (.inr (10, 0, 0)), .inl (v1), ox_d, ox_d, ox_d, ox_d, ox_d] [.inl (r4.1)] r4.2) rfl ?_
  refine ox_R_to 1 (Y := if r4.1 = 0 then ox_ev m_Mod_archive (ox_zz ox_ms (n + 7)) 34 0 tl [.inr (.inr (10, 0, 0)), .inl (v1), ox_d, ox_d, ox_d, ox_d, ox_d] [] r4.2 else ox_ev m_Mod_archive (ox_zz ox_ms (n + 7)) 32 0 tl [.inr (.inr (10, 0, 0)), .inl (v1), ox_d, ox_d, ox_d, ox_d, ox_d] [] r4.2) rfl ?_
  refine ox_R_if (fun _ => ?_) (fun _ => ?_)
  · refine ox_R_to 3 (Y := ox_back m_Mod_archive 36 1 [] ((ox_zz ox_ms (n + 7)) 76 tl [.inr (.inr (10, 0, 0)), .inl (v1)] r4.2) (fun pc9 x9 st9 σ9 => ox_ev m_Mod_archive (ox_zz ox_ms (n + 7)) pc9 0 tl (ox_kl (m_Mod_archive.2.2.1 pc9) (ox_xl x9 [.inr (.inr (10, 0, 0)), .inl (v1), ox_d, ox_d, ox_d, ox_d, ox_d])) st9 σ9)) rfl ?_
    refine ox_R_call (fc := (fun r : Int × ox_H => ((.inl (some (.inl r.1)), r.2) : ox_O))) (L_Mod_parent v1 r4.2 (n + 1) tl) (fun r5 => ?_)
    refine ox_R_of (Y := ox_ev m_Mod_archive (ox_zz ox_ms (n + 7)) 39 0 tl [.inr (.inr (10, 0, 0)), .inl (v1), ox_d, ox_d, ox_d, ox_d, ox_d] [.inl (r5.1)] r5.2) rfl ?_
    refine ox_R_to 7 (Y := if 0 ≤ r5.1 then ox_ev m_Mod_archive (ox_zz ox_ms (n + 7)) 56 0 tl [.inr (.inr (10, 0, 0)), .inl (v1), .inl (r5.1), ox_d, ox_d, ox_d, ox_d] [.inl (r5.2 10 0 10 0), .inr (.inr (110, 0, 9))] r5.2 else ox_ev m_Mod_archive (ox_zz ox_ms (n + 7)) 52 0 tl [.inr (.inr (10, 0, 0)), .inl (v1), .inl (r5.1), ox_d, ox_d, ox_d, ox_d] [.inl (r5.2 10 0 10 0), .inr (.inr (110, 0, 9))] r5.2) rfl ?_
    refine ox_R_if (fun _ => ?_) (fun _ => ?_)
    · refine ox_R_to 3 (Y := ox_back m_Mod_archive 58 1 [.inl (r5.2 10 0 10 0), .inr (.inr (110, 0, 9))] ((ox_zz ox_ms (n + 7)) 83 tl [.inr (.inr (10, 0, 0)), .inl (r5.1)] r5.2) (fun pc9 x9 st9 σ9 => ox_ev m_Mod_archive (ox_zz ox_ms (n + 7)) pc9 0 tl (ox_kl (m_Mod_archive.2.2.1 pc9) (ox_xl x9 [.inr (.inr (10, 0, 0)), .inl (v1), .inl (r5.1), ox_d, ox_d, ox_d, ox_d])) st9 σ9)) rfl ?_
      refine ox_R_call (fc := (fun r : Int × ox_H => ((.inl (some (.inl r.1)), r.2) : ox_O))) (L_Mod_initial r5.1 r5.2 (n + 2) tl) (fun r6 => ?_)
      refine ox_R_of (Y := ox_ev m_Mod_archive (ox_zz ox_ms (n + 7)) 61 0 tl [.inr (.inr (10, 0, 0)), .inl (v1), ox_d, ox_d, ox_d, ox_d, ox_d] [.inl (r6.1), .inl (r5.2 10 0 10 0), .inr (.inr (110, 0, 9))] r6.2) rfl ?_
      exact (L_Mod_archive_61 v1 r6.1 (r5.2 10 0 10 0) r6.2 n tl)
    · refine ox_R_to 2 (Y := ox_ev m_Mod_archive (ox_zz ox_ms (n + 7)) 61 0 tl [.inr (.inr (10, 0, 0)), .inl (v1), ox_d, ox_d, ox_d, ox_d, ox_d] [.inl ((-1)), .inl (r5.2 10 0 10 0), .inr (.inr (110, 0, 9))] r5.2) rfl ?_
      exact (L_Mod_archive_61 v1 (-1) (r5.2 10 0 10 0) r5.2 n tl)
  · refine ox_R_to 2 (Y := some (.inl (some (.inl ((-1)))), r4.2)) rfl ?_
    exact ox_R_ret rfl
def F_Mod_archive  (a1 : Int) (σ : ox_H) : Option (Int × ox_H) := (F_Mod_isEntry a1 σ).bind fun r7 => (if r7.1 = 0 then (J_Mod_archive_26 a1 1 r7.2) else (if (r7.2 10 0 10 0) = 5 then (J_Mod_archive_26 a1 2 r7.2) else (J_Mod_archive_26 a1 0 r7.2)))
theorem L_Mod_archive  (a1 : Int) (σ : ox_H) (n tl : Nat) : ox_R (fun r => some ((fun r : Int × ox_H => ((.inl (some (.inl r.1)), r.2) : ox_O)) r)) (F_Mod_archive a1 σ) (ox_zz ox_ms (n + 8) 103 tl [.inr (.inr (10, 0, 0)), .inl (a1)] σ) := by
  unfold F_Mod_archive
  refine ox_R_of (Y := ox_ev m_Mod_archive (ox_zz ox_ms (n + 7)) 0 0 tl [.inr (.inr (10, 0, 0)), .inl (a1), ox_d, ox_d, ox_d, ox_d, ox_d] [] σ) rfl ?_
  refine ox_R_to 4 (Y := ox_back m_Mod_archive 3 1 [.inr (.inr (10, 0, 0))] ((ox_zz ox_ms (n + 7)) 73 tl [.inr (.inr (10, 0, 0)), .inl (a1)] σ) (fun pc9 x9 st9 σ9 => ox_ev m_Mod_archive (ox_zz ox_ms (n + 7)) pc9 0 tl (ox_kl (m_Mod_archive.2.2.1 pc9) (ox_xl x9 [.inr (.inr (10, 0, 0)), .inl (a1), ox_d, ox_d, ox_d, ox_d, ox_d])) st9 σ9)) rfl ?_
  refine ox_R_call (fc := (fun r : Int × ox_H => ((.inl (some (.inl r.1)), r.2) : ox_O))) (L_Mod_isEntry a1 σ (n + 1) tl) (fun r7 => ?_)
  refine ox_R_of (Y := ox_ev m_Mod_archive (ox_zz ox_ms (n + 7)) 6 0 tl [.inr (.inr (10, 0, 0)), .inl (a1), ox_d, ox_d, ox_d, ox_d, ox_d] [.inl (r7.1), .inr (.inr (10, 0, 0))] r7.2) rfl ?_
  refine ox_R_to 1 (Y := if r7.1 = 0 then ox_ev m_Mod_archive (ox_zz ox_ms (n + 7)) 9 0 tl [.inr (.inr (10, 0, 0)), .inl (a1), ox_d, ox_d, ox_d, ox_d, ox_d] [.inr (.inr (10, 0, 0))] r7.2 else ox_ev m_Mod_archive (ox_zz ox_ms (n + 7)) 13 0 tl [.inr (.inr (10, 0, 0)), .inl (a1), ox_d, ox_d, ox_d, ox_d, ox_d] [.inr (.inr (10, 0, 0))] r7.2) rfl ?_
  refine ox_R_if (fun _ => ?_) (fun _ => ?_)
  · refine ox_R_to 2 (Y := ox_ev m_Mod_archive (ox_zz ox_ms (n + 7)) 26 0 tl [.inr (.inr (10, 0, 0)), .inl (a1), ox_d, ox_d, ox_d, ox_d, ox_d] [.inl (1), .inr (.inr (10, 0, 0))] r7.2) rfl ?_
    exact (L_Mod_archive_26 a1 1 r7.2 n tl)
  · refine ox_R_to 4 (Y := if (r7.2 10 0 10 0) = 5 then ox_ev m_Mod_archive (ox_zz ox_ms (n + 7)) 21 0 tl [.inr (.inr (10, 0, 0)), .inl (a1), ox_d, ox_d, ox_d, ox_d, ox_d] [.inr (.inr (10, 0, 0))] r7.2 else ox_ev m_Mod_archive (ox_zz ox_ms (n + 7)) 25 0 tl [.inr (.inr (10, 0, 0)), .inl (a1), ox_d, ox_d, ox_d, ox_d, ox_d] [.inr (.inr (10, 0, 0))] r7.2) rfl ?_
    refine ox_R_if (fun _ => ?_) (fun _ => ?_)
    · refine ox_R_to 2 (Y := ox_ev m_Mod_archive (ox_zz ox_ms (n + 7)) 26 0 tl [.inr (.inr (10, 0, 0)), .inl (a1), ox_d, ox_d, ox_d, ox_d, ox_d] [.inl (2), .inr (.inr (10, 0, 0))] r7.2) rfl ?_
      exact (L_Mod_archive_26 a1 2 r7.2 n tl)
    · refine ox_R_to 1 (Y := ox_ev m_Mod_archive (ox_zz ox_ms (n + 7)) 26 0 tl [.inr (.inr (10, 0, 0)), .inl (a1), ox_d, ox_d, ox_d, ox_d, ox_d] [.inl (0), .inr (.inr (10, 0, 0))] r7.2) rfl ?_
      exact (L_Mod_archive_26 a1 0 r7.2 n tl)
def J_Mod_bringBack_201  (v2 : Int) (σ : ox_H) : Option (Int × ox_H) := (F_Mod_lay v2 σ).bind fun r1 => (some (r1 10 0 10 0, r1))
theorem L_Mod_bringBack_201  (v2 : Int) (σ : ox_H) (n tl : Nat) : ox_R (fun r => some ((fun r : Int × ox_H => ((.inl (some (.inl r.1)), r.2) : ox_O)) r)) (J_Mod_bringBack_201 v2 σ) (ox_ev m_Mod_bringBack (ox_zz ox_ms (n + 7)) 201 0 tl [.inr (.inr (10, 0, 0)), ox_d, .inl (v2), ox_d, ox_d] [] σ) := by
  unfold J_Mod_bringBack_201
  refine ox_R_to 3 (Y := ox_back m_Mod_bringBack 203 0 [] ((ox_zz ox_ms (n + 7)) 92 tl [.inr (.inr (10, 0, 0)), .inl (v2)] σ) (fun pc9 x9 st9 σ9 => ox_ev m_Mod_bringBack (ox_zz ox_ms (n + 7)) pc9 0 tl (ox_kl (m_Mod_bringBack.2.2.1 pc9) (ox_xl x9 [.inr (.inr (10, 0, 0)), ox_d, .inl (v2), ox_d, ox_d])) st9 σ9)) rfl ?_
  refine ox_R_call (fc := (fun r : ox_H => ((.inl none, r) : ox_O))) (L_Mod_lay v2 σ (n + 5) tl) (fun r1 => ?_)
  refine ox_R_of (Y := ox_ev m_Mod_bringBack (ox_zz ox_ms (n + 7)) 206 0 tl [.inr (.inr (10, 0, 0)), ox_d, .inl (v2), ox_d, ox_d] [] r1) rfl ?_
  refine ox_R_to 3 (Y := some (.inl (some (.inl (r1 10 0 10 0))), r1)) rfl ?_
  exact ox_R_ret rfl
def J_Mod_bringBack_195  (v2 : Int) (v3 : Int) (σ : ox_H) : Option (((Int × ox_H) ⊕ Int × ox_H)) := some (.inl (ox_w (v3 + 1), σ))
theorem L_Mod_bringBack_195  (v2 : Int) (v3 : Int) (σ : ox_H) (n tl : Nat) : ox_R (Sum.elim (fun (s : Int × ox_H) => match s with | (v3, σ) => ox_ev m_Mod_bringBack (ox_zz ox_ms (n + 7)) 118 0 tl [.inr (.inr (10, 0, 0)), ox_d, .inl (v2), .inl (v3), ox_d] [] σ) (fun r => some ((fun r : Int × ox_H => ((.inl (some (.inl r.1)), r.2) : ox_O)) r))) (J_Mod_bringBack_195 v2 v3 σ) (ox_ev m_Mod_bringBack (ox_zz ox_ms (n + 7)) 195 0 tl [.inr (.inr (10, 0, 0)), ox_d, .inl (v2), .inl (v3), ox_d] [] σ) := by
  unfold J_Mod_bringBack_195
  refine ox_R_to 2 (Y := ox_ev m_Mod_bringBack (ox_zz ox_ms (n + 7)) 118 0 tl [.inr (.inr (10, 0, 0)), ox_d, .inl (v2), .inl (ox_w (v3 + 1)), ox_d] [] σ) rfl ?_
  exact ox_R_ret rfl
def B_Mod_bringBack_149  (v2 : Int) (v3 : Int) : (Int × ox_H) → Option (((Int × ox_H) ⊕ ((Int × ox_H) ⊕ Int × ox_H))) := fun (v4, σ) => if 24 ≤ v4 then ((J_Mod_bringBack_195 v2 v3 σ).map .inr) else (if 0 ≤ (ox_w ((ox_w ((ox_w (1440 * (σ 10 0 10 0))) + (ox_w (24 * v3)))) + v4)) ∧ (ox_w ((ox_w ((ox_w (1440 * (σ 10 0 10 0))) + (ox_w (24 * v3)))) + v4)).toNat < 7200 then (if 0 ≤ (ox_w ((ox_w (24 * v3)) + v4)) ∧ (ox_w ((ox_w (24 * v3)) + v4)).toNat < 1440 then (some (.inl (ox_w (v4 + 1), (ox_up σ 10 0 3 ((ox_w ((ox_w (24 * v3)) + v4)).toNat) (σ 10 0 6 ((ox_w ((ox_w ((ox_w (1440 * (σ 10 0 10 0))) + (ox_w (24 * v3)))) + v4)).toNat)))))) else none) else none)
def J_Mod_bringBack_149  (v2 : Int) (v3 : Int) (v4 : Int) (σ : ox_H) : Option (((Int × ox_H) ⊕ Int × ox_H)) := ox_lp (B_Mod_bringBack_149 v2 v3) ox_fu (v4, σ)
theorem L_Mod_bringBack_149  (v2 : Int) (v3 : Int) (v4 : Int) (σ : ox_H) (n tl : Nat) : ox_R (Sum.elim (fun (s : Int × ox_H) => match s with | (v3, σ) => ox_ev m_Mod_bringBack (ox_zz ox_ms (n + 7)) 118 0 tl [.inr (.inr (10, 0, 0)), ox_d, .inl (v2), .inl (v3), ox_d] [] σ) (fun r => some ((fun r : Int × ox_H => ((.inl (some (.inl r.1)), r.2) : ox_O)) r))) (J_Mod_bringBack_149 v2 v3 v4 σ) (ox_ev m_Mod_bringBack (ox_zz ox_ms (n + 7)) 149 0 tl [.inr (.inr (10, 0, 0)), ox_d, .inl (v2), .inl (v3), .inl (v4)] [] σ) := by
  unfold J_Mod_bringBack_149
  refine ox_R_lp (ψ := (fun (s : Int × ox_H) => match s with | (v4, σ) => ox_ev m_Mod_bringBack (ox_zz ox_ms (n + 7)) 149 0 tl [.inr (.inr (10, 0, 0)), ox_d, .inl (v2), .inl (v3), .inl (v4)] [] σ)) ?_ ox_fu (v4, σ)
  intro s
  obtain ⟨v4, σ⟩ := s
  unfold B_Mod_bringBack_149
  refine ox_R_to 3 (Y := if 24 ≤ v4 then ox_ev m_Mod_bringBack (ox_zz ox_ms (n + 7)) 195 0 tl [.inr (.inr (10, 0, 0)), ox_d, .inl (v2), .inl (v3), ox_d] [] σ else ox_ev m_Mod_bringBack (ox_zz ox_ms (n + 7)) 156 0 tl [.inr (.inr (10, 0, 0)), ox_d, .inl (v2), .inl (v3), .inl (v4)] [] σ) rfl ?_
  refine ox_R_if (fun _ => ?_) (fun _ => ?_)
  · exact ox_R_map ((L_Mod_bringBack_195 v2 v3 σ n tl))
  · refine ox_R_to 20 (Y := if 0 ≤ (ox_w ((ox_w ((ox_w (1440 * (σ 10 0 10 0))) + (ox_w (24 * v3)))) + v4)) ∧ (ox_w ((ox_w ((ox_w (1440 * (σ 10 0 10 0))) + (ox_w (24 * v3)))) + v4)).toNat < 7200 then ox_ev m_Mod_bringBack (ox_zz ox_ms (n + 7)) 188 0 tl [.inr (.inr (10, 0, 0)), ox_d, .inl (v2), .inl (v3), .inl (v4)] [.inl (σ 10 0 6 ((ox_w ((ox_w ((ox_w (1440 * (σ 10 0 10 0))) + (ox_w (24 * v3)))) + v4)).toNat)), .inl (ox_w ((ox_w (24 * v3)) + v4)), .inr (.inr (110, 0, 3))] σ else none) rfl ?_
    refine ox_R_if (fun _ => ?_) (fun _ => ox_R_none)
    refine ox_R_to 1 (Y := if 0 ≤ (ox_w ((ox_w (24 * v3)) + v4)) ∧ (ox_w ((ox_w (24 * v3)) + v4)).toNat < 1440 then ox_ev m_Mod_bringBack (ox_zz ox_ms (n + 7)) 189 0 tl [.inr (.inr (10, 0, 0)), ox_d, .inl (v2), .inl (v3), .inl (v4)] [] (ox_up σ 10 0 3 ((ox_w ((ox_w (24 * v3)) + v4)).toNat) (σ 10 0 6 ((ox_w ((ox_w ((ox_w (1440 * (σ 10 0 10 0))) + (ox_w (24 * v3)))) + v4)).toNat))) else none) rfl ?_
    refine ox_R_if (fun _ => ?_) (fun _ => ox_R_none)
    refine ox_R_to 2 (Y := ox_ev m_Mod_bringBack (ox_zz ox_ms (n + 7)) 149 0 tl [.inr (.inr (10, 0, 0)), ox_d, .inl (v2), .inl (v3), .inl (ox_w (v4 + 1))] [] (ox_up σ 10 0 3 ((ox_w ((ox_w (24 * v3)) + v4)).toNat) (σ 10 0 6 ((ox_w ((ox_w ((ox_w (1440 * (σ 10 0 10 0))) + (ox_w (24 * v3)))) + v4)).toNat)))) rfl ?_
    exact ox_R_ret rfl
def B_Mod_bringBack_118  (v2 : Int) : (Int × ox_H) → Option (((Int × ox_H) ⊕ Int × ox_H)) := fun (v3, σ) => if (σ 10 0 5 0) ≤ v3 then ((J_Mod_bringBack_201 v2 σ).map .inr) else (if 0 ≤ (ox_w ((ox_w (60 * (σ 10 0 10 0))) + v3)) ∧ (ox_w ((ox_w (60 * (σ 10 0 10 0))) + v3)).toNat < 300 then (if 0 ≤ v3 ∧ v3.toNat < 60 then (J_Mod_bringBack_149 v2 v3 0 (ox_up σ 10 0 4 v3.toNat (σ 10 0 7 ((ox_w ((ox_w (60 * (σ 10 0 10 0))) + v3)).toNat)))) else none) else none)
def J_Mod_bringBack_118  (v2 : Int) (v3 : Int) (σ : ox_H) : Option (Int × ox_H) := ox_lp (B_Mod_bringBack_118 v2) ox_fu (v3, σ)
theorem L_Mod_bringBack_118  (v2 : Int) (v3 : Int) (σ : ox_H) (n tl : Nat) : ox_R (fun r => some ((fun r : Int × ox_H => ((.inl (some (.inl r.1)), r.2) : ox_O)) r)) (J_Mod_bringBack_118 v2 v3 σ) (ox_ev m_Mod_bringBack (ox_zz ox_ms (n + 7)) 118 0 tl [.inr (.inr (10, 0, 0)), ox_d, .inl (v2), .inl (v3), ox_d] [] σ) := by
  unfold J_Mod_bringBack_118
  refine ox_R_lp (ψ := (fun (s : Int × ox_H) => match s with | (v3, σ) => ox_ev m_Mod_bringBack (ox_zz ox_ms (n + 7)) 118 0 tl [.inr (.inr (10, 0, 0)), ox_d, .inl (v2), .inl (v3), ox_d] [] σ)) ?_ ox_fu (v3, σ)
  intro s
  obtain ⟨v3, σ⟩ := s
  unfold B_Mod_bringBack_118
  refine ox_R_to 4 (Y := if (σ 10 0 5 0) ≤ v3 then ox_ev m_Mod_bringBack (ox_zz ox_ms (n + 7)) 201 0 tl [.inr (.inr (10, 0, 0)), ox_d, .inl (v2), ox_d, ox_d] [] σ else ox_ev m_Mod_bringBack (ox_zz ox_ms (n + 7)) 126 0 tl [.inr (.inr (10, 0, 0)), ox_d, .inl (v2), .inl (v3), ox_d] [] σ) rfl ?_
  refine ox_R_if (fun _ => ?_) (fun _ => ?_)
  · exact ox_R_map ((L_Mod_bringBack_201 v2 σ n tl))
  · refine ox_R_to 12 (Y := if 0 ≤ (ox_w ((ox_w (60 * (σ 10 0 10 0))) + v3)) ∧ (ox_w ((ox_w (60 * (σ 10 0 10 0))) + v3)).toNat < 300 then ox_ev m_Mod_bringBack (ox_zz ox_ms (n + 7)) 145 0 tl [.inr (.inr (10, 0, 0)), ox_d, .inl (v2), .inl (v3), ox_d] [.inl (σ 10 0 7 ((ox_w ((ox_w (60 * (σ 10 0 10 0))) + v3)).toNat)), .inl (v3), .inr (.inr (110, 0, 4))] σ else none) rfl ?_
    refine ox_R_if (fun _ => ?_) (fun _ => ox_R_none)
    refine ox_R_to 1 (Y := if 0 ≤ v3 ∧ v3.toNat < 60 then ox_ev m_Mod_bringBack (ox_zz ox_ms (n + 7)) 146 0 tl [.inr (.inr (10, 0, 0)), ox_d, .inl (v2), .inl (v3), ox_d] [] (ox_up σ 10 0 4 v3.toNat (σ 10 0 7 ((ox_w ((ox_w (60 * (σ 10 0 10 0))) + v3)).toNat))) else none) rfl ?_
    refine ox_R_if (fun _ => ?_) (fun _ => ox_R_none)
    refine ox_R_to 2 (Y := ox_ev m_Mod_bringBack (ox_zz ox_ms (n + 7)) 149 0 tl [.inr (.inr (10, 0, 0)), ox_d, .inl (v2), .inl (v3), .inl (0)] [] (ox_up σ 10 0 4 v3.toNat (σ 10 0 7 ((ox_w ((ox_w (60 * (σ 10 0 10 0))) + v3)).toNat)))) rfl ?_
    exact (L_Mod_bringBack_149 v2 v3 0 (ox_up σ 10 0 4 v3.toNat (σ 10 0 7 ((ox_w ((ox_w (60 * (σ 10 0 10 0))) + v3)).toNat))) n tl)
def J_Mod_bringBack_102  (s0 : Int) (σ : ox_H) : Option (Int × ox_H) := if 0 ≤ (σ 10 0 10 0) ∧ (σ 10 0 10 0).toNat < 5 then (J_Mod_bringBack_118 s0 0 (ox_up σ 10 0 5 0 (σ 10 0 8 ((σ 10 0 10 0).toNat)))) else none
theorem L_Mod_bringBack_102  (s0 : Int) (σ : ox_H) (n tl : Nat) : ox_R (fun r => some ((fun r : Int × ox_H => ((.inl (some (.inl r.1)), r.2) : ox_O)) r)) (J_Mod_bringBack_102 s0 σ) (ox_ev m_Mod_bringBack (ox_zz ox_ms (n + 7)) 102 0 tl [.inr (.inr (10, 0, 0)), ox_d, ox_d, ox_d, ox_d] [.inl (s0)] σ) := by
  unfold J_Mod_bringBack_102
  refine ox_R_to 7 (Y := if 0 ≤ (σ 10 0 10 0) ∧ (σ 10 0 10 0).toNat < 5 then ox_ev m_Mod_bringBack (ox_zz ox_ms (n + 7)) 113 0 tl [.inr (.inr (10, 0, 0)), ox_d, .inl (s0), ox_d, ox_d] [.inl (σ 10 0 8 ((σ 10 0 10 0).toNat)), .inr (.inr (10, 0, 0))] σ else none) rfl ?_
  refine ox_R_if (fun _ => ?_) (fun _ => ox_R_none)
  refine ox_R_to 3 (Y := ox_ev m_Mod_bringBack (ox_zz ox_ms (n + 7)) 118 0 tl [.inr (.inr (10, 0, 0)), ox_d, .inl (s0), .inl (0), ox_d] [] (ox_up σ 10 0 5 0 (σ 10 0 8 ((σ 10 0 10 0).toNat)))) rfl ?_
  exact (L_Mod_bringBack_118 s0 0 (ox_up σ 10 0 5 0 (σ 10 0 8 ((σ 10 0 10 0).toNat))) n tl)
def J_Mod_bringBack_85  (s0 : Int) (σ : ox_H) : Option (Int × ox_H) := if 0 ≤ s0 then ((F_Mod_end s0 σ).bind fun r2 => (J_Mod_bringBack_102 r2.1 r2.2)) else (J_Mod_bringBack_102 (σ 10 0 2 0) σ)
theorem L_Mod_bringBack_85  (s0 : Int) (σ : ox_H) (n tl : Nat) : ox_R (fun r => some ((fun r : Int × ox_H => ((.inl (some (.inl r.1)), r.2) : ox_O)) r)) (J_Mod_bringBack_85 s0 σ) (ox_ev m_Mod_bringBack (ox_zz ox_ms (n + 7)) 85 0 tl [.inr (.inr (10, 0, 0)), ox_d, ox_d, ox_d, ox_d] [.inl (s0)] σ) := by
  unfold J_Mod_bringBack_85
  refine ox_R_to 3 (Y := if 0 ≤ s0 then ox_ev m_Mod_bringBack (ox_zz ox_ms (n + 7)) 97 0 tl [.inr (.inr (10, 0, 0)), .inl (s0), ox_d, ox_d, ox_d] [] σ else ox_ev m_Mod_bringBack (ox_zz ox_ms (n + 7)) 90 0 tl [.inr (.inr (10, 0, 0)), .inl (s0), ox_d, ox_d, ox_d] [] σ) rfl ?_
  refine ox_R_if (fun _ => ?_) (fun _ => ?_)
  · refine ox_R_to 3 (Y := ox_back m_Mod_bringBack 99 1 [] ((ox_zz ox_ms (n + 7)) 78 tl [.inr (.inr (10, 0, 0)), .inl (s0)] σ) (fun pc9 x9 st9 σ9 => ox_ev m_Mod_bringBack (ox_zz ox_ms (n + 7)) pc9 0 tl (ox_kl (m_Mod_bringBack.2.2.1 pc9) (ox_xl x9 [.inr (.inr (10, 0, 0)), .inl (s0), ox_d, ox_d, ox_d])) st9 σ9)) rfl ?_
    refine ox_R_call (fc := (fun r : Int × ox_H => ((.inl (some (.inl r.1)), r.2) : ox_O))) (L_Mod_end s0 σ (n + 0) tl) (fun r2 => ?_)
    refine ox_R_of (Y := ox_ev m_Mod_bringBack (ox_zz ox_ms (n + 7)) 102 0 tl [.inr (.inr (10, 0, 0)), ox_d, ox_d, ox_d, ox_d] [.inl (r2.1)] r2.2) rfl ?_
    exact (L_Mod_bringBack_102 r2.1 r2.2 n tl)
  · refine ox_R_to 3 (Y := ox_ev m_Mod_bringBack (ox_zz ox_ms (n + 7)) 102 0 tl [.inr (.inr (10, 0, 0)), ox_d, ox_d, ox_d, ox_d] [.inl (σ 10 0 2 0)] σ) rfl ?_
    exact (L_Mod_bringBack_102 (σ 10 0 2 0) σ n tl)
def J_Mod_bringBack_34  (s0 : Int) (σ : ox_H) : Option (Int × ox_H) := (F_Mod_holds s0 σ).bind fun r3 => (if r3.1 = 0 then ((F_Mod_find (ox_up r3.2 10 0 10 0 (ox_w ((r3.2 10 0 10 0) - 1)))).bind fun r4 => (if 0 ≤ (r4 10 0 10 0) ∧ (r4 10 0 10 0).toNat < 5 then (if 0 ≤ (r4 10 0 9 ((r4 10 0 10 0).toNat)) then (if 0 ≤ (r4 10 0 10 0) ∧ (r4 10 0 10 0).toNat < 5 then ((F_Mod_titled (r4 10 0 9 ((r4 10 0 10 0).toNat)) r4).bind fun r5 => (J_Mod_bringBack_85 r5.1 r5.2)) else none) else (J_Mod_bringBack_85 (-1) r4)) else none)) else (some ((-1), r3.2)))
theorem L_Mod_bringBack_34  (s0 : Int) (σ : ox_H) (n tl : Nat) : ox_R (fun r => some ((fun r : Int × ox_H => ((.inl (some (.inl r.1)), r.2) : ox_O)) r)) (J_Mod_bringBack_34 s0 σ) (ox_ev m_Mod_bringBack (ox_zz ox_ms (n + 7)) 34 0 tl [.inr (.inr (10, 0, 0)), ox_d, ox_d, ox_d, ox_d] [.inl (s0), .inr (.inr (10, 0, 0))] σ) := by
  unfold J_Mod_bringBack_34
  refine ox_R_to 1 (Y := ox_back m_Mod_bringBack 34 1 [] ((ox_zz ox_ms (n + 7)) 43 tl [.inr (.inr (10, 0, 0)), .inl (s0)] σ) (fun pc9 x9 st9 σ9 => ox_ev m_Mod_bringBack (ox_zz ox_ms (n + 7)) pc9 0 tl (ox_kl (m_Mod_bringBack.2.2.1 pc9) (ox_xl x9 [.inr (.inr (10, 0, 0)), ox_d, ox_d, ox_d, ox_d])) st9 σ9)) rfl ?_
  refine ox_R_call (fc := (fun r : Int × ox_H => ((.inl (some (.inl r.1)), r.2) : ox_O))) (L_Mod_holds s0 σ (n + 6) tl) (fun r3 => ?_)
  refine ox_R_of (Y := ox_ev m_Mod_bringBack (ox_zz ox_ms (n + 7)) 37 0 tl [.inr (.inr (10, 0, 0)), ox_d, ox_d, ox_d, ox_d] [.inl (r3.1)] r3.2) rfl ?_
  refine ox_R_to 1 (Y := if r3.1 = 0 then ox_ev m_Mod_bringBack (ox_zz ox_ms (n + 7)) 42 0 tl [.inr (.inr (10, 0, 0)), ox_d, ox_d, ox_d, ox_d] [] r3.2 else ox_ev m_Mod_bringBack (ox_zz ox_ms (n + 7)) 40 0 tl [.inr (.inr (10, 0, 0)), ox_d, ox_d, ox_d, ox_d] [] r3.2) rfl ?_
  refine ox_R_if (fun _ => ?_) (fun _ => ?_)
  · refine ox_R_to 8 (Y := ox_back m_Mod_bringBack 53 0 [] ((ox_zz ox_ms (n + 7)) 72 tl [.inr (.inr (10, 0, 0))] (ox_up r3.2 10 0 10 0 (ox_w ((r3.2 10 0 10 0) - 1)))) (fun pc9 x9 st9 σ9 => ox_ev m_Mod_bringBack (ox_zz ox_ms (n + 7)) pc9 0 tl (ox_kl (m_Mod_bringBack.2.2.1 pc9) (ox_xl x9 [.inr (.inr (10, 0, 0)), ox_d, ox_d, ox_d, ox_d])) st9 σ9)) rfl ?_
    refine ox_R_call (fc := (fun r : ox_H => ((.inl none, r) : ox_O))) (L_Mod_find (ox_up r3.2 10 0 10 0 (ox_w ((r3.2 10 0 10 0) - 1))) (n + 2) tl) (fun r4 => ?_)
    refine ox_R_of (Y := ox_ev m_Mod_bringBack (ox_zz ox_ms (n + 7)) 56 0 tl [.inr (.inr (10, 0, 0)), ox_d, ox_d, ox_d, ox_d] [] r4) rfl ?_
    refine ox_R_to 5 (Y := if 0 ≤ (r4 10 0 10 0) ∧ (r4 10 0 10 0).toNat < 5 then ox_ev m_Mod_bringBack (ox_zz ox_ms (n + 7)) 65 0 tl [.inr (.inr (10, 0, 0)), ox_d, ox_d, ox_d, ox_d] [.inl (r4 10 0 9 ((r4 10 0 10 0).toNat))] r4 else none) rfl ?_
    refine ox_R_if (fun _ => ?_) (fun _ => ox_R_none)
    refine ox_R_to 1 (Y := if 0 ≤ (r4 10 0 9 ((r4 10 0 10 0).toNat)) then ox_ev m_Mod_bringBack (ox_zz ox_ms (n + 7)) 72 0 tl [.inr (.inr (10, 0, 0)), ox_d, ox_d, ox_d, ox_d] [] r4 else ox_ev m_Mod_bringBack (ox_zz ox_ms (n + 7)) 68 0 tl [.inr (.inr (10, 0, 0)), ox_d, ox_d, ox_d, ox_d] [] r4) rfl ?_
    refine ox_R_if (fun _ => ?_) (fun _ => ?_)
    · refine ox_R_to 6 (Y := if 0 ≤ (r4 10 0 10 0) ∧ (r4 10 0 10 0).toNat < 5 then ox_ev m_Mod_bringBack (ox_zz ox_ms (n + 7)) 82 0 tl [.inr (.inr (10, 0, 0)), ox_d, ox_d, ox_d, ox_d] [.inl (r4 10 0 9 ((r4 10 0 10 0).toNat)), .inr (.inr (10, 0, 0))] r4 else none) rfl ?_
      refine ox_R_if (fun _ => ?_) (fun _ => ox_R_none)
      refine ox_R_to 1 (Y := ox_back m_Mod_bringBack 82 1 [] ((ox_zz ox_ms (n + 7)) 84 tl [.inr (.inr (10, 0, 0)), .inl (r4 10 0 9 ((r4 10 0 10 0).toNat))] r4) (fun pc9 x9 st9 σ9 => ox_ev m_Mod_bringBack (ox_zz ox_ms (n + 7)) pc9 0 tl (ox_kl (m_Mod_bringBack.2.2.1 pc9) (ox_xl x9 [.inr (.inr (10, 0, 0)), ox_d, ox_d, ox_d, ox_d])) st9 σ9)) rfl ?_
      refine ox_R_call (fc := (fun r : Int × ox_H => ((.inl (some (.inl r.1)), r.2) : ox_O))) (L_Mod_titled (r4 10 0 9 ((r4 10 0 10 0).toNat)) r4 (n + 1) tl) (fun r5 => ?_)
      refine ox_R_of (Y := ox_ev m_Mod_bringBack (ox_zz ox_ms (n + 7)) 85 0 tl [.inr (.inr (10, 0, 0)), ox_d, ox_d, ox_d, ox_d] [.inl (r5.1)] r5.2) rfl ?_
      exact (L_Mod_bringBack_85 r5.1 r5.2 n tl)
    · refine ox_R_to 2 (Y := ox_ev m_Mod_bringBack (ox_zz ox_ms (n + 7)) 85 0 tl [.inr (.inr (10, 0, 0)), ox_d, ox_d, ox_d, ox_d] [.inl ((-1))] r4) rfl ?_
      exact (L_Mod_bringBack_85 (-1) r4 n tl)
  · refine ox_R_to 2 (Y := some (.inl (some (.inl ((-1)))), r3.2)) rfl ?_
    exact ox_R_ret rfl
def J_Mod_bringBack_29  (σ : ox_H) : Option (Int × ox_H) := (J_Mod_bringBack_34 1 σ)
theorem L_Mod_bringBack_29  (σ : ox_H) (n tl : Nat) : ox_R (fun r => some ((fun r : Int × ox_H => ((.inl (some (.inl r.1)), r.2) : ox_O)) r)) (J_Mod_bringBack_29 σ) (ox_ev m_Mod_bringBack (ox_zz ox_ms (n + 7)) 29 0 tl [.inr (.inr (10, 0, 0)), ox_d, ox_d, ox_d, ox_d] [.inr (.inr (10, 0, 0))] σ) := by
  unfold J_Mod_bringBack_29
  refine ox_R_to 2 (Y := ox_ev m_Mod_bringBack (ox_zz ox_ms (n + 7)) 34 0 tl [.inr (.inr (10, 0, 0)), ox_d, ox_d, ox_d, ox_d] [.inl (1), .inr (.inr (10, 0, 0))] σ) rfl ?_
  exact (L_Mod_bringBack_34 1 σ n tl)
def F_Mod_bringBack  (σ : ox_H) : Option (Int × ox_H) := if (σ 10 0 10 0) = 0 then (J_Mod_bringBack_29 σ) else (if 0 ≤ (ox_w ((σ 10 0 10 0) - 1)) ∧ (ox_w ((σ 10 0 10 0) - 1)).toNat < 5 then (if (ox_w ((σ 10 0 2 0) + (σ 10 0 8 ((ox_w ((σ 10 0 10 0) - 1)).toNat)))) ≤ 60 then (J_Mod_bringBack_34 0 σ) else (J_Mod_bringBack_29 σ)) else none)
theorem L_Mod_bringBack  (σ : ox_H) (n tl : Nat) : ox_R (fun r => some ((fun r : Int × ox_H => ((.inl (some (.inl r.1)), r.2) : ox_O)) r)) (F_Mod_bringBack σ) (ox_zz ox_ms (n + 8) 104 tl [.inr (.inr (10, 0, 0))] σ) := by
  unfold F_Mod_bringBack
  refine ox_R_of (Y := ox_ev m_Mod_bringBack (ox_zz ox_ms (n + 7)) 0 0 tl [.inr (.inr (10, 0, 0)), ox_d, ox_d, ox_d, ox_d] [] σ) rfl ?_
  refine ox_R_to 4 (Y := if (σ 10 0 10 0) = 0 then ox_ev m_Mod_bringBack (ox_zz ox_ms (n + 7)) 29 0 tl [.inr (.inr (10, 0, 0)), ox_d, ox_d, ox_d, ox_d] [.inr (.inr (10, 0, 0))] σ else ox_ev m_Mod_bringBack (ox_zz ox_ms (n + 7)) 8 0 tl [.inr (.inr (10, 0, 0)), ox_d, ox_d, ox_d, ox_d] [.inr (.inr (10, 0, 0))] σ) rfl ?_
  refine ox_R_if (fun _ => ?_) (fun _ => ?_)
  · exact (L_Mod_bringBack_29 σ n tl)
  · refine ox_R_to 9 (Y := if 0 ≤ (ox_w ((σ 10 0 10 0) - 1)) ∧ (ox_w ((σ 10 0 10 0) - 1)).toNat < 5 then ox_ev m_Mod_bringBack (ox_zz ox_ms (n + 7)) 23 0 tl [.inr (.inr (10, 0, 0)), ox_d, ox_d, ox_d, ox_d] [.inl (σ 10 0 8 ((ox_w ((σ 10 0 10 0) - 1)).toNat)), .inl (σ 10 0 2 0), .inr (.inr (10, 0, 0))] σ else none) rfl ?_
    refine ox_R_if (fun _ => ?_) (fun _ => ox_R_none)
    refine ox_R_to 3 (Y := if (ox_w ((σ 10 0 2 0) + (σ 10 0 8 ((ox_w ((σ 10 0 10 0) - 1)).toNat)))) ≤ 60 then ox_ev m_Mod_bringBack (ox_zz ox_ms (n + 7)) 33 0 tl [.inr (.inr (10, 0, 0)), ox_d, ox_d, ox_d, ox_d] [.inr (.inr (10, 0, 0))] σ else ox_ev m_Mod_bringBack (ox_zz ox_ms (n + 7)) 29 0 tl [.inr (.inr (10, 0, 0)), ox_d, ox_d, ox_d, ox_d] [.inr (.inr (10, 0, 0))] σ) rfl ?_
    refine ox_R_if (fun _ => ?_) (fun _ => ?_)
    · refine ox_R_to 1 (Y := ox_ev m_Mod_bringBack (ox_zz ox_ms (n + 7)) 34 0 tl [.inr (.inr (10, 0, 0)), ox_d, ox_d, ox_d, ox_d] [.inl (0), .inr (.inr (10, 0, 0))] σ) rfl ?_
      exact (L_Mod_bringBack_34 0 σ n tl)
    · exact (L_Mod_bringBack_29 σ n tl)
def J_Mod_today_18  (v1 : Int) (s0 : Int) (σ : ox_H) : Option (Int × ox_H) := (F_Mod_holds s0 σ).bind fun r1 => (if r1.1 = 0 then (some (r1.2 10 0 23 0, (ox_up r1.2 10 0 23 0 v1))) else (some ((-1), r1.2)))
theorem L_Mod_today_18  (v1 : Int) (s0 : Int) (σ : ox_H) (n tl : Nat) : ox_R (fun r => some ((fun r : Int × ox_H => ((.inl (some (.inl r.1)), r.2) : ox_O)) r)) (J_Mod_today_18 v1 s0 σ) (ox_ev m_Mod_today (ox_zz ox_ms (n + 1)) 18 0 tl [.inr (.inr (10, 0, 0)), .inl (v1), ox_d] [.inl (s0), .inr (.inr (10, 0, 0))] σ) := by
  unfold J_Mod_today_18
  refine ox_R_to 1 (Y := ox_back m_Mod_today 18 1 [] ((ox_zz ox_ms (n + 1)) 43 tl [.inr (.inr (10, 0, 0)), .inl (s0)] σ) (fun pc9 x9 st9 σ9 => ox_ev m_Mod_today (ox_zz ox_ms (n + 1)) pc9 0 tl (ox_kl (m_Mod_today.2.2.1 pc9) (ox_xl x9 [.inr (.inr (10, 0, 0)), .inl (v1), ox_d])) st9 σ9)) rfl ?_
  refine ox_R_call (fc := (fun r : Int × ox_H => ((.inl (some (.inl r.1)), r.2) : ox_O))) (L_Mod_holds s0 σ (n + 0) tl) (fun r1 => ?_)
  refine ox_R_of (Y := ox_ev m_Mod_today (ox_zz ox_ms (n + 1)) 21 0 tl [.inr (.inr (10, 0, 0)), .inl (v1), ox_d] [.inl (r1.1)] r1.2) rfl ?_
  refine ox_R_to 1 (Y := if r1.1 = 0 then ox_ev m_Mod_today (ox_zz ox_ms (n + 1)) 26 0 tl [.inr (.inr (10, 0, 0)), .inl (v1), ox_d] [] r1.2 else ox_ev m_Mod_today (ox_zz ox_ms (n + 1)) 24 0 tl [.inr (.inr (10, 0, 0)), .inl (v1), ox_d] [] r1.2) rfl ?_
  refine ox_R_if (fun _ => ?_) (fun _ => ?_)
  · refine ox_R_to 8 (Y := some (.inl (some (.inl (r1.2 10 0 23 0))), (ox_up r1.2 10 0 23 0 v1))) rfl ?_
    exact ox_R_ret rfl
  · refine ox_R_to 2 (Y := some (.inl (some (.inl ((-1)))), r1.2)) rfl ?_
    exact ox_R_ret rfl
def F_Mod_today  (a1 : Int) (σ : ox_H) : Option (Int × ox_H) := (F_Mod_in a1 0 9999 σ).bind fun r2 => (if r2 = 0 then (J_Mod_today_18 a1 1 σ) else (J_Mod_today_18 a1 0 σ))
theorem L_Mod_today  (a1 : Int) (σ : ox_H) (n tl : Nat) : ox_R (fun r => some ((fun r : Int × ox_H => ((.inl (some (.inl r.1)), r.2) : ox_O)) r)) (F_Mod_today a1 σ) (ox_zz ox_ms (n + 2) 105 tl [.inr (.inr (10, 0, 0)), .inl (a1)] σ) := by
  unfold F_Mod_today
  refine ox_R_of (Y := ox_ev m_Mod_today (ox_zz ox_ms (n + 1)) 0 0 tl [.inr (.inr (10, 0, 0)), .inl (a1), ox_d] [] σ) rfl ?_
  refine ox_R_to 6 (Y := ox_back m_Mod_today 7 1 [.inr (.inr (10, 0, 0))] ((ox_zz ox_ms (n + 1)) 44 tl [.inr (.inr (10, 0, 0)), .inl (a1), .inl (0), .inl (9999)] σ) (fun pc9 x9 st9 σ9 => ox_ev m_Mod_today (ox_zz ox_ms (n + 1)) pc9 0 tl (ox_kl (m_Mod_today.2.2.1 pc9) (ox_xl x9 [.inr (.inr (10, 0, 0)), .inl (a1), ox_d])) st9 σ9)) rfl ?_
  refine ox_R_call (fc := (fun r : Int => ((.inl (some (.inl r)), σ) : ox_O))) (L_Mod_in a1 0 9999 σ (n + 0) tl) (fun r2 => ?_)
  refine ox_R_of (Y := ox_ev m_Mod_today (ox_zz ox_ms (n + 1)) 10 0 tl [.inr (.inr (10, 0, 0)), .inl (a1), ox_d] [.inl (r2), .inr (.inr (10, 0, 0))] σ) rfl ?_
  refine ox_R_to 1 (Y := if r2 = 0 then ox_ev m_Mod_today (ox_zz ox_ms (n + 1)) 17 0 tl [.inr (.inr (10, 0, 0)), .inl (a1), ox_d] [.inr (.inr (10, 0, 0))] σ else ox_ev m_Mod_today (ox_zz ox_ms (n + 1)) 13 0 tl [.inr (.inr (10, 0, 0)), .inl (a1), ox_d] [.inr (.inr (10, 0, 0))] σ) rfl ?_
  refine ox_R_if (fun _ => ?_) (fun _ => ?_)
  · refine ox_R_to 1 (Y := ox_ev m_Mod_today (ox_zz ox_ms (n + 1)) 18 0 tl [.inr (.inr (10, 0, 0)), .inl (a1), ox_d] [.inl (1), .inr (.inr (10, 0, 0))] σ) rfl ?_
    exact (L_Mod_today_18 a1 1 σ n tl)
  · refine ox_R_to 2 (Y := ox_ev m_Mod_today (ox_zz ox_ms (n + 1)) 18 0 tl [.inr (.inr (10, 0, 0)), .inl (a1), ox_d] [.inl (0), .inr (.inr (10, 0, 0))] σ) rfl ?_
    exact (L_Mod_today_18 a1 0 σ n tl)
def J_Mod_isOn_25  (σ : ox_H) : Option (Int × ox_H) := some (0, σ)
theorem L_Mod_isOn_25  (σ : ox_H) (n tl : Nat) : ox_R (fun r => some ((fun r : Int × ox_H => ((.inl (some (.inl r.1)), r.2) : ox_O)) r)) (J_Mod_isOn_25 σ) (ox_ev m_Mod_isOn (ox_zz ox_ms (n + 5)) 25 0 tl [ox_d, ox_d, ox_d, ox_d] [] σ) := by
  unfold J_Mod_isOn_25
  refine ox_R_to 2 (Y := some (.inl (some (.inl (0))), σ)) rfl ?_
  exact ox_R_ret rfl
def J_Mod_isOn_73  (s0 : Int) (σ : ox_H) : Option (Int × ox_H) := some (s0 % 2, σ)
theorem L_Mod_isOn_73  (s0 : Int) (σ : ox_H) (n tl : Nat) : ox_R (fun r => some ((fun r : Int × ox_H => ((.inl (some (.inl r.1)), r.2) : ox_O)) r)) (J_Mod_isOn_73 s0 σ) (ox_ev m_Mod_isOn (ox_zz ox_ms (n + 5)) 73 0 tl [ox_d, ox_d, ox_d, ox_d] [.inl (s0)] σ) := by
  unfold J_Mod_isOn_73
  refine ox_R_to 1 (Y := some (.inl (some (.inl (s0 % 2))), σ)) rfl ?_
  exact ox_R_ret rfl
def J_Mod_isOn_54  (s0 : Int) (σ : ox_H) : Option (Int × ox_H) := if (ox_w ((σ 10 0 18 0) - (σ 10 0 17 0))) < s0 then (J_Mod_isOn_73 0 σ) else (J_Mod_isOn_73 1 σ)
theorem L_Mod_isOn_54  (s0 : Int) (σ : ox_H) (n tl : Nat) : ox_R (fun r => some ((fun r : Int × ox_H => ((.inl (some (.inl r.1)), r.2) : ox_O)) r)) (J_Mod_isOn_54 s0 σ) (ox_ev m_Mod_isOn (ox_zz ox_ms (n + 5)) 54 0 tl [.inr (.inr (10, 0, 0)), ox_d, ox_d, ox_d] [.inl (s0)] σ) := by
  unfold J_Mod_isOn_54
  refine ox_R_to 8 (Y := if (ox_w ((σ 10 0 18 0) - (σ 10 0 17 0))) < s0 then ox_ev m_Mod_isOn (ox_zz ox_ms (n + 5)) 72 0 tl [.inr (.inr (10, 0, 0)), ox_d, ox_d, .inl (s0)] [] σ else ox_ev m_Mod_isOn (ox_zz ox_ms (n + 5)) 68 0 tl [.inr (.inr (10, 0, 0)), ox_d, ox_d, .inl (s0)] [] σ) rfl ?_
  refine ox_R_if (fun _ => ?_) (fun _ => ?_)
  · refine ox_R_to 1 (Y := ox_ev m_Mod_isOn (ox_zz ox_ms (n + 5)) 73 0 tl [ox_d, ox_d, ox_d, ox_d] [.inl (0)] σ) rfl ?_
    exact (L_Mod_isOn_73 0 σ n tl)
  · refine ox_R_to 2 (Y := ox_ev m_Mod_isOn (ox_zz ox_ms (n + 5)) 73 0 tl [ox_d, ox_d, ox_d, ox_d] [.inl (1)] σ) rfl ?_
    exact (L_Mod_isOn_73 1 σ n tl)
def F_Mod_isOn  (a1 : Int) (a2 : Int) (σ : ox_H) : Option (Int × ox_H) := (F_Mod_stateOf a1 σ).bind fun r1 => (if 1 < r1.1 then (J_Mod_isOn_25 r1.2) else ((F_Mod_dateOf a1 r1.2).bind fun r2 => (if r2.1 < 0 then (J_Mod_isOn_25 r2.2) else (if (r2.2 10 0 17 0) ≤ a2 then (if (r2.2 10 0 19 0) ≤ 0 then (J_Mod_isOn_54 (ox_w (a2 - (r2.2 10 0 17 0))) r2.2) else (if (r2.2 10 0 19 0) = 0 then none else (J_Mod_isOn_54 (Int.tmod (ox_w (a2 - (r2.2 10 0 17 0))) (r2.2 10 0 19 0)) r2.2))) else (J_Mod_isOn_25 r2.2)))))
theorem L_Mod_isOn  (a1 : Int) (a2 : Int) (σ : ox_H) (n tl : Nat) : ox_R (fun r => some ((fun r : Int × ox_H => ((.inl (some (.inl r.1)), r.2) : ox_O)) r)) (F_Mod_isOn a1 a2 σ) (ox_zz ox_ms (n + 6) 106 tl [.inr (.inr (10, 0, 0)), .inl (a1), .inl (a2)] σ) := by
  unfold F_Mod_isOn
  refine ox_R_of (Y := ox_ev m_Mod_isOn (ox_zz ox_ms (n + 5)) 0 0 tl [.inr (.inr (10, 0, 0)), .inl (a1), .inl (a2), ox_d] [] σ) rfl ?_
  refine ox_R_to 3 (Y := ox_back m_Mod_isOn 2 1 [] ((ox_zz ox_ms (n + 5)) 75 tl [.inr (.inr (10, 0, 0)), .inl (a1)] σ) (fun pc9 x9 st9 σ9 => ox_ev m_Mod_isOn (ox_zz ox_ms (n + 5)) pc9 0 tl (ox_kl (m_Mod_isOn.2.2.1 pc9) (ox_xl x9 [.inr (.inr (10, 0, 0)), .inl (a1), .inl (a2), ox_d])) st9 σ9)) rfl ?_
  refine ox_R_call (fc := (fun r : Int × ox_H => ((.inl (some (.inl r.1)), r.2) : ox_O))) (L_Mod_stateOf a1 σ (n + 0) tl) (fun r1 => ?_)
  refine ox_R_of (Y := ox_ev m_Mod_isOn (ox_zz ox_ms (n + 5)) 5 0 tl [.inr (.inr (10, 0, 0)), .inl (a1), .inl (a2), ox_d] [.inl (r1.1)] r1.2) rfl ?_
  refine ox_R_to 2 (Y := if 1 < r1.1 then ox_ev m_Mod_isOn (ox_zz ox_ms (n + 5)) 25 0 tl [ox_d, ox_d, ox_d, ox_d] [] r1.2 else ox_ev m_Mod_isOn (ox_zz ox_ms (n + 5)) 9 0 tl [.inr (.inr (10, 0, 0)), .inl (a1), .inl (a2), ox_d] [] r1.2) rfl ?_
  refine ox_R_if (fun _ => ?_) (fun _ => ?_)
  · exact (L_Mod_isOn_25 r1.2 n tl)
  · refine ox_R_to 3 (Y := ox_back m_Mod_isOn 11 1 [] ((ox_zz ox_ms (n + 5)) 80 tl [.inr (.inr (10, 0, 0)), .inl (a1)] r1.2) (fun pc9 x9 st9 σ9 => ox_ev m_Mod_isOn (ox_zz ox_ms (n + 5)) pc9 0 tl (ox_kl (m_Mod_isOn.2.2.1 pc9) (ox_xl x9 [.inr (.inr (10, 0, 0)), .inl (a1), .inl (a2), ox_d])) st9 σ9)) rfl ?_
    refine ox_R_call (fc := (fun r : Int × ox_H => ((.inl (some (.inl r.1)), r.2) : ox_O))) (L_Mod_dateOf a1 r1.2 (n + 0) tl) (fun r2 => ?_)
    refine ox_R_of (Y := ox_ev m_Mod_isOn (ox_zz ox_ms (n + 5)) 14 0 tl [.inr (.inr (10, 0, 0)), .inl (a1), .inl (a2), ox_d] [.inl (r2.1)] r2.2) rfl ?_
    refine ox_R_to 1 (Y := if r2.1 < 0 then ox_ev m_Mod_isOn (ox_zz ox_ms (n + 5)) 25 0 tl [ox_d, ox_d, ox_d, ox_d] [] r2.2 else ox_ev m_Mod_isOn (ox_zz ox_ms (n + 5)) 17 0 tl [.inr (.inr (10, 0, 0)), .inl (a1), .inl (a2), ox_d] [] r2.2) rfl ?_
    refine ox_R_if (fun _ => ?_) (fun _ => ?_)
    · exact (L_Mod_isOn_25 r2.2 n tl)
    · refine ox_R_to 4 (Y := if (r2.2 10 0 17 0) ≤ a2 then ox_ev m_Mod_isOn (ox_zz ox_ms (n + 5)) 27 0 tl [.inr (.inr (10, 0, 0)), .inl (a1), .inl (a2), ox_d] [] r2.2 else ox_ev m_Mod_isOn (ox_zz ox_ms (n + 5)) 25 0 tl [ox_d, ox_d, ox_d, ox_d] [] r2.2) rfl ?_
      refine ox_R_if (fun _ => ?_) (fun _ => ?_)
      · refine ox_R_to 3 (Y := if (r2.2 10 0 19 0) ≤ 0 then ox_ev m_Mod_isOn (ox_zz ox_ms (n + 5)) 48 0 tl [.inr (.inr (10, 0, 0)), .inl (a1), .inl (a2), ox_d] [] r2.2 else ox_ev m_Mod_isOn (ox_zz ox_ms (n + 5)) 34 0 tl [.inr (.inr (10, 0, 0)), .inl (a1), .inl (a2), ox_d] [] r2.2) rfl ?_
        refine ox_R_if (fun _ => ?_) (fun _ => ?_)
        · refine ox_R_to 4 (Y := ox_ev m_Mod_isOn (ox_zz ox_ms (n + 5)) 54 0 tl [.inr (.inr (10, 0, 0)), ox_d, ox_d, ox_d] [.inl (ox_w (a2 - (r2.2 10 0 17 0)))] r2.2) rfl ?_
          exact (L_Mod_isOn_54 (ox_w (a2 - (r2.2 10 0 17 0))) r2.2 n tl)
        · refine ox_R_to 7 (Y := if (r2.2 10 0 19 0) = 0 then none else ox_ev m_Mod_isOn (ox_zz ox_ms (n + 5)) 45 0 tl [.inr (.inr (10, 0, 0)), .inl (a1), .inl (a2), ox_d] [.inl (Int.tmod (ox_w (a2 - (r2.2 10 0 17 0))) (r2.2 10 0 19 0))] r2.2) rfl ?_
          refine ox_R_if (fun _ => ox_R_none) (fun _ => ?_)
          refine ox_R_to 1 (Y := ox_ev m_Mod_isOn (ox_zz ox_ms (n + 5)) 54 0 tl [.inr (.inr (10, 0, 0)), ox_d, ox_d, ox_d] [.inl (Int.tmod (ox_w (a2 - (r2.2 10 0 17 0))) (r2.2 10 0 19 0))] r2.2) rfl ?_
          exact (L_Mod_isOn_54 (Int.tmod (ox_w (a2 - (r2.2 10 0 17 0))) (r2.2 10 0 19 0)) r2.2 n tl)
      · exact (L_Mod_isOn_25 r2.2 n tl)
def J_Mod_agenda_141  (σ : ox_H) : Option (Int × ox_H) := some ((-1), σ)
theorem L_Mod_agenda_141  (σ : ox_H) (n tl : Nat) : ox_R (fun r => some ((fun r : Int × ox_H => ((.inl (some (.inl r.1)), r.2) : ox_O)) r)) (J_Mod_agenda_141 σ) (ox_ev m_Mod_agenda (ox_zz ox_ms (n + 7)) 141 0 tl [ox_d, ox_d, ox_d, ox_d, ox_d, ox_d, ox_d, ox_d, ox_d] [] σ) := by
  unfold J_Mod_agenda_141
  refine ox_R_to 2 (Y := some (.inl (some (.inl ((-1)))), σ)) rfl ?_
  exact ox_R_ret rfl
def J_Mod_agenda_135  (v1 : Int) (v2 : Int) (v3 : Int) (v6 : Int) (v7 : Int) (σ : ox_H) : Option (((Int × Int × ox_H) ⊕ Int × ox_H)) := some (.inl (v6, ox_w (v7 + 1), σ))
theorem L_Mod_agenda_135  (v1 : Int) (v2 : Int) (v3 : Int) (v6 : Int) (v7 : Int) (σ : ox_H) (n tl : Nat) : ox_R (Sum.elim (fun (s : Int × Int × ox_H) => match s with | (v6, v7, σ) => ox_ev m_Mod_agenda (ox_zz ox_ms (n + 7)) 82 0 tl [.inr (.inr (10, 0, 0)), .inl (v1), .inl (v2), .inl (v3), ox_d, ox_d, .inl (v6), .inl (v7), ox_d] [] σ) (fun r => some ((fun r : Int × ox_H => ((.inl (some (.inl r.1)), r.2) : ox_O)) r))) (J_Mod_agenda_135 v1 v2 v3 v6 v7 σ) (ox_ev m_Mod_agenda (ox_zz ox_ms (n + 7)) 135 0 tl [.inr (.inr (10, 0, 0)), .inl (v1), .inl (v2), .inl (v3), ox_d, ox_d, .inl (v6), .inl (v7), ox_d] [] σ) := by
  unfold J_Mod_agenda_135
  refine ox_R_to 2 (Y := ox_ev m_Mod_agenda (ox_zz ox_ms (n + 7)) 82 0 tl [.inr (.inr (10, 0, 0)), .inl (v1), .inl (v2), .inl (v3), ox_d, ox_d, .inl (v6), .inl (ox_w (v7 + 1)), ox_d] [] σ) rfl ?_
  exact ox_R_ret rfl
def J_Mod_agenda_129  (v7 : Int) (σ : ox_H) : Option (Int × ox_H) := some (v7, σ)
theorem L_Mod_agenda_129  (v7 : Int) (σ : ox_H) (n tl : Nat) : ox_R (fun r => some ((fun r : Int × ox_H => ((.inl (some (.inl r.1)), r.2) : ox_O)) r)) (J_Mod_agenda_129 v7 σ) (ox_ev m_Mod_agenda (ox_zz ox_ms (n + 7)) 129 0 tl [ox_d, ox_d, ox_d, ox_d, ox_d, ox_d, ox_d, .inl (v7), ox_d] [] σ) := by
  unfold J_Mod_agenda_129
  refine ox_R_to 2 (Y := some (.inl (some (.inl (v7))), σ)) rfl ?_
  exact ox_R_ret rfl
def B_Mod_agenda_82  (v1 : Int) (v2 : Int) (v3 : Int) : (Int × Int × ox_H) → Option (((Int × Int × ox_H) ⊕ Int × ox_H)) := fun (v6, v7, σ) => if (σ 10 0 22 0) ≤ v7 then ((J_Mod_agenda_141 σ).map .inr) else ((F_Mod_tagsOf v7 σ).bind fun r1 => ((F_Mod_isOn v7 v1 r1.2).bind fun r2 => (if r2.1 = 0 then (J_Mod_agenda_135 v1 v2 v3 v6 v7 r2.2) else (if (ox_and r1.1 v2) = v2 then (if (ox_and r1.1 v3) = 0 then (if v6 = 0 then ((J_Mod_agenda_129 v7 r2.2).map .inr) else (J_Mod_agenda_135 v1 v2 v3 (ox_w (v6 + (-1))) v7 r2.2)) else (J_Mod_agenda_135 v1 v2 v3 v6 v7 r2.2)) else (J_Mod_agenda_135 v1 v2 v3 v6 v7 r2.2)))))
def J_Mod_agenda_82  (v1 : Int) (v2 : Int) (v3 : Int) (v6 : Int) (v7 : Int) (σ : ox_H) : Option (Int × ox_H) := ox_lp (B_Mod_agenda_82 v1 v2 v3) ox_fu (v6, v7, σ)
theorem L_Mod_agenda_82  (v1 : Int) (v2 : Int) (v3 : Int) (v6 : Int) (v7 : Int) (σ : ox_H) (n tl : Nat) : ox_R (fun r => some ((fun r : Int × ox_H => ((.inl (some (.inl r.1)), r.2) : ox_O)) r)) (J_Mod_agenda_82 v1 v2 v3 v6 v7 σ) (ox_ev m_Mod_agenda (ox_zz ox_ms (n + 7)) 82 0 tl [.inr (.inr (10, 0, 0)), .inl (v1), .inl (v2), .inl (v3), ox_d, ox_d, .inl (v6), .inl (v7), ox_d] [] σ) := by
  unfold J_Mod_agenda_82
  refine ox_R_lp (ψ := (fun (s : Int × Int × ox_H) => match s with | (v6, v7, σ) => ox_ev m_Mod_agenda (ox_zz ox_ms (n + 7)) 82 0 tl [.inr (.inr (10, 0, 0)), .inl (v1), .inl (v2), .inl (v3), ox_d, ox_d, .inl (v6), .inl (v7), ox_d] [] σ)) ?_ ox_fu (v6, v7, σ)
  intro s
  obtain ⟨v6, v7, σ⟩ := s
  unfold B_Mod_agenda_82
  refine ox_R_to 4 (Y := if (σ 10 0 22 0) ≤ v7 then ox_ev m_Mod_agenda (ox_zz ox_ms (n + 7)) 141 0 tl [ox_d, ox_d, ox_d, ox_d, ox_d, ox_d, ox_d, ox_d, ox_d] [] σ else ox_ev m_Mod_agenda (ox_zz ox_ms (n + 7)) 91 0 tl [.inr (.inr (10, 0, 0)), .inl (v1), .inl (v2), .inl (v3), ox_d, ox_d, .inl (v6), .inl (v7), ox_d] [] σ) rfl ?_
  refine ox_R_if (fun _ => ?_) (fun _ => ?_)
  · exact ox_R_map ((L_Mod_agenda_141 σ n tl))
  · refine ox_R_to 3 (Y := ox_back m_Mod_agenda 94 1 [] ((ox_zz ox_ms (n + 7)) 79 tl [.inr (.inr (10, 0, 0)), .inl (v7)] σ) (fun pc9 x9 st9 σ9 => ox_ev m_Mod_agenda (ox_zz ox_ms (n + 7)) pc9 0 tl (ox_kl (m_Mod_agenda.2.2.1 pc9) (ox_xl x9 [.inr (.inr (10, 0, 0)), .inl (v1), .inl (v2), .inl (v3), ox_d, ox_d, .inl (v6), .inl (v7), ox_d])) st9 σ9)) rfl ?_
    refine ox_R_call (fc := (fun r : Int × ox_H => ((.inl (some (.inl r.1)), r.2) : ox_O))) (L_Mod_tagsOf v7 σ (n + 0) tl) (fun r1 => ?_)
    refine ox_R_of (Y := ox_ev m_Mod_agenda (ox_zz ox_ms (n + 7)) 97 0 tl [.inr (.inr (10, 0, 0)), .inl (v1), .inl (v2), .inl (v3), ox_d, ox_d, .inl (v6), .inl (v7), ox_d] [.inl (r1.1)] r1.2) rfl ?_
    refine ox_R_to 5 (Y := ox_back m_Mod_agenda 103 1 [] ((ox_zz ox_ms (n + 7)) 106 tl [.inr (.inr (10, 0, 0)), .inl (v7), .inl (v1)] r1.2) (fun pc9 x9 st9 σ9 => ox_ev m_Mod_agenda (ox_zz ox_ms (n + 7)) pc9 0 tl (ox_kl (m_Mod_agenda.2.2.1 pc9) (ox_xl x9 [.inr (.inr (10, 0, 0)), .inl (v1), .inl (v2), .inl (v3), ox_d, ox_d, .inl (v6), .inl (v7), .inl (r1.1)])) st9 σ9)) rfl ?_
    refine ox_R_call (fc := (fun r : Int × ox_H => ((.inl (some (.inl r.1)), r.2) : ox_O))) (L_Mod_isOn v7 v1 r1.2 (n + 1) tl) (fun r2 => ?_)
    refine ox_R_of (Y := ox_ev m_Mod_agenda (ox_zz ox_ms (n + 7)) 106 0 tl [.inr (.inr (10, 0, 0)), .inl (v1), .inl (v2), .inl (v3), ox_d, ox_d, .inl (v6), .inl (v7), .inl (r1.1)] [.inl (r2.1)] r2.2) rfl ?_
    refine ox_R_to 1 (Y := if r2.1 = 0 then ox_ev m_Mod_agenda (ox_zz ox_ms (n + 7)) 135 0 tl [.inr (.inr (10, 0, 0)), .inl (v1), .inl (v2), .inl (v3), ox_d, ox_d, .inl (v6), .inl (v7), ox_d] [] r2.2 else ox_ev m_Mod_agenda (ox_zz ox_ms (n + 7)) 109 0 tl [.inr (.inr (10, 0, 0)), .inl (v1), .inl (v2), .inl (v3), ox_d, ox_d, .inl (v6), .inl (v7), .inl (r1.1)] [] r2.2) rfl ?_
    refine ox_R_if (fun _ => ?_) (fun _ => ?_)
    · exact (L_Mod_agenda_135 v1 v2 v3 v6 v7 r2.2 n tl)
    · refine ox_R_to 5 (Y := if (ox_and r1.1 v2) = v2 then ox_ev m_Mod_agenda (ox_zz ox_ms (n + 7)) 117 0 tl [.inr (.inr (10, 0, 0)), .inl (v1), .inl (v2), .inl (v3), ox_d, ox_d, .inl (v6), .inl (v7), .inl (r1.1)] [] r2.2 else ox_ev m_Mod_agenda (ox_zz ox_ms (n + 7)) 135 0 tl [.inr (.inr (10, 0, 0)), .inl (v1), .inl (v2), .inl (v3), ox_d, ox_d, .inl (v6), .inl (v7), ox_d] [] r2.2) rfl ?_
      refine ox_R_if (fun _ => ?_) (fun _ => ?_)
      · refine ox_R_to 4 (Y := if (ox_and r1.1 v3) = 0 then ox_ev m_Mod_agenda (ox_zz ox_ms (n + 7)) 124 0 tl [.inr (.inr (10, 0, 0)), .inl (v1), .inl (v2), .inl (v3), ox_d, ox_d, .inl (v6), .inl (v7), .inl (r1.1)] [] r2.2 else ox_ev m_Mod_agenda (ox_zz ox_ms (n + 7)) 135 0 tl [.inr (.inr (10, 0, 0)), .inl (v1), .inl (v2), .inl (v3), ox_d, ox_d, .inl (v6), .inl (v7), ox_d] [] r2.2) rfl ?_
        refine ox_R_if (fun _ => ?_) (fun _ => ?_)
        · refine ox_R_to 2 (Y := if v6 = 0 then ox_ev m_Mod_agenda (ox_zz ox_ms (n + 7)) 129 0 tl [ox_d, ox_d, ox_d, ox_d, ox_d, ox_d, ox_d, .inl (v7), ox_d] [] r2.2 else ox_ev m_Mod_agenda (ox_zz ox_ms (n + 7)) 132 0 tl [.inr (.inr (10, 0, 0)), .inl (v1), .inl (v2), .inl (v3), ox_d, ox_d, .inl (v6), .inl (v7), .inl (r1.1)] [] r2.2) rfl ?_
          refine ox_R_if (fun _ => ?_) (fun _ => ?_)
          · exact ox_R_map ((L_Mod_agenda_129 v7 r2.2 n tl))
          · refine ox_R_to 1 (Y := ox_ev m_Mod_agenda (ox_zz ox_ms (n + 7)) 135 0 tl [.inr (.inr (10, 0, 0)), .inl (v1), .inl (v2), .inl (v3), ox_d, ox_d, .inl (ox_w (v6 + (-1))), .inl (v7), ox_d] [] r2.2) rfl ?_
            exact (L_Mod_agenda_135 v1 v2 v3 (ox_w (v6 + (-1))) v7 r2.2 n tl)
        · exact (L_Mod_agenda_135 v1 v2 v3 v6 v7 r2.2 n tl)
      · exact (L_Mod_agenda_135 v1 v2 v3 v6 v7 r2.2 n tl)
def J_Mod_agenda_63  (v1 : Int) (v2 : Int) (v3 : Int) (v4 : Int) (s0 : Int) (σ : ox_H) : Option (Int × ox_H) := (F_Mod_holds s0 σ).bind fun r3 => (if r3.1 = 0 then ((F_Mod_find r3.2).bind fun r4 => (J_Mod_agenda_82 v1 v2 v3 v4 0 r4)) else (some ((-1), r3.2)))
theorem L_Mod_agenda_63  (v1 : Int) (v2 : Int) (v3 : Int) (v4 : Int) (s0 : Int) (σ : ox_H) (n tl : Nat) : ox_R (fun r => some ((fun r : Int × ox_H => ((.inl (some (.inl r.1)), r.2) : ox_O)) r)) (J_Mod_agenda_63 v1 v2 v3 v4 s0 σ) (ox_ev m_Mod_agenda (ox_zz ox_ms (n + 7)) 63 0 tl [.inr (.inr (10, 0, 0)), .inl (v1), .inl (v2), .inl (v3), .inl (v4), ox_d, ox_d, ox_d, ox_d] [.inl (s0), .inr (.inr (10, 0, 0))] σ) := by
  unfold J_Mod_agenda_63
  refine ox_R_to 1 (Y := ox_back m_Mod_agenda 63 1 [] ((ox_zz ox_ms (n + 7)) 43 tl [.inr (.inr (10, 0, 0)), .inl (s0)] σ) (fun pc9 x9 st9 σ9 => ox_ev m_Mod_agenda (ox_zz ox_ms (n + 7)) pc9 0 tl (ox_kl (m_Mod_agenda.2.2.1 pc9) (ox_xl x9 [.inr (.inr (10, 0, 0)), .inl (v1), .inl (v2), .inl (v3), .inl (v4), ox_d, ox_d, ox_d, ox_d])) st9 σ9)) rfl ?_
  refine ox_R_call (fc := (fun r : Int × ox_H => ((.inl (some (.inl r.1)), r.2) : ox_O))) (L_Mod_holds s0 σ (n + 6) tl) (fun r3 => ?_)
  refine ox_R_of (Y := ox_ev m_Mod_agenda (ox_zz ox_ms (n + 7)) 66 0 tl [.inr (.inr (10, 0, 0)), .inl (v1), .inl (v2), .inl (v3), .inl (v4), ox_d, ox_d, ox_d, ox_d] [.inl (r3.1)] r3.2) rfl ?_
  refine ox_R_to 1 (Y := if r3.1 = 0 then ox_ev m_Mod_agenda (ox_zz ox_ms (n + 7)) 71 0 tl [.inr (.inr (10, 0, 0)), .inl (v1), .inl (v2), .inl (v3), .inl (v4), ox_d, ox_d, ox_d, ox_d] [] r3.2 else ox_ev m_Mod_agenda (ox_zz ox_ms (n + 7)) 69 0 tl [.inr (.inr (10, 0, 0)), .inl (v1), .inl (v2), .inl (v3), .inl (v4), ox_d, ox_d, ox_d, ox_d] [] r3.2) rfl ?_
  refine ox_R_if (fun _ => ?_) (fun _ => ?_)
  · refine ox_R_to 2 (Y := ox_back m_Mod_agenda 72 0 [] ((ox_zz ox_ms (n + 7)) 72 tl [.inr (.inr (10, 0, 0))] r3.2) (fun pc9 x9 st9 σ9 => ox_ev m_Mod_agenda (ox_zz ox_ms (n + 7)) pc9 0 tl (ox_kl (m_Mod_agenda.2.2.1 pc9) (ox_xl x9 [.inr (.inr (10, 0, 0)), .inl (v1), .inl (v2), .inl (v3), .inl (v4), ox_d, ox_d, ox_d, ox_d])) st9 σ9)) rfl ?_
    refine ox_R_call (fc := (fun r : ox_H => ((.inl none, r) : ox_O))) (L_Mod_find r3.2 (n + 2) tl) (fun r4 => ?_)
    refine ox_R_of (Y := ox_ev m_Mod_agenda (ox_zz ox_ms (n + 7)) 75 0 tl [.inr (.inr (10, 0, 0)), .inl (v1), .inl (v2), .inl (v3), .inl (v4), ox_d, ox_d, ox_d, ox_d] [] r4) rfl ?_
    refine ox_R_to 4 (Y := ox_ev m_Mod_agenda (ox_zz ox_ms (n + 7)) 82 0 tl [.inr (.inr (10, 0, 0)), .inl (v1), .inl (v2), .inl (v3), ox_d, ox_d, .inl (v4), .inl (0), ox_d] [] r4) rfl ?_
    exact (L_Mod_agenda_82 v1 v2 v3 v4 0 r4 n tl)
  · refine ox_R_to 2 (Y := some (.inl (some (.inl ((-1)))), r3.2)) rfl ?_
    exact ox_R_ret rfl
def J_Mod_agenda_41  (v1 : Int) (v2 : Int) (v3 : Int) (v4 : Int) (s0 : Int) (σ : ox_H) : Option (Int × ox_H) := if 0 ≤ v4 then (if s0 = 0 then (J_Mod_agenda_63 v1 v2 v3 v4 2 σ) else (J_Mod_agenda_63 v1 v2 v3 v4 0 σ)) else (J_Mod_agenda_63 v1 v2 v3 v4 1 σ)
theorem L_Mod_agenda_41  (v1 : Int) (v2 : Int) (v3 : Int) (v4 : Int) (s0 : Int) (σ : ox_H) (n tl : Nat) : ox_R (fun r => some ((fun r : Int × ox_H => ((.inl (some (.inl r.1)), r.2) : ox_O)) r)) (J_Mod_agenda_41 v1 v2 v3 v4 s0 σ) (ox_ev m_Mod_agenda (ox_zz ox_ms (n + 7)) 41 0 tl [.inr (.inr (10, 0, 0)), .inl (v1), .inl (v2), .inl (v3), .inl (v4), ox_d, ox_d, ox_d, ox_d] [.inl (s0)] σ) := by
  unfold J_Mod_agenda_41
  refine ox_R_to 4 (Y := if 0 ≤ v4 then ox_ev m_Mod_agenda (ox_zz ox_ms (n + 7)) 53 0 tl [.inr (.inr (10, 0, 0)), .inl (v1), .inl (v2), .inl (v3), .inl (v4), .inl (s0), ox_d, ox_d, ox_d] [.inr (.inr (10, 0, 0))] σ else ox_ev m_Mod_agenda (ox_zz ox_ms (n + 7)) 49 0 tl [.inr (.inr (10, 0, 0)), .inl (v1), .inl (v2), .inl (v3), .inl (v4), .inl (s0), ox_d, ox_d, ox_d] [.inr (.inr (10, 0, 0))] σ) rfl ?_
  refine ox_R_if (fun _ => ?_) (fun _ => ?_)
  · refine ox_R_to 2 (Y := if s0 = 0 then ox_ev m_Mod_agenda (ox_zz ox_ms (n + 7)) 62 0 tl [.inr (.inr (10, 0, 0)), .inl (v1), .inl (v2), .inl (v3), .inl (v4), .inl (s0), ox_d, ox_d, ox_d] [.inr (.inr (10, 0, 0))] σ else ox_ev m_Mod_agenda (ox_zz ox_ms (n + 7)) 58 0 tl [.inr (.inr (10, 0, 0)), .inl (v1), .inl (v2), .inl (v3), .inl (v4), .inl (s0), ox_d, ox_d, ox_d] [.inr (.inr (10, 0, 0))] σ) rfl ?_
    refine ox_R_if (fun _ => ?_) (fun _ => ?_)
    · refine ox_R_to 1 (Y := ox_ev m_Mod_agenda (ox_zz ox_ms (n + 7)) 63 0 tl [.inr (.inr (10, 0, 0)), .inl (v1), .inl (v2), .inl (v3), .inl (v4), ox_d, ox_d, ox_d, ox_d] [.inl (2), .inr (.inr (10, 0, 0))] σ) rfl ?_
      exact (L_Mod_agenda_63 v1 v2 v3 v4 2 σ n tl)
    · refine ox_R_to 2 (Y := ox_ev m_Mod_agenda (ox_zz ox_ms (n + 7)) 63 0 tl [.inr (.inr (10, 0, 0)), .inl (v1), .inl (v2), .inl (v3), .inl (v4), ox_d, ox_d, ox_d, ox_d] [.inl (0), .inr (.inr (10, 0, 0))] σ) rfl ?_
      exact (L_Mod_agenda_63 v1 v2 v3 v4 0 σ n tl)
  · refine ox_R_to 2 (Y := ox_ev m_Mod_agenda (ox_zz ox_ms (n + 7)) 63 0 tl [.inr (.inr (10, 0, 0)), .inl (v1), .inl (v2), .inl (v3), .inl (v4), ox_d, ox_d, ox_d, ox_d] [.inl (1), .inr (.inr (10, 0, 0))] σ) rfl ?_
    exact (L_Mod_agenda_63 v1 v2 v3 v4 1 σ n tl)
def J_Mod_agenda_40  (v1 : Int) (v2 : Int) (v3 : Int) (v4 : Int) (σ : ox_H) : Option (Int × ox_H) := (J_Mod_agenda_41 v1 v2 v3 v4 0 σ)
theorem L_Mod_agenda_40  (v1 : Int) (v2 : Int) (v3 : Int) (v4 : Int) (σ : ox_H) (n tl : Nat) : ox_R (fun r => some ((fun r : Int × ox_H => ((.inl (some (.inl r.1)), r.2) : ox_O)) r)) (J_Mod_agenda_40 v1 v2 v3 v4 σ) (ox_ev m_Mod_agenda (ox_zz ox_ms (n + 7)) 40 0 tl [.inr (.inr (10, 0, 0)), .inl (v1), .inl (v2), .inl (v3), .inl (v4), ox_d, ox_d, ox_d, ox_d] [] σ) := by
  unfold J_Mod_agenda_40
  refine ox_R_to 1 (Y := ox_ev m_Mod_agenda (ox_zz ox_ms (n + 7)) 41 0 tl [.inr (.inr (10, 0, 0)), .inl (v1), .inl (v2), .inl (v3), .inl (v4), ox_d, ox_d, ox_d, ox_d] [.inl (0)] σ) rfl ?_
  exact (L_Mod_agenda_41 v1 v2 v3 v4 0 σ n tl)
def F_Mod_agenda  (a1 : Int) (a2 : Int) (a3 : Int) (a4 : Int) (σ : ox_H) : Option (Int × ox_H) := (F_Mod_in a1 0 9999 σ).bind fun r5 => (if r5 = 0 then (J_Mod_agenda_40 a1 a2 a3 a4 σ) else ((F_Mod_in a2 0 (ox_c 67108863 0) σ).bind fun r6 => (if r6 = 0 then (J_Mod_agenda_40 a1 a2 a3 a4 σ) else ((F_Mod_in a3 0 (ox_c 67108863 0) σ).bind fun r7 => (if r7 = 0 then (J_Mod_agenda_40 a1 a2 a3 a4 σ) else (J_Mod_agenda_41 a1 a2 a3 a4 1 σ))))))
theorem L_Mod_agenda  (a1 : Int) (a2 : Int) (a3 : Int) (a4 : Int) (σ : ox_H) (n tl : Nat) : ox_R (fun r => some ((fun r : Int × ox_H => ((.inl (some (.inl r.1)), r.2) : ox_O)) r)) (F_Mod_agenda a1 a2 a3 a4 σ) (ox_zz ox_ms (n + 8) 107 tl [.inr (.inr (10, 0, 0)), .inl (a1), .inl (a2), .inl (a3), .inl (a4)] σ) := by
  unfold F_Mod_agenda
  refine ox_R_of (Y := ox_ev m_Mod_agenda (ox_zz ox_ms (n + 7)) 0 0 tl [.inr (.inr (10, 0, 0)), .inl (a1), .inl (a2), .inl (a3), .inl (a4), ox_d, ox_d, ox_d, ox_d] [] σ) rfl ?_
  refine ox_R_to 5 (Y := ox_back m_Mod_agenda 6 1 [] ((ox_zz ox_ms (n + 7)) 44 tl [.inr (.inr (10, 0, 0)), .inl (a1), .inl (0), .inl (9999)] σ) (fun pc9 x9 st9 σ9 => ox_ev m_Mod_agenda (ox_zz ox_ms (n + 7)) pc9 0 tl (ox_kl (m_Mod_agenda.2.2.1 pc9) (ox_xl x9 [.inr (.inr (10, 0, 0)), .inl (a1), .inl (a2), .inl (a3), .inl (a4), ox_d, ox_d, ox_d, ox_d])) st9 σ9)) rfl ?_
  refine ox_R_call (fc := (fun r : Int => ((.inl (some (.inl r)), σ) : ox_O))) (L_Mod_in a1 0 9999 σ (n + 6) tl) (fun r5 => ?_)
  refine ox_R_of (Y := ox_ev m_Mod_agenda (ox_zz ox_ms (n + 7)) 9 0 tl [.inr (.inr (10, 0, 0)), .inl (a1), .inl (a2), .inl (a3), .inl (a4), ox_d, ox_d, ox_d, ox_d] [.inl (r5)] σ) rfl ?_
  refine ox_R_to 1 (Y := if r5 = 0 then ox_ev m_Mod_agenda (ox_zz ox_ms (n + 7)) 40 0 tl [.inr (.inr (10, 0, 0)), .inl (a1), .inl (a2), .inl (a3), .inl (a4), ox_d, ox_d, ox_d, ox_d] [] σ else ox_ev m_Mod_agenda (ox_zz ox_ms (n + 7)) 12 0 tl [.inr (.inr (10, 0, 0)), .inl (a1), .inl (a2), .inl (a3), .inl (a4), ox_d, ox_d, ox_d, ox_d] [] σ) rfl ?_
  refine ox_R_if (fun _ => ?_) (fun _ => ?_)
  · exact (L_Mod_agenda_40 a1 a2 a3 a4 σ n tl)
  · refine ox_R_to 5 (Y := ox_back m_Mod_agenda 18 1 [] ((ox_zz ox_ms (n + 7)) 44 tl [.inr (.inr (10, 0, 0)), .inl (a2), .inl (0), .inl (ox_c 67108863 0)] σ) (fun pc9 x9 st9 σ9 => ox_ev m_Mod_agenda (ox_zz ox_ms (n + 7)) pc9 0 tl (ox_kl (m_Mod_agenda.2.2.1 pc9) (ox_xl x9 [.inr (.inr (10, 0, 0)), .inl (a1), .inl (a2), .inl (a3), .inl (a4), ox_d, ox_d, ox_d, ox_d])) st9 σ9)) rfl ?_
    refine ox_R_call (fc := (fun r : Int => ((.inl (some (.inl r)), σ) : ox_O))) (L_Mod_in a2 0 (ox_c 67108863 0) σ (n + 6) tl) (fun r6 => ?_)
    refine ox_R_of (Y := ox_ev m_Mod_agenda (ox_zz ox_ms (n + 7)) 21 0 tl [.inr (.inr (10, 0, 0)), .inl (a1), .inl (a2), .inl (a3), .inl (a4), ox_d, ox_d, ox_d, ox_d] [.inl (r6)] σ) rfl ?_
    refine ox_R_to 1 (Y := if r6 = 0 then ox_ev m_Mod_agenda (ox_zz ox_ms (n + 7)) 40 0 tl [.inr (.inr (10, 0, 0)), .inl (a1), .inl (a2), .inl (a3), .inl (a4), ox_d, ox_d, ox_d, ox_d] [] σ else ox_ev m_Mod_agenda (ox_zz ox_ms (n + 7)) 24 0 tl [.inr (.inr (10, 0, 0)), .inl (a1), .inl (a2), .inl (a3), .inl (a4), ox_d, ox_d, ox_d, ox_d] [] σ) rfl ?_
    refine ox_R_if (fun _ => ?_) (fun _ => ?_)
    · exact (L_Mod_agenda_40 a1 a2 a3 a4 σ n tl)
    · refine ox_R_to 5 (Y := ox_back m_Mod_agenda 30 1 [] ((ox_zz ox_ms (n + 7)) 44 tl [.inr (.inr (10, 0, 0)), .inl (a3), .inl (0), .inl (ox_c 67108863 0)] σ) (fun pc9 x9 st9 σ9 => ox_ev m_Mod_agenda (ox_zz ox_ms (n + 7)) pc9 0 tl (ox_kl (m_Mod_agenda.2.2.1 pc9) (ox_xl x9 [.inr (.inr (10, 0, 0)), .inl (a1), .inl (a2), .inl (a3), .inl (a4), ox_d, ox_d, ox_d, ox_d])) st9 σ9)) rfl ?_
      refine ox_R_call (fc := (fun r : Int => ((.inl (some (.inl r)), σ) : ox_O))) (L_Mod_in a3 0 (ox_c 67108863 0) σ (n + 6) tl) (fun r7 => ?_)
      refine ox_R_of (Y := ox_ev m_Mod_agenda (ox_zz ox_ms (n + 7)) 33 0 tl [.inr (.inr (10, 0, 0)), .inl (a1), .inl (a2), .inl (a3), .inl (a4), ox_d, ox_d, ox_d, ox_d] [.inl (r7)] σ) rfl ?_
      refine ox_R_to 1 (Y := if r7 = 0 then ox_ev m_Mod_agenda (ox_zz ox_ms (n + 7)) 40 0 tl [.inr (.inr (10, 0, 0)), .inl (a1), .inl (a2), .inl (a3), .inl (a4), ox_d, ox_d, ox_d, ox_d] [] σ else ox_ev m_Mod_agenda (ox_zz ox_ms (n + 7)) 36 0 tl [.inr (.inr (10, 0, 0)), .inl (a1), .inl (a2), .inl (a3), .inl (a4), ox_d, ox_d, ox_d, ox_d] [] σ) rfl ?_
      refine ox_R_if (fun _ => ?_) (fun _ => ?_)
      · exact (L_Mod_agenda_40 a1 a2 a3 a4 σ n tl)
      · refine ox_R_to 2 (Y := ox_ev m_Mod_agenda (ox_zz ox_ms (n + 7)) 41 0 tl [.inr (.inr (10, 0, 0)), .inl (a1), .inl (a2), .inl (a3), .inl (a4), ox_d, ox_d, ox_d, ox_d] [.inl (1)] σ) rfl ?_
        exact (L_Mod_agenda_41 a1 a2 a3 a4 1 σ n tl)
def J_Mod_pass_34  (v1 : Int) (s0 : Int) (σ : ox_H) : Option (Int × ox_H) := (F_Mod_holds s0 σ).bind fun r1 => (if r1.1 = 0 then (some (ox_w ((r1.2 10 0 24 0) + v1), (ox_up r1.2 10 0 24 0 (ox_w ((r1.2 10 0 24 0) + v1))))) else (some ((-1), r1.2)))
theorem L_Mod_pass_34  (v1 : Int) (s0 : Int) (σ : ox_H) (n tl : Nat) : ox_R (fun r => some ((fun r : Int × ox_H => ((.inl (some (.inl r.1)), r.2) : ox_O)) r)) (J_Mod_pass_34 v1 s0 σ) (ox_ev m_Mod_pass (ox_zz ox_ms (n + 1)) 34 0 tl [.inr (.inr (10, 0, 0)), .inl (v1)] [.inl (s0), .inr (.inr (10, 0, 0))] σ) := by
  unfold J_Mod_pass_34
  refine ox_R_to 1 (Y := ox_back m_Mod_pass 34 1 [] ((ox_zz ox_ms (n + 1)) 43 tl [.inr (.inr (10, 0, 0)), .inl (s0)] σ) (fun pc9 x9 st9 σ9 => ox_ev m_Mod_pass (ox_zz ox_ms (n + 1)) pc9 0 tl (ox_kl (m_Mod_pass.2.2.1 pc9) (ox_xl x9 [.inr (.inr (10, 0, 0)), .inl (v1)])) st9 σ9)) rfl ?_
  refine ox_R_call (fc := (fun r : Int × ox_H => ((.inl (some (.inl r.1)), r.2) : ox_O))) (L_Mod_holds s0 σ (n + 0) tl) (fun r1 => ?_)
  refine ox_R_of (Y := ox_ev m_Mod_pass (ox_zz ox_ms (n + 1)) 37 0 tl [.inr (.inr (10, 0, 0)), .inl (v1)] [.inl (r1.1)] r1.2) rfl ?_
  refine ox_R_to 1 (Y := if r1.1 = 0 then ox_ev m_Mod_pass (ox_zz ox_ms (n + 1)) 42 0 tl [.inr (.inr (10, 0, 0)), .inl (v1)] [] r1.2 else ox_ev m_Mod_pass (ox_zz ox_ms (n + 1)) 40 0 tl [.inr (.inr (10, 0, 0)), .inl (v1)] [] r1.2) rfl ?_
  refine ox_R_if (fun _ => ?_) (fun _ => ?_)
  · refine ox_R_to 9 (Y := some (.inl (some (.inl (ox_w ((r1.2 10 0 24 0) + v1)))), (ox_up r1.2 10 0 24 0 (ox_w ((r1.2 10 0 24 0) + v1))))) rfl ?_
    exact ox_R_ret rfl
  · refine ox_R_to 2 (Y := some (.inl (some (.inl ((-1)))), r1.2)) rfl ?_
    exact ox_R_ret rfl
def F_Mod_pass  (a1 : Int) (σ : ox_H) : Option (Int × ox_H) := (F_Mod_in a1 1 500 σ).bind fun r2 => (if r2 = 0 then (J_Mod_pass_34 a1 1 σ) else (if (ox_w ((σ 10 0 24 0) + a1)) ≤ 9999 then (J_Mod_pass_34 a1 0 σ) else (J_Mod_pass_34 a1 2 σ)))
theorem L_Mod_pass  (a1 : Int) (σ : ox_H) (n tl : Nat) : ox_R (fun r => some ((fun r : Int × ox_H => ((.inl (some (.inl r.1)), r.2) : ox_O)) r)) (F_Mod_pass a1 σ) (ox_zz ox_ms (n + 2) 108 tl [.inr (.inr (10, 0, 0)), .inl (a1)] σ) := by
  unfold F_Mod_pass
  refine ox_R_of (Y := ox_ev m_Mod_pass (ox_zz ox_ms (n + 1)) 0 0 tl [.inr (.inr (10, 0, 0)), .inl (a1)] [] σ) rfl ?_
  refine ox_R_to 6 (Y := ox_back m_Mod_pass 7 1 [.inr (.inr (10, 0, 0))] ((ox_zz ox_ms (n + 1)) 44 tl [.inr (.inr (10, 0, 0)), .inl (a1), .inl (1), .inl (500)] σ) (fun pc9 x9 st9 σ9 => ox_ev m_Mod_pass (ox_zz ox_ms (n + 1)) pc9 0 tl (ox_kl (m_Mod_pass.2.2.1 pc9) (ox_xl x9 [.inr (.inr (10, 0, 0)), .inl (a1)])) st9 σ9)) rfl ?_
  refine ox_R_call (fc := (fun r : Int => ((.inl (some (.inl r)), σ) : ox_O))) (L_Mod_in a1 1 500 σ (n + 0) tl) (fun r2 => ?_)
  refine ox_R_of (Y := ox_ev m_Mod_pass (ox_zz ox_ms (n + 1)) 10 0 tl [.inr (.inr (10, 0, 0)), .inl (a1)] [.inl (r2), .inr (.inr (10, 0, 0))] σ) rfl ?_
  refine ox_R_to 1 (Y := if r2 = 0 then ox_ev m_Mod_pass (ox_zz ox_ms (n + 1)) 13 0 tl [.inr (.inr (10, 0, 0)), .inl (a1)] [.inr (.inr (10, 0, 0))] σ else ox_ev m_Mod_pass (ox_zz ox_ms (n + 1)) 17 0 tl [.inr (.inr (10, 0, 0)), .inl (a1)] [.inr (.inr (10, 0, 0))] σ) rfl ?_
  refine ox_R_if (fun _ => ?_) (fun _ => ?_)
  · refine ox_R_to 2 (Y := ox_ev m_Mod_pass (ox_zz ox_ms (n + 1)) 34 0 tl [.inr (.inr (10, 0, 0)), .inl (a1)] [.inl (1), .inr (.inr (10, 0, 0))] σ) rfl ?_
    exact (L_Mod_pass_34 a1 1 σ n tl)
  · refine ox_R_to 6 (Y := if (ox_w ((σ 10 0 24 0) + a1)) ≤ 9999 then ox_ev m_Mod_pass (ox_zz ox_ms (n + 1)) 33 0 tl [.inr (.inr (10, 0, 0)), .inl (a1)] [.inr (.inr (10, 0, 0))] σ else ox_ev m_Mod_pass (ox_zz ox_ms (n + 1)) 29 0 tl [.inr (.inr (10, 0, 0)), .inl (a1)] [.inr (.inr (10, 0, 0))] σ) rfl ?_
    refine ox_R_if (fun _ => ?_) (fun _ => ?_)
    · refine ox_R_to 1 (Y := ox_ev m_Mod_pass (ox_zz ox_ms (n + 1)) 34 0 tl [.inr (.inr (10, 0, 0)), .inl (a1)] [.inl (0), .inr (.inr (10, 0, 0))] σ) rfl ?_
      exact (L_Mod_pass_34 a1 0 σ n tl)
    · refine ox_R_to 2 (Y := ox_ev m_Mod_pass (ox_zz ox_ms (n + 1)) 34 0 tl [.inr (.inr (10, 0, 0)), .inl (a1)] [.inl (2), .inr (.inr (10, 0, 0))] σ) rfl ?_
      exact (L_Mod_pass_34 a1 2 σ n tl)
def J_Mod_stop_68  (v2 : Int) (σ : ox_H) : Option (Int × ox_H) := some (v2, σ)
theorem L_Mod_stop_68  (v2 : Int) (σ : ox_H) (n tl : Nat) : ox_R (fun r => some ((fun r : Int × ox_H => ((.inl (some (.inl r.1)), r.2) : ox_O)) r)) (J_Mod_stop_68 v2 σ) (ox_ev m_Mod_stop (ox_zz ox_ms (n + 7)) 68 0 tl [ox_d, ox_d, .inl (v2), ox_d] [] σ) := by
  unfold J_Mod_stop_68
  refine ox_R_to 2 (Y := some (.inl (some (.inl (v2))), σ)) rfl ?_
  exact ox_R_ret rfl
def J_Mod_stop_62  (v1 : Int) (v2 : Int) (v3 : Int) (σ : ox_H) : Option (((Int × Int × ox_H) ⊕ Int × ox_H)) := some (.inl (v2, ox_w (v3 + 1), σ))
theorem L_Mod_stop_62  (v1 : Int) (v2 : Int) (v3 : Int) (σ : ox_H) (n tl : Nat) : ox_R (Sum.elim (fun (s : Int × Int × ox_H) => match s with | (v2, v3, σ) => ox_ev m_Mod_stop (ox_zz ox_ms (n + 7)) 4 0 tl [.inr (.inr (10, 0, 0)), .inl (v1), .inl (v2), .inl (v3)] [] σ) (fun r => some ((fun r : Int × ox_H => ((.inl (some (.inl r.1)), r.2) : ox_O)) r))) (J_Mod_stop_62 v1 v2 v3 σ) (ox_ev m_Mod_stop (ox_zz ox_ms (n + 7)) 62 0 tl [.inr (.inr (10, 0, 0)), .inl (v1), .inl (v2), .inl (v3)] [] σ) := by
  unfold J_Mod_stop_62
  refine ox_R_to 2 (Y := ox_ev m_Mod_stop (ox_zz ox_ms (n + 7)) 4 0 tl [.inr (.inr (10, 0, 0)), .inl (v1), .inl (v2), .inl (ox_w (v3 + 1))] [] σ) rfl ?_
  exact ox_R_ret rfl
def J_Mod_stop_56  (v1 : Int) (v2 : Int) (v3 : Int) (s0 : Int) (s1 : Int) (σ : ox_H) : Option (((Int × Int × ox_H) ⊕ Int × ox_H)) := (F_Mod_add s1 s0 σ).bind fun r1 => (J_Mod_stop_62 v1 (ox_w (v2 + 1)) v3 r1)
theorem L_Mod_stop_56  (v1 : Int) (v2 : Int) (v3 : Int) (s0 : Int) (s1 : Int) (σ : ox_H) (n tl : Nat) : ox_R (Sum.elim (fun (s : Int × Int × ox_H) => match s with | (v2, v3, σ) => ox_ev m_Mod_stop (ox_zz ox_ms (n + 7)) 4 0 tl [.inr (.inr (10, 0, 0)), .inl (v1), .inl (v2), .inl (v3)] [] σ) (fun r => some ((fun r : Int × ox_H => ((.inl (some (.inl r.1)), r.2) : ox_O)) r))) (J_Mod_stop_56 v1 v2 v3 s0 s1 σ) (ox_ev m_Mod_stop (ox_zz ox_ms (n + 7)) 56 0 tl [.inr (.inr (10, 0, 0)), .inl (v1), .inl (v2), .inl (v3)] [.inl (s0), .inl (s1), .inr (.inr (10, 0, 0))] σ) := by
  unfold J_Mod_stop_56
  refine ox_R_to 1 (Y := ox_back m_Mod_stop 56 0 [] ((ox_zz ox_ms (n + 7)) 97 tl [.inr (.inr (10, 0, 0)), .inl (s1), .inl (s0)] σ) (fun pc9 x9 st9 σ9 => ox_ev m_Mod_stop (ox_zz ox_ms (n + 7)) pc9 0 tl (ox_kl (m_Mod_stop.2.2.1 pc9) (ox_xl x9 [.inr (.inr (10, 0, 0)), .inl (v1), .inl (v2), .inl (v3)])) st9 σ9)) rfl ?_
  refine ox_R_call (fc := (fun r : ox_H => ((.inl none, r) : ox_O))) (L_Mod_add s1 s0 σ (n + 6) tl) (fun r1 => ?_)
  refine ox_R_of (Y := ox_ev m_Mod_stop (ox_zz ox_ms (n + 7)) 59 0 tl [.inr (.inr (10, 0, 0)), .inl (v1), .inl (v2), .inl (v3)] [] r1) rfl ?_
  refine ox_R_to 1 (Y := ox_ev m_Mod_stop (ox_zz ox_ms (n + 7)) 62 0 tl [.inr (.inr (10, 0, 0)), .inl (v1), .inl (ox_w (v2 + 1)), .inl (v3)] [] r1) rfl ?_
  exact (L_Mod_stop_62 v1 (ox_w (v2 + 1)) v3 r1 n tl)
def B_Mod_stop_4  (v1 : Int) : (Int × Int × ox_H) → Option (((Int × Int × ox_H) ⊕ Int × ox_H)) := fun (v2, v3, σ) => if (σ 10 0 2 0) ≤ v3 then ((J_Mod_stop_68 v2 σ).map .inr) else ((F_Mod_kindOf v3 σ).bind fun r2 => (if r2.1 = 3 then (if 0 ≤ (r2.2 10 0 18 0) then (J_Mod_stop_62 v1 v2 v3 r2.2) else (if (ox_w ((r2.2 10 0 24 0) - v1)) ≤ (r2.2 10 0 17 0) then (J_Mod_stop_56 v1 v2 v3 (r2.2 10 0 17 0) v3 r2.2) else (J_Mod_stop_56 v1 v2 v3 (ox_w ((r2.2 10 0 24 0) - v1)) v3 r2.2))) else (J_Mod_stop_62 v1 v2 v3 r2.2)))
def J_Mod_stop_4  (v1 : Int) (v2 : Int) (v3 : Int) (σ : ox_H) : Option (Int × ox_H) := ox_lp (B_Mod_stop_4 v1) ox_fu (v2, v3, σ)
theorem L_Mod_stop_4  (v1 : Int) (v2 : Int) (v3 : Int) (σ : ox_H) (n tl : Nat) : ox_R (fun r => some ((fun r : Int × ox_H => ((.inl (some (.inl r.1)), r.2) : ox_O)) r)) (J_Mod_stop_4 v1 v2 v3 σ) (ox_ev m_Mod_stop (ox_zz ox_ms (n + 7)) 4 0 tl [.inr (.inr (10, 0, 0)), .inl (v1), .inl (v2), .inl (v3)] [] σ) := by
  unfold J_Mod_stop_4
  refine ox_R_lp (ψ := (fun (s : Int × Int × ox_H) => match s with | (v2, v3, σ) => ox_ev m_Mod_stop (ox_zz ox_ms (n + 7)) 4 0 tl [.inr (.inr (10, 0, 0)), .inl (v1), .inl (v2), .inl (v3)] [] σ)) ?_ ox_fu (v2, v3, σ)
  intro s
  obtain ⟨v2, v3, σ⟩ := s
  unfold B_Mod_stop_4
  refine ox_R_to 4 (Y := if (σ 10 0 2 0) ≤ v3 then ox_ev m_Mod_stop (ox_zz ox_ms (n + 7)) 68 0 tl [ox_d, ox_d, .inl (v2), ox_d] [] σ else ox_ev m_Mod_stop (ox_zz ox_ms (n + 7)) 12 0 tl [.inr (.inr (10, 0, 0)), .inl (v1), .inl (v2), .inl (v3)] [] σ) rfl ?_
  refine ox_R_if (fun _ => ?_) (fun _ => ?_)
  · exact ox_R_map ((L_Mod_stop_68 v2 σ n tl))
  · refine ox_R_to 3 (Y := ox_back m_Mod_stop 14 1 [] ((ox_zz ox_ms (n + 7)) 63 tl [.inr (.inr (10, 0, 0)), .inl (v3)] σ) (fun pc9 x9 st9 σ9 => ox_ev m_Mod_stop (ox_zz ox_ms (n + 7)) pc9 0 tl (ox_kl (m_Mod_stop.2.2.1 pc9) (ox_xl x9 [.inr (.inr (10, 0, 0)), .inl (v1), .inl (v2), .inl (v3)])) st9 σ9)) rfl ?_
    refine ox_R_call (fc := (fun r : Int × ox_H => ((.inl (some (.inl r.1)), r.2) : ox_O))) (L_Mod_kindOf v3 σ (n + 0) tl) (fun r2 => ?_)
    refine ox_R_of (Y := ox_ev m_Mod_stop (ox_zz ox_ms (n + 7)) 17 0 tl [.inr (.inr (10, 0, 0)), .inl (v1), .inl (v2), .inl (v3)] [.inl (r2.1)] r2.2) rfl ?_
    refine ox_R_to 2 (Y := if r2.1 = 3 then ox_ev m_Mod_stop (ox_zz ox_ms (n + 7)) 21 0 tl [.inr (.inr (10, 0, 0)), .inl (v1), .inl (v2), .inl (v3)] [] r2.2 else ox_ev m_Mod_stop (ox_zz ox_ms (n + 7)) 62 0 tl [.inr (.inr (10, 0, 0)), .inl (v1), .inl (v2), .inl (v3)] [] r2.2) rfl ?_
    refine ox_R_if (fun _ => ?_) (fun _ => ?_)
    · refine ox_R_to 3 (Y := if 0 ≤ (r2.2 10 0 18 0) then ox_ev m_Mod_stop (ox_zz ox_ms (n + 7)) 62 0 tl [.inr (.inr (10, 0, 0)), .inl (v1), .inl (v2), .inl (v3)] [] r2.2 else ox_ev m_Mod_stop (ox_zz ox_ms (n + 7)) 28 0 tl [.inr (.inr (10, 0, 0)), .inl (v1), .inl (v2), .inl (v3)] [] r2.2) rfl ?_
      refine ox_R_if (fun _ => ?_) (fun _ => ?_)
      · exact (L_Mod_stop_62 v1 v2 v3 r2.2 n tl)
      · refine ox_R_to 9 (Y := if (ox_w ((r2.2 10 0 24 0) - v1)) ≤ (r2.2 10 0 17 0) then ox_ev m_Mod_stop (ox_zz ox_ms (n + 7)) 52 0 tl [.inr (.inr (10, 0, 0)), .inl (v1), .inl (v2), .inl (v3)] [.inl (v3), .inr (.inr (10, 0, 0))] r2.2 else ox_ev m_Mod_stop (ox_zz ox_ms (n + 7)) 43 0 tl [.inr (.inr (10, 0, 0)), .inl (v1), .inl (v2), .inl (v3)] [.inl (v3), .inr (.inr (10, 0, 0))] r2.2) rfl ?_
        refine ox_R_if (fun _ => ?_) (fun _ => ?_)
        · refine ox_R_to 2 (Y := ox_ev m_Mod_stop (ox_zz ox_ms (n + 7)) 56 0 tl [.inr (.inr (10, 0, 0)), .inl (v1), .inl (v2), .inl (v3)] [.inl (r2.2 10 0 17 0), .inl (v3), .inr (.inr (10, 0, 0))] r2.2) rfl ?_
          exact (L_Mod_stop_56 v1 v2 v3 (r2.2 10 0 17 0) v3 r2.2 n tl)
        · refine ox_R_to 5 (Y := ox_ev m_Mod_stop (ox_zz ox_ms (n + 7)) 56 0 tl [.inr (.inr (10, 0, 0)), .inl (v1), .inl (v2), .inl (v3)] [.inl (ox_w ((r2.2 10 0 24 0) - v1)), .inl (v3), .inr (.inr (10, 0, 0))] r2.2) rfl ?_
          exact (L_Mod_stop_56 v1 v2 v3 (ox_w ((r2.2 10 0 24 0) - v1)) v3 r2.2 n tl)
    · exact (L_Mod_stop_62 v1 v2 v3 r2.2 n tl)
def F_Mod_stop  (a1 : Int) (σ : ox_H) : Option (Int × ox_H) := (J_Mod_stop_4 a1 0 0 σ)
theorem L_Mod_stop  (a1 : Int) (σ : ox_H) (n tl : Nat) : ox_R (fun r => some ((fun r : Int × ox_H => ((.inl (some (.inl r.1)), r.2) : ox_O)) r)) (F_Mod_stop a1 σ) (ox_zz ox_ms (n + 8) 109 tl [.inr (.inr (10, 0, 0)), .inl (a1)] σ) := by
  unfold F_Mod_stop
  refine ox_R_of (Y := ox_ev m_Mod_stop (ox_zz ox_ms (n + 7)) 0 0 tl [.inr (.inr (10, 0, 0)), .inl (a1), ox_d, ox_d] [] σ) rfl ?_
  refine ox_R_to 4 (Y := ox_ev m_Mod_stop (ox_zz ox_ms (n + 7)) 4 0 tl [.inr (.inr (10, 0, 0)), .inl (a1), .inl (0), .inl (0)] [] σ) rfl ?_
  exact (L_Mod_stop_4 a1 0 0 σ n tl)
def J_Mod_clockIn_27  (v1 : Int) (s0 : Int) (σ : ox_H) : Option (Int × ox_H) := (F_Mod_holds s0 σ).bind fun r1 => (if r1.1 = 0 then ((F_Mod_stop 0 r1.2).bind fun r2 => (if 0 ≤ v1 ∧ v1.toNat < 61 then ((F_Mod_open (ox_w ((r2.2 10 0 21 v1.toNat) + 1)) 1 r2.2).bind fun r3 => (if 0 ≤ (ox_w ((r2.2 10 0 21 v1.toNat) + 1)) ∧ (ox_w ((r2.2 10 0 21 v1.toNat) + 1)).toNat < 60 then ((F_Mod_add1 (ox_w ((r2.2 10 0 21 v1.toNat) + 1)) 37 (ox_up r3 10 0 1 ((ox_w ((r2.2 10 0 21 v1.toNat) + 1)).toNat) 0)).bind fun r4 => ((F_Mod_add (ox_w ((r2.2 10 0 21 v1.toNat) + 1)) (r4 10 0 24 0) r4).bind fun r5 => ((F_Mod_add1 (ox_w ((r2.2 10 0 21 v1.toNat) + 1)) 45 r5).bind fun r6 => (some (r2.1, r6))))) else none)) else none)) else (some ((-1), r1.2)))
theorem L_Mod_clockIn_27  (v1 : Int) (s0 : Int) (σ : ox_H) (n tl : Nat) : ox_R (fun r => some ((fun r : Int × ox_H => ((.inl (some (.inl r.1)), r.2) : ox_O)) r)) (J_Mod_clockIn_27 v1 s0 σ) (ox_ev m_Mod_clockIn (ox_zz ox_ms (n + 8)) 27 0 tl [.inr (.inr (10, 0, 0)), .inl (v1), ox_d, ox_d] [.inl (s0), .inr (.inr (10, 0, 0))] σ) := by
  unfold J_Mod_clockIn_27
  refine ox_R_to 1 (Y := ox_back m_Mod_clockIn 27 1 [] ((ox_zz ox_ms (n + 8)) 43 tl [.inr (.inr (10, 0, 0)), .inl (s0)] σ) (fun pc9 x9 st9 σ9 => ox_ev m_Mod_clockIn (ox_zz ox_ms (n + 8)) pc9 0 tl (ox_kl (m_Mod_clockIn.2.2.1 pc9) (ox_xl x9 [.inr (.inr (10, 0, 0)), .inl (v1), ox_d, ox_d])) st9 σ9)) rfl ?_
  refine ox_R_call (fc := (fun r : Int × ox_H => ((.inl (some (.inl r.1)), r.2) : ox_O))) (L_Mod_holds s0 σ (n + 7) tl) (fun r1 => ?_)
  refine ox_R_of (Y := ox_ev m_Mod_clockIn (ox_zz ox_ms (n + 8)) 30 0 tl [.inr (.inr (10, 0, 0)), .inl (v1), ox_d, ox_d] [.inl (r1.1)] r1.2) rfl ?_
  refine ox_R_to 1 (Y := if r1.1 = 0 then ox_ev m_Mod_clockIn (ox_zz ox_ms (n + 8)) 35 0 tl [.inr (.inr (10, 0, 0)), .inl (v1), ox_d, ox_d] [] r1.2 else ox_ev m_Mod_clockIn (ox_zz ox_ms (n + 8)) 33 0 tl [.inr (.inr (10, 0, 0)), .inl (v1), ox_d, ox_d] [] r1.2) rfl ?_
  refine ox_R_if (fun _ => ?_) (fun _ => ?_)
  · refine ox_R_to 3 (Y := ox_back m_Mod_clockIn 37 1 [] ((ox_zz ox_ms (n + 8)) 109 tl [.inr (.inr (10, 0, 0)), .inl (0)] r1.2) (fun pc9 x9 st9 σ9 => ox_ev m_Mod_clockIn (ox_zz ox_ms (n + 8)) pc9 0 tl (ox_kl (m_Mod_clockIn.2.2.1 pc9) (ox_xl x9 [.inr (.inr (10, 0, 0)), .inl (v1), ox_d, ox_d])) st9 σ9)) rfl ?_
    refine ox_R_call (fc := (fun r : Int × ox_H => ((.inl (some (.inl r.1)), r.2) : ox_O))) (L_Mod_stop 0 r1.2 (n + 0) tl) (fun r2 => ?_)
    refine ox_R_of (Y := ox_ev m_Mod_clockIn (ox_zz ox_ms (n + 8)) 40 0 tl [.inr (.inr (10, 0, 0)), .inl (v1), ox_d, ox_d] [.inl (r2.1)] r2.2) rfl ?_
    refine ox_R_to 5 (Y := if 0 ≤ v1 ∧ v1.toNat < 61 then ox_ev m_Mod_clockIn (ox_zz ox_ms (n + 8)) 47 0 tl [.inr (.inr (10, 0, 0)), .inl (v1), .inl (r2.1), ox_d] [.inl (r2.2 10 0 21 v1.toNat)] r2.2 else none) rfl ?_
    refine ox_R_if (fun _ => ?_) (fun _ => ox_R_none)
    refine ox_R_to 7 (Y := ox_back m_Mod_clockIn 53 0 [] ((ox_zz ox_ms (n + 8)) 64 tl [.inr (.inr (10, 0, 0)), .inl (ox_w ((r2.2 10 0 21 v1.toNat) + 1)), .inl (1)] r2.2) (fun pc9 x9 st9 σ9 => ox_ev m_Mod_clockIn (ox_zz ox_ms (n + 8)) pc9 0 tl (ox_kl (m_Mod_clockIn.2.2.1 pc9) (ox_xl x9 [.inr (.inr (10, 0, 0)), .inl (v1), .inl (r2.1), .inl (ox_w ((r2.2 10 0 21 v1.toNat) + 1))])) st9 σ9)) rfl ?_
    refine ox_R_call (fc := (fun r : ox_H => ((.inl none, r) : ox_O))) (L_Mod_open (ox_w ((r2.2 10 0 21 v1.toNat) + 1)) 1 r2.2 (n + 7) tl) (fun r3 => ?_)
    refine ox_R_of (Y := ox_ev m_Mod_clockIn (ox_zz ox_ms (n + 8)) 56 0 tl [.inr (.inr (10, 0, 0)), .inl (v1), .inl (r2.1), .inl (ox_w ((r2.2 10 0 21 v1.toNat) + 1))] [] r3) rfl ?_
    refine ox_R_to 5 (Y := if 0 ≤ (ox_w ((r2.2 10 0 21 v1.toNat) + 1)) ∧ (ox_w ((r2.2 10 0 21 v1.toNat) + 1)).toNat < 60 then ox_ev m_Mod_clockIn (ox_zz ox_ms (n + 8)) 63 0 tl [.inr (.inr (10, 0, 0)), .inl (v1), .inl (r2.1), .inl (ox_w ((r2.2 10 0 21 v1.toNat) + 1))] [] (ox_up r3 10 0 1 ((ox_w ((r2.2 10 0 21 v1.toNat) + 1)).toNat) 0) else none) rfl ?_
    refine ox_R_if (fun _ => ?_) (fun _ => ox_R_none)
    refine ox_R_to 4 (Y := ox_back m_Mod_clockIn 67 0 [] ((ox_zz ox_ms (n + 8)) 98 tl [.inr (.inr (10, 0, 0)), .inl (ox_w ((r2.2 10 0 21 v1.toNat) + 1)), .inl (37)] (ox_up r3 10 0 1 ((ox_w ((r2.2 10 0 21 v1.toNat) + 1)).toNat) 0)) (fun pc9 x9 st9 σ9 => ox_ev m_Mod_clockIn (ox_zz ox_ms (n + 8)) pc9 0 tl (ox_kl (m_Mod_clockIn.2.2.1 pc9) (ox_xl x9 [.inr (.inr (10, 0, 0)), .inl (v1), .inl (r2.1), .inl (ox_w ((r2.2 10 0 21 v1.toNat) + 1))])) st9 σ9)) rfl ?_
    refine ox_R_call (fc := (fun r : ox_H => ((.inl none, r) : ox_O))) (L_Mod_add1 (ox_w ((r2.2 10 0 21 v1.toNat) + 1)) 37 (ox_up r3 10 0 1 ((ox_w ((r2.2 10 0 21 v1.toNat) + 1)).toNat) 0) (n + 7) tl) (fun r4 => ?_)
    refine ox_R_of (Y := ox_ev m_Mod_clockIn (ox_zz ox_ms (n + 8)) 70 0 tl [.inr (.inr (10, 0, 0)), .inl (v1), .inl (r2.1), .inl (ox_w ((r2.2 10 0 21 v1.toNat) + 1))] [] r4) rfl ?_
    refine ox_R_to 5 (Y := ox_back m_Mod_clockIn 76 0 [] ((ox_zz ox_ms (n + 8)) 97 tl [.inr (.inr (10, 0, 0)), .inl (ox_w ((r2.2 10 0 21 v1.toNat) + 1)), .inl (r4 10 0 24 0)] r4) (fun pc9 x9 st9 σ9 => ox_ev m_Mod_clockIn (ox_zz ox_ms (n + 8)) pc9 0 tl (ox_kl (m_Mod_clockIn.2.2.1 pc9) (ox_xl x9 [.inr (.inr (10, 0, 0)), .inl (v1), .inl (r2.1), .inl (ox_w ((r2.2 10 0 21 v1.toNat) + 1))])) st9 σ9)) rfl ?_
    refine ox_R_call (fc := (fun r : ox_H => ((.inl none, r) : ox_O))) (L_Mod_add (ox_w ((r2.2 10 0 21 v1.toNat) + 1)) (r4 10 0 24 0) r4 (n + 7) tl) (fun r5 => ?_)
    refine ox_R_of (Y := ox_ev m_Mod_clockIn (ox_zz ox_ms (n + 8)) 79 0 tl [.inr (.inr (10, 0, 0)), .inl (v1), .inl (r2.1), .inl (ox_w ((r2.2 10 0 21 v1.toNat) + 1))] [] r5) rfl ?_
    refine ox_R_to 4 (Y := ox_back m_Mod_clockIn 83 0 [] ((ox_zz ox_ms (n + 8)) 98 tl [.inr (.inr (10, 0, 0)), .inl (ox_w ((r2.2 10 0 21 v1.toNat) + 1)), .inl (45)] r5) (fun pc9 x9 st9 σ9 => ox_ev m_Mod_clockIn (ox_zz ox_ms (n + 8)) pc9 0 tl (ox_kl (m_Mod_clockIn.2.2.1 pc9) (ox_xl x9 [.inr (.inr (10, 0, 0)), .inl (v1), .inl (r2.1), .inl (ox_w ((r2.2 10 0 21 v1.toNat) + 1))])) st9 σ9)) rfl ?_
    refine ox_R_call (fc := (fun r : ox_H => ((.inl none, r) : ox_O))) (L_Mod_add1 (ox_w ((r2.2 10 0 21 v1.toNat) + 1)) 45 r5 (n + 7) tl) (fun r6 => ?_)
    refine ox_R_of (Y := ox_ev m_Mod_clockIn (ox_zz ox_ms (n + 8)) 86 0 tl [.inr (.inr (10, 0, 0)), .inl (v1), .inl (r2.1), .inl (ox_w ((r2.2 10 0 21 v1.toNat) + 1))] [] r6) rfl ?_
    refine ox_R_to 2 (Y := some (.inl (some (.inl (r2.1))), r6)) rfl ?_
    exact ox_R_ret rfl
  · refine ox_R_to 2 (Y := some (.inl (some (.inl ((-1)))), r1.2)) rfl ?_
    exact ox_R_ret rfl
def F_Mod_clockIn  (a1 : Int) (σ : ox_H) : Option (Int × ox_H) := (F_Mod_isEntry a1 σ).bind fun r7 => (if r7.1 = 0 then (J_Mod_clockIn_27 a1 1 r7.2) else (if (r7.2 10 0 2 0) = 60 then (J_Mod_clockIn_27 a1 2 r7.2) else (J_Mod_clockIn_27 a1 0 r7.2)))
theorem L_Mod_clockIn  (a1 : Int) (σ : ox_H) (n tl : Nat) : ox_R (fun r => some ((fun r : Int × ox_H => ((.inl (some (.inl r.1)), r.2) : ox_O)) r)) (F_Mod_clockIn a1 σ) (ox_zz ox_ms (n + 9) 110 tl [.inr (.inr (10, 0, 0)), .inl (a1)] σ) := by
  unfold F_Mod_clockIn
  refine ox_R_of (Y := ox_ev m_Mod_clockIn (ox_zz ox_ms (n + 8)) 0 0 tl [.inr (.inr (10, 0, 0)), .inl (a1), ox_d, ox_d] [] σ) rfl ?_
  refine ox_R_to 4 (Y := ox_back m_Mod_clockIn 3 1 [.inr (.inr (10, 0, 0))] ((ox_zz ox_ms (n + 8)) 73 tl [.inr (.inr (10, 0, 0)), .inl (a1)] σ) (fun pc9 x9 st9 σ9 => ox_ev m_Mod_clockIn (ox_zz ox_ms (n + 8)) pc9 0 tl (ox_kl (m_Mod_clockIn.2.2.1 pc9) (ox_xl x9 [.inr (.inr (10, 0, 0)), .inl (a1), ox_d, ox_d])) st9 σ9)) rfl ?_
  refine ox_R_call (fc := (fun r : Int × ox_H => ((.inl (some (.inl r.1)), r.2) : ox_O))) (L_Mod_isEntry a1 σ (n + 2) tl) (fun r7 => ?_)
  refine ox_R_of (Y := ox_ev m_Mod_clockIn (ox_zz ox_ms (n + 8)) 6 0 tl [.inr (.inr (10, 0, 0)), .inl (a1), ox_d, ox_d] [.inl (r7.1), .inr (.inr (10, 0, 0))] r7.2) rfl ?_
  refine ox_R_to 1 (Y := if r7.1 = 0 then ox_ev m_Mod_clockIn (ox_zz ox_ms (n + 8)) 9 0 tl [.inr (.inr (10, 0, 0)), .inl (a1), ox_d, ox_d] [.inr (.inr (10, 0, 0))] r7.2 else ox_ev m_Mod_clockIn (ox_zz ox_ms (n + 8)) 13 0 tl [.inr (.inr (10, 0, 0)), .inl (a1), ox_d, ox_d] [.inr (.inr (10, 0, 0))] r7.2) rfl ?_
  refine ox_R_if (fun _ => ?_) (fun _ => ?_)
  · refine ox_R_to 2 (Y := ox_ev m_Mod_clockIn (ox_zz ox_ms (n + 8)) 27 0 tl [.inr (.inr (10, 0, 0)), .inl (a1), ox_d, ox_d] [.inl (1), .inr (.inr (10, 0, 0))] r7.2) rfl ?_
    exact (L_Mod_clockIn_27 a1 1 r7.2 n tl)
  · refine ox_R_to 4 (Y := if (r7.2 10 0 2 0) = 60 then ox_ev m_Mod_clockIn (ox_zz ox_ms (n + 8)) 22 0 tl [.inr (.inr (10, 0, 0)), .inl (a1), ox_d, ox_d] [.inr (.inr (10, 0, 0))] r7.2 else ox_ev m_Mod_clockIn (ox_zz ox_ms (n + 8)) 26 0 tl [.inr (.inr (10, 0, 0)), .inl (a1), ox_d, ox_d] [.inr (.inr (10, 0, 0))] r7.2) rfl ?_
    refine ox_R_if (fun _ => ?_) (fun _ => ?_)
    · refine ox_R_to 2 (Y := ox_ev m_Mod_clockIn (ox_zz ox_ms (n + 8)) 27 0 tl [.inr (.inr (10, 0, 0)), .inl (a1), ox_d, ox_d] [.inl (2), .inr (.inr (10, 0, 0))] r7.2) rfl ?_
      exact (L_Mod_clockIn_27 a1 2 r7.2 n tl)
    · refine ox_R_to 1 (Y := ox_ev m_Mod_clockIn (ox_zz ox_ms (n + 8)) 27 0 tl [.inr (.inr (10, 0, 0)), .inl (a1), ox_d, ox_d] [.inl (0), .inr (.inr (10, 0, 0))] r7.2) rfl ?_
      exact (L_Mod_clockIn_27 a1 0 r7.2 n tl)
def J_Mod_clockOut_33  (s0 : Int) (σ : ox_H) : Option (Int × ox_H) := some (s0, σ)
theorem L_Mod_clockOut_33  (s0 : Int) (σ : ox_H) (n tl : Nat) : ox_R (fun r => some ((fun r : Int × ox_H => ((.inl (some (.inl r.1)), r.2) : ox_O)) r)) (J_Mod_clockOut_33 s0 σ) (ox_ev m_Mod_clockOut (ox_zz ox_ms (n + 8)) 33 0 tl [ox_d, ox_d] [.inl (s0)] σ) := by
  unfold J_Mod_clockOut_33
  refine ox_R_to 1 (Y := some (.inl (some (.inl (s0))), σ)) rfl ?_
  exact ox_R_ret rfl
def J_Mod_clockOut_18  (v1 : Int) (s0 : Int) (σ : ox_H) : Option (Int × ox_H) := (F_Mod_holds s0 σ).bind fun r1 => (if r1.1 = 0 then ((F_Mod_stop v1 r1.2).bind fun r2 => (J_Mod_clockOut_33 r2.1 r2.2)) else (J_Mod_clockOut_33 (-1) r1.2))
theorem L_Mod_clockOut_18  (v1 : Int) (s0 : Int) (σ : ox_H) (n tl : Nat) : ox_R (fun r => some ((fun r : Int × ox_H => ((.inl (some (.inl r.1)), r.2) : ox_O)) r)) (J_Mod_clockOut_18 v1 s0 σ) (ox_ev m_Mod_clockOut (ox_zz ox_ms (n + 8)) 18 0 tl [.inr (.inr (10, 0, 0)), .inl (v1)] [.inl (s0), .inr (.inr (10, 0, 0))] σ) := by
  unfold J_Mod_clockOut_18
  refine ox_R_to 1 (Y := ox_back m_Mod_clockOut 18 1 [] ((ox_zz ox_ms (n + 8)) 43 tl [.inr (.inr (10, 0, 0)), .inl (s0)] σ) (fun pc9 x9 st9 σ9 => ox_ev m_Mod_clockOut (ox_zz ox_ms (n + 8)) pc9 0 tl (ox_kl (m_Mod_clockOut.2.2.1 pc9) (ox_xl x9 [.inr (.inr (10, 0, 0)), .inl (v1)])) st9 σ9)) rfl ?_
  refine ox_R_call (fc := (fun r : Int × ox_H => ((.inl (some (.inl r.1)), r.2) : ox_O))) (L_Mod_holds s0 σ (n + 7) tl) (fun r1 => ?_)
  refine ox_R_of (Y := ox_ev m_Mod_clockOut (ox_zz ox_ms (n + 8)) 21 0 tl [.inr (.inr (10, 0, 0)), .inl (v1)] [.inl (r1.1)] r1.2) rfl ?_
  refine ox_R_to 1 (Y := if r1.1 = 0 then ox_ev m_Mod_clockOut (ox_zz ox_ms (n + 8)) 28 0 tl [.inr (.inr (10, 0, 0)), .inl (v1)] [] r1.2 else ox_ev m_Mod_clockOut (ox_zz ox_ms (n + 8)) 24 0 tl [.inr (.inr (10, 0, 0)), .inl (v1)] [] r1.2) rfl ?_
  refine ox_R_if (fun _ => ?_) (fun _ => ?_)
  · refine ox_R_to 3 (Y := ox_back m_Mod_clockOut 30 1 [] ((ox_zz ox_ms (n + 8)) 109 tl [.inr (.inr (10, 0, 0)), .inl (v1)] r1.2) (fun pc9 x9 st9 σ9 => ox_ev m_Mod_clockOut (ox_zz ox_ms (n + 8)) pc9 0 tl (ox_kl (m_Mod_clockOut.2.2.1 pc9) (ox_xl x9 [.inr (.inr (10, 0, 0)), .inl (v1)])) st9 σ9)) rfl ?_
    refine ox_R_call (fc := (fun r : Int × ox_H => ((.inl (some (.inl r.1)), r.2) : ox_O))) (L_Mod_stop v1 r1.2 (n + 0) tl) (fun r2 => ?_)
    refine ox_R_of (Y := ox_ev m_Mod_clockOut (ox_zz ox_ms (n + 8)) 33 0 tl [ox_d, ox_d] [.inl (r2.1)] r2.2) rfl ?_
    exact (L_Mod_clockOut_33 r2.1 r2.2 n tl)
  · refine ox_R_to 2 (Y := ox_ev m_Mod_clockOut (ox_zz ox_ms (n + 8)) 33 0 tl [ox_d, ox_d] [.inl ((-1))] r1.2) rfl ?_
    exact (L_Mod_clockOut_33 (-1) r1.2 n tl)
def F_Mod_clockOut  (a1 : Int) (σ : ox_H) : Option (Int × ox_H) := (F_Mod_in a1 0 9999 σ).bind fun r3 => (if r3 = 0 then (J_Mod_clockOut_18 a1 1 σ) else (J_Mod_clockOut_18 a1 0 σ))
theorem L_Mod_clockOut  (a1 : Int) (σ : ox_H) (n tl : Nat) : ox_R (fun r => some ((fun r : Int × ox_H => ((.inl (some (.inl r.1)), r.2) : ox_O)) r)) (F_Mod_clockOut a1 σ) (ox_zz ox_ms (n + 9) 111 tl [.inr (.inr (10, 0, 0)), .inl (a1)] σ) := by
  unfold F_Mod_clockOut
  refine ox_R_of (Y := ox_ev m_Mod_clockOut (ox_zz ox_ms (n + 8)) 0 0 tl [.inr (.inr (10, 0, 0)), .inl (a1)] [] σ) rfl ?_
  refine ox_R_to 6 (Y := ox_back m_Mod_clockOut 7 1 [.inr (.inr (10, 0, 0))] ((ox_zz ox_ms (n + 8)) 44 tl [.inr (.inr (10, 0, 0)), .inl (a1), .inl (0), .inl (9999)] σ) (fun pc9 x9 st9 σ9 => ox_ev m_Mod_clockOut (ox_zz ox_ms (n + 8)) pc9 0 tl (ox_kl (m_Mod_clockOut.2.2.1 pc9) (ox_xl x9 [.inr (.inr (10, 0, 0)), .inl (a1)])) st9 σ9)) rfl ?_
  refine ox_R_call (fc := (fun r : Int => ((.inl (some (.inl r)), σ) : ox_O))) (L_Mod_in a1 0 9999 σ (n + 7) tl) (fun r3 => ?_)
  refine ox_R_of (Y := ox_ev m_Mod_clockOut (ox_zz ox_ms (n + 8)) 10 0 tl [.inr (.inr (10, 0, 0)), .inl (a1)] [.inl (r3), .inr (.inr (10, 0, 0))] σ) rfl ?_
  refine ox_R_to 1 (Y := if r3 = 0 then ox_ev m_Mod_clockOut (ox_zz ox_ms (n + 8)) 17 0 tl [.inr (.inr (10, 0, 0)), .inl (a1)] [.inr (.inr (10, 0, 0))] σ else ox_ev m_Mod_clockOut (ox_zz ox_ms (n + 8)) 13 0 tl [.inr (.inr (10, 0, 0)), .inl (a1)] [.inr (.inr (10, 0, 0))] σ) rfl ?_
  refine ox_R_if (fun _ => ?_) (fun _ => ?_)
  · refine ox_R_to 1 (Y := ox_ev m_Mod_clockOut (ox_zz ox_ms (n + 8)) 18 0 tl [.inr (.inr (10, 0, 0)), .inl (a1)] [.inl (1), .inr (.inr (10, 0, 0))] σ) rfl ?_
    exact (L_Mod_clockOut_18 a1 1 σ n tl)
  · refine ox_R_to 2 (Y := ox_ev m_Mod_clockOut (ox_zz ox_ms (n + 8)) 18 0 tl [.inr (.inr (10, 0, 0)), .inl (a1)] [.inl (0), .inr (.inr (10, 0, 0))] σ) rfl ?_
    exact (L_Mod_clockOut_18 a1 0 σ n tl)
def J_Mod_clocked_83  (v2 : Int) (σ : ox_H) : Option (Int × ox_H) := some (v2, σ)
theorem L_Mod_clocked_83  (v2 : Int) (σ : ox_H) (n tl : Nat) : ox_R (fun r => some ((fun r : Int × ox_H => ((.inl (some (.inl r.1)), r.2) : ox_O)) r)) (J_Mod_clocked_83 v2 σ) (ox_ev m_Mod_clocked (ox_zz ox_ms (n + 7)) 83 0 tl [ox_d, ox_d, .inl (v2), ox_d, ox_d] [] σ) := by
  unfold J_Mod_clocked_83
  refine ox_R_to 2 (Y := some (.inl (some (.inl (v2))), σ)) rfl ?_
  exact ox_R_ret rfl
def J_Mod_clocked_75  (v3 : Int) (v4 : Int) (s0 : Int) (s1 : Int) (σ : ox_H) : Option (((Int × Int × ox_H) ⊕ Int × ox_H)) := some (.inl (ox_w (s1 + s0), ox_w (v4 + 1), σ))
theorem L_Mod_clocked_75  (v3 : Int) (v4 : Int) (s0 : Int) (s1 : Int) (σ : ox_H) (n tl : Nat) : ox_R (Sum.elim (fun (s : Int × Int × ox_H) => match s with | (v2, v4, σ) => ox_ev m_Mod_clocked (ox_zz ox_ms (n + 7)) 38 0 tl [.inr (.inr (10, 0, 0)), ox_d, .inl (v2), .inl (v3), .inl (v4)] [] σ) (fun r => some ((fun r : Int × ox_H => ((.inl (some (.inl r.1)), r.2) : ox_O)) r))) (J_Mod_clocked_75 v3 v4 s0 s1 σ) (ox_ev m_Mod_clocked (ox_zz ox_ms (n + 7)) 75 0 tl [.inr (.inr (10, 0, 0)), ox_d, ox_d, .inl (v3), .inl (v4)] [.inl (s0), .inl (s1)] σ) := by
  unfold J_Mod_clocked_75
  refine ox_R_to 4 (Y := ox_ev m_Mod_clocked (ox_zz ox_ms (n + 7)) 38 0 tl [.inr (.inr (10, 0, 0)), ox_d, .inl (ox_w (s1 + s0)), .inl (v3), .inl (ox_w (v4 + 1))] [] σ) rfl ?_
  exact ox_R_ret rfl
def J_Mod_clocked_74  (v3 : Int) (v4 : Int) (s0 : Int) (σ : ox_H) : Option (((Int × Int × ox_H) ⊕ Int × ox_H)) := (J_Mod_clocked_75 v3 v4 0 s0 σ)
theorem L_Mod_clocked_74  (v3 : Int) (v4 : Int) (s0 : Int) (σ : ox_H) (n tl : Nat) : ox_R (Sum.elim (fun (s : Int × Int × ox_H) => match s with | (v2, v4, σ) => ox_ev m_Mod_clocked (ox_zz ox_ms (n + 7)) 38 0 tl [.inr (.inr (10, 0, 0)), ox_d, .inl (v2), .inl (v3), .inl (v4)] [] σ) (fun r => some ((fun r : Int × ox_H => ((.inl (some (.inl r.1)), r.2) : ox_O)) r))) (J_Mod_clocked_74 v3 v4 s0 σ) (ox_ev m_Mod_clocked (ox_zz ox_ms (n + 7)) 74 0 tl [.inr (.inr (10, 0, 0)), ox_d, ox_d, .inl (v3), .inl (v4)] [.inl (s0)] σ) := by
  unfold J_Mod_clocked_74
  refine ox_R_to 1 (Y := ox_ev m_Mod_clocked (ox_zz ox_ms (n + 7)) 75 0 tl [.inr (.inr (10, 0, 0)), ox_d, ox_d, .inl (v3), .inl (v4)] [.inl (0), .inl (s0)] σ) rfl ?_
  exact (L_Mod_clocked_75 v3 v4 0 s0 σ n tl)
def B_Mod_clocked_38  (v3 : Int) : (Int × Int × ox_H) → Option (((Int × Int × ox_H) ⊕ Int × ox_H)) := fun (v2, v4, σ) => if v3 ≤ v4 then ((J_Mod_clocked_83 v2 σ).map .inr) else ((F_Mod_kindOf v4 σ).bind fun r1 => (if r1.1 = 3 then (if (r1.2 10 0 18 0) < 0 then (J_Mod_clocked_74 v3 v4 v2 r1.2) else (J_Mod_clocked_75 v3 v4 (ox_w ((r1.2 10 0 18 0) - (r1.2 10 0 17 0))) v2 r1.2)) else (J_Mod_clocked_74 v3 v4 v2 r1.2)))
def J_Mod_clocked_38  (v2 : Int) (v3 : Int) (v4 : Int) (σ : ox_H) : Option (Int × ox_H) := ox_lp (B_Mod_clocked_38 v3) ox_fu (v2, v4, σ)
theorem L_Mod_clocked_38  (v2 : Int) (v3 : Int) (v4 : Int) (σ : ox_H) (n tl : Nat) : ox_R (fun r => some ((fun r : Int × ox_H => ((.inl (some (.inl r.1)), r.2) : ox_O)) r)) (J_Mod_clocked_38 v2 v3 v4 σ) (ox_ev m_Mod_clocked (ox_zz ox_ms (n + 7)) 38 0 tl [.inr (.inr (10, 0, 0)), ox_d, .inl (v2), .inl (v3), .inl (v4)] [] σ) := by
  unfold J_Mod_clocked_38
  refine ox_R_lp (ψ := (fun (s : Int × Int × ox_H) => match s with | (v2, v4, σ) => ox_ev m_Mod_clocked (ox_zz ox_ms (n + 7)) 38 0 tl [.inr (.inr (10, 0, 0)), ox_d, .inl (v2), .inl (v3), .inl (v4)] [] σ)) ?_ ox_fu (v2, v4, σ)
  intro s
  obtain ⟨v2, v4, σ⟩ := s
  unfold B_Mod_clocked_38
  refine ox_R_to 3 (Y := if v3 ≤ v4 then ox_ev m_Mod_clocked (ox_zz ox_ms (n + 7)) 83 0 tl [ox_d, ox_d, .inl (v2), ox_d, ox_d] [] σ else ox_ev m_Mod_clocked (ox_zz ox_ms (n + 7)) 44 0 tl [.inr (.inr (10, 0, 0)), ox_d, .inl (v2), .inl (v3), .inl (v4)] [] σ) rfl ?_
  refine ox_R_if (fun _ => ?_) (fun _ => ?_)
  · exact ox_R_map ((L_Mod_clocked_83 v2 σ n tl))
  · refine ox_R_to 4 (Y := ox_back m_Mod_clocked 48 1 [.inl (v2)] ((ox_zz ox_ms (n + 7)) 63 tl [.inr (.inr (10, 0, 0)), .inl (v4)] σ) (fun pc9 x9 st9 σ9 => ox_ev m_Mod_clocked (ox_zz ox_ms (n + 7)) pc9 0 tl (ox_kl (m_Mod_clocked.2.2.1 pc9) (ox_xl x9 [.inr (.inr (10, 0, 0)), ox_d, .inl (v2), .inl (v3), .inl (v4)])) st9 σ9)) rfl ?_
    refine ox_R_call (fc := (fun r : Int × ox_H => ((.inl (some (.inl r.1)), r.2) : ox_O))) (L_Mod_kindOf v4 σ (n + 0) tl) (fun r1 => ?_)
    refine ox_R_of (Y := ox_ev m_Mod_clocked (ox_zz ox_ms (n + 7)) 51 0 tl [.inr (.inr (10, 0, 0)), ox_d, .inl (v2), .inl (v3), .inl (v4)] [.inl (r1.1), .inl (v2)] r1.2) rfl ?_
    refine ox_R_to 2 (Y := if r1.1 = 3 then ox_ev m_Mod_clocked (ox_zz ox_ms (n + 7)) 55 0 tl [.inr (.inr (10, 0, 0)), ox_d, .inl (v2), .inl (v3), .inl (v4)] [.inl (v2)] r1.2 else ox_ev m_Mod_clocked (ox_zz ox_ms (n + 7)) 74 0 tl [.inr (.inr (10, 0, 0)), ox_d, ox_d, .inl (v3), .inl (v4)] [.inl (v2)] r1.2) rfl ?_
    refine ox_R_if (fun _ => ?_) (fun _ => ?_)
    · refine ox_R_to 3 (Y := if (r1.2 10 0 18 0) < 0 then ox_ev m_Mod_clocked (ox_zz ox_ms (n + 7)) 74 0 tl [.inr (.inr (10, 0, 0)), ox_d, ox_d, .inl (v3), .inl (v4)] [.inl (v2)] r1.2 else ox_ev m_Mod_clocked (ox_zz ox_ms (n + 7)) 62 0 tl [.inr (.inr (10, 0, 0)), ox_d, .inl (v2), .inl (v3), .inl (v4)] [.inl (v2)] r1.2) rfl ?_
      refine ox_R_if (fun _ => ?_) (fun _ => ?_)
      · exact (L_Mod_clocked_74 v3 v4 v2 r1.2 n tl)
      · refine ox_R_to 6 (Y := ox_ev m_Mod_clocked (ox_zz ox_ms (n + 7)) 75 0 tl [.inr (.inr (10, 0, 0)), ox_d, ox_d, .inl (v3), .inl (v4)] [.inl (ox_w ((r1.2 10 0 18 0) - (r1.2 10 0 17 0))), .inl (v2)] r1.2) rfl ?_
        exact (L_Mod_clocked_75 v3 v4 (ox_w ((r1.2 10 0 18 0) - (r1.2 10 0 17 0))) v2 r1.2 n tl)
    · exact (L_Mod_clocked_74 v3 v4 v2 r1.2 n tl)
def J_Mod_clocked_14  (v1 : Int) (s0 : Int) (σ : ox_H) : Option (Int × ox_H) := (F_Mod_holds s0 σ).bind fun r2 => (if r2.1 = 0 then ((F_Mod_end v1 r2.2).bind fun r3 => (if 0 ≤ v1 ∧ v1.toNat < 61 then (J_Mod_clocked_38 0 r3.1 (r3.2 10 0 21 v1.toNat) r3.2) else none)) else (some ((-1), r2.2)))
theorem L_Mod_clocked_14  (v1 : Int) (s0 : Int) (σ : ox_H) (n tl : Nat) : ox_R (fun r => some ((fun r : Int × ox_H => ((.inl (some (.inl r.1)), r.2) : ox_O)) r)) (J_Mod_clocked_14 v1 s0 σ) (ox_ev m_Mod_clocked (ox_zz ox_ms (n + 7)) 14 0 tl [.inr (.inr (10, 0, 0)), .inl (v1), ox_d, ox_d, ox_d] [.inl (s0), .inr (.inr (10, 0, 0))] σ) := by
  unfold J_Mod_clocked_14
  refine ox_R_to 1 (Y := ox_back m_Mod_clocked 14 1 [] ((ox_zz ox_ms (n + 7)) 43 tl [.inr (.inr (10, 0, 0)), .inl (s0)] σ) (fun pc9 x9 st9 σ9 => ox_ev m_Mod_clocked (ox_zz ox_ms (n + 7)) pc9 0 tl (ox_kl (m_Mod_clocked.2.2.1 pc9) (ox_xl x9 [.inr (.inr (10, 0, 0)), .inl (v1), ox_d, ox_d, ox_d])) st9 σ9)) rfl ?_
  refine ox_R_call (fc := (fun r : Int × ox_H => ((.inl (some (.inl r.1)), r.2) : ox_O))) (L_Mod_holds s0 σ (n + 6) tl) (fun r2 => ?_)
  refine ox_R_of (Y := ox_ev m_Mod_clocked (ox_zz ox_ms (n + 7)) 17 0 tl [.inr (.inr (10, 0, 0)), .inl (v1), ox_d, ox_d, ox_d] [.inl (r2.1)] r2.2) rfl ?_
  refine ox_R_to 1 (Y := if r2.1 = 0 then ox_ev m_Mod_clocked (ox_zz ox_ms (n + 7)) 22 0 tl [.inr (.inr (10, 0, 0)), .inl (v1), ox_d, ox_d, ox_d] [] r2.2 else ox_ev m_Mod_clocked (ox_zz ox_ms (n + 7)) 20 0 tl [.inr (.inr (10, 0, 0)), .inl (v1), ox_d, ox_d, ox_d] [] r2.2) rfl ?_
  refine ox_R_if (fun _ => ?_) (fun _ => ?_)
  · refine ox_R_to 5 (Y := ox_back m_Mod_clocked 26 1 [] ((ox_zz ox_ms (n + 7)) 78 tl [.inr (.inr (10, 0, 0)), .inl (v1)] r2.2) (fun pc9 x9 st9 σ9 => ox_ev m_Mod_clocked (ox_zz ox_ms (n + 7)) pc9 0 tl (ox_kl (m_Mod_clocked.2.2.1 pc9) (ox_xl x9 [.inr (.inr (10, 0, 0)), .inl (v1), .inl (0), ox_d, ox_d])) st9 σ9)) rfl ?_
    refine ox_R_call (fc := (fun r : Int × ox_H => ((.inl (some (.inl r.1)), r.2) : ox_O))) (L_Mod_end v1 r2.2 (n + 0) tl) (fun r3 => ?_)
    refine ox_R_of (Y := ox_ev m_Mod_clocked (ox_zz ox_ms (n + 7)) 29 0 tl [.inr (.inr (10, 0, 0)), .inl (v1), .inl (0), ox_d, ox_d] [.inl (r3.1)] r3.2) rfl ?_
    refine ox_R_to 5 (Y := if 0 ≤ v1 ∧ v1.toNat < 61 then ox_ev m_Mod_clocked (ox_zz ox_ms (n + 7)) 36 0 tl [.inr (.inr (10, 0, 0)), .inl (v1), .inl (0), .inl (r3.1), ox_d] [.inl (r3.2 10 0 21 v1.toNat)] r3.2 else none) rfl ?_
    refine ox_R_if (fun _ => ?_) (fun _ => ox_R_none)
    refine ox_R_to 1 (Y := ox_ev m_Mod_clocked (ox_zz ox_ms (n + 7)) 38 0 tl [.inr (.inr (10, 0, 0)), ox_d, .inl (0), .inl (r3.1), .inl (r3.2 10 0 21 v1.toNat)] [] r3.2) rfl ?_
    exact (L_Mod_clocked_38 0 r3.1 (r3.2 10 0 21 v1.toNat) r3.2 n tl)
  · refine ox_R_to 2 (Y := some (.inl (some (.inl ((-1)))), r2.2)) rfl ?_
    exact ox_R_ret rfl
def F_Mod_clocked  (a1 : Int) (σ : ox_H) : Option (Int × ox_H) := (F_Mod_isEntry a1 σ).bind fun r4 => (if r4.1 = 0 then (J_Mod_clocked_14 a1 1 r4.2) else (J_Mod_clocked_14 a1 0 r4.2))
theorem L_Mod_clocked  (a1 : Int) (σ : ox_H) (n tl : Nat) : ox_R (fun r => some ((fun r : Int × ox_H => ((.inl (some (.inl r.1)), r.2) : ox_O)) r)) (F_Mod_clocked a1 σ) (ox_zz ox_ms (n + 8) 112 tl [.inr (.inr (10, 0, 0)), .inl (a1)] σ) := by
  unfold F_Mod_clocked
  refine ox_R_of (Y := ox_ev m_Mod_clocked (ox_zz ox_ms (n + 7)) 0 0 tl [.inr (.inr (10, 0, 0)), .inl (a1), ox_d, ox_d, ox_d] [] σ) rfl ?_
  refine ox_R_to 4 (Y := ox_back m_Mod_clocked 3 1 [.inr (.inr (10, 0, 0))] ((ox_zz ox_ms (n + 7)) 73 tl [.inr (.inr (10, 0, 0)), .inl (a1)] σ) (fun pc9 x9 st9 σ9 => ox_ev m_Mod_clocked (ox_zz ox_ms (n + 7)) pc9 0 tl (ox_kl (m_Mod_clocked.2.2.1 pc9) (ox_xl x9 [.inr (.inr (10, 0, 0)), .inl (a1), ox_d, ox_d, ox_d])) st9 σ9)) rfl ?_
  refine ox_R_call (fc := (fun r : Int × ox_H => ((.inl (some (.inl r.1)), r.2) : ox_O))) (L_Mod_isEntry a1 σ (n + 1) tl) (fun r4 => ?_)
  refine ox_R_of (Y := ox_ev m_Mod_clocked (ox_zz ox_ms (n + 7)) 6 0 tl [.inr (.inr (10, 0, 0)), .inl (a1), ox_d, ox_d, ox_d] [.inl (r4.1), .inr (.inr (10, 0, 0))] r4.2) rfl ?_
  refine ox_R_to 1 (Y := if r4.1 = 0 then ox_ev m_Mod_clocked (ox_zz ox_ms (n + 7)) 13 0 tl [.inr (.inr (10, 0, 0)), .inl (a1), ox_d, ox_d, ox_d] [.inr (.inr (10, 0, 0))] r4.2 else ox_ev m_Mod_clocked (ox_zz ox_ms (n + 7)) 9 0 tl [.inr (.inr (10, 0, 0)), .inl (a1), ox_d, ox_d, ox_d] [.inr (.inr (10, 0, 0))] r4.2) rfl ?_
  refine ox_R_if (fun _ => ?_) (fun _ => ?_)
  · refine ox_R_to 1 (Y := ox_ev m_Mod_clocked (ox_zz ox_ms (n + 7)) 14 0 tl [.inr (.inr (10, 0, 0)), .inl (a1), ox_d, ox_d, ox_d] [.inl (1), .inr (.inr (10, 0, 0))] r4.2) rfl ?_
    exact (L_Mod_clocked_14 a1 1 r4.2 n tl)
  · refine ox_R_to 2 (Y := ox_ev m_Mod_clocked (ox_zz ox_ms (n + 7)) 14 0 tl [.inr (.inr (10, 0, 0)), .inl (a1), ox_d, ox_d, ox_d] [.inl (0), .inr (.inr (10, 0, 0))] r4.2) rfl ?_
    exact (L_Mod_clocked_14 a1 0 r4.2 n tl)
def J_Mod_entryOf_27  (v2 : Int) (σ : ox_H) : Option Int := some v2
theorem L_Mod_entryOf_27  (v2 : Int) (σ : ox_H) (n tl : Nat) : ox_R (fun r => some ((fun r : Int => ((.inl (some (.inl r)), σ) : ox_O)) r)) (J_Mod_entryOf_27 v2 σ) (ox_ev m_Mod_entryOf (ox_zz ox_ms (n + 0)) 27 0 tl [ox_d, ox_d, .inl (v2)] [] σ) := by
  unfold J_Mod_entryOf_27
  refine ox_R_to 2 (Y := some (.inl (some (.inl (v2))), σ)) rfl ?_
  exact ox_R_ret rfl
def B_Mod_entryOf_7  (v1 : Int) (σ : ox_H) : (Int) → Option (((Int) ⊕ Int)) := fun v2 => if v2 < 0 then ((J_Mod_entryOf_27 v2 σ).map .inr) else (if 0 ≤ v2 ∧ v2.toNat < 61 then (if (σ 10 0 21 v2.toNat) ≤ v1 then ((J_Mod_entryOf_27 v2 σ).map .inr) else (some (.inl (ox_w (v2 + (-1)))))) else none)
def J_Mod_entryOf_7  (v1 : Int) (v2 : Int) (σ : ox_H) : Option (Int) := ox_lp (B_Mod_entryOf_7 v1 σ) ox_fu v2
theorem L_Mod_entryOf_7  (v1 : Int) (v2 : Int) (σ : ox_H) (n tl : Nat) : ox_R (fun r => some ((fun r : Int => ((.inl (some (.inl r)), σ) : ox_O)) r)) (J_Mod_entryOf_7 v1 v2 σ) (ox_ev m_Mod_entryOf (ox_zz ox_ms (n + 0)) 7 0 tl [.inr (.inr (10, 0, 0)), .inl (v1), .inl (v2)] [] σ) := by
  unfold J_Mod_entryOf_7
  refine ox_R_lp (ψ := (fun (v2 : Int) => ox_ev m_Mod_entryOf (ox_zz ox_ms (n + 0)) 7 0 tl [.inr (.inr (10, 0, 0)), .inl (v1), .inl (v2)] [] σ)) ?_ ox_fu v2
  intro s
  revert s; intro v2
  unfold B_Mod_entryOf_7
  refine ox_R_to 2 (Y := if v2 < 0 then ox_ev m_Mod_entryOf (ox_zz ox_ms (n + 0)) 27 0 tl [ox_d, ox_d, .inl (v2)] [] σ else ox_ev m_Mod_entryOf (ox_zz ox_ms (n + 0)) 11 0 tl [.inr (.inr (10, 0, 0)), .inl (v1), .inl (v2)] [] σ) rfl ?_
  refine ox_R_if (fun _ => ?_) (fun _ => ?_)
  · exact ox_R_map ((L_Mod_entryOf_27 v2 σ n tl))
  · refine ox_R_to 4 (Y := if 0 ≤ v2 ∧ v2.toNat < 61 then ox_ev m_Mod_entryOf (ox_zz ox_ms (n + 0)) 17 0 tl [.inr (.inr (10, 0, 0)), .inl (v1), .inl (v2)] [.inl (σ 10 0 21 v2.toNat)] σ else none) rfl ?_
    refine ox_R_if (fun _ => ?_) (fun _ => ox_R_none)
    refine ox_R_to 2 (Y := if (σ 10 0 21 v2.toNat) ≤ v1 then ox_ev m_Mod_entryOf (ox_zz ox_ms (n + 0)) 27 0 tl [ox_d, ox_d, .inl (v2)] [] σ else ox_ev m_Mod_entryOf (ox_zz ox_ms (n + 0)) 21 0 tl [.inr (.inr (10, 0, 0)), .inl (v1), .inl (v2)] [] σ) rfl ?_
    refine ox_R_if (fun _ => ?_) (fun _ => ?_)
    · exact ox_R_map ((L_Mod_entryOf_27 v2 σ n tl))
    · refine ox_R_to 2 (Y := ox_ev m_Mod_entryOf (ox_zz ox_ms (n + 0)) 7 0 tl [.inr (.inr (10, 0, 0)), .inl (v1), .inl (ox_w (v2 + (-1)))] [] σ) rfl ?_
      exact ox_R_ret rfl
def F_Mod_entryOf  (a1 : Int) (σ : ox_H) : Option (Int) := (J_Mod_entryOf_7 a1 (ox_w ((σ 10 0 22 0) - 1)) σ)
theorem L_Mod_entryOf  (a1 : Int) (σ : ox_H) (n tl : Nat) : ox_R (fun r => some ((fun r : Int => ((.inl (some (.inl r)), σ) : ox_O)) r)) (F_Mod_entryOf a1 σ) (ox_zz ox_ms (n + 1) 113 tl [.inr (.inr (10, 0, 0)), .inl (a1)] σ) := by
  unfold F_Mod_entryOf
  refine ox_R_of (Y := ox_ev m_Mod_entryOf (ox_zz ox_ms (n + 0)) 0 0 tl [.inr (.inr (10, 0, 0)), .inl (a1), ox_d] [] σ) rfl ?_
  refine ox_R_to 5 (Y := ox_ev m_Mod_entryOf (ox_zz ox_ms (n + 0)) 7 0 tl [.inr (.inr (10, 0, 0)), .inl (a1), .inl (ox_w ((σ 10 0 22 0) - 1))] [] σ) rfl ?_
  exact (L_Mod_entryOf_7 a1 (ox_w ((σ 10 0 22 0) - 1)) σ n tl)
def J_Mod_top_22  (v2 : Int) (σ : ox_H) : Option (Int × ox_H) := some (v2, σ)
theorem L_Mod_top_22  (v2 : Int) (σ : ox_H) (n tl : Nat) : ox_R (fun r => some ((fun r : Int × ox_H => ((.inl (some (.inl r.1)), r.2) : ox_O)) r)) (J_Mod_top_22 v2 σ) (ox_ev m_Mod_top (ox_zz ox_ms (n + 6)) 22 0 tl [ox_d, ox_d, .inl (v2)] [] σ) := by
  unfold J_Mod_top_22
  refine ox_R_to 2 (Y := some (.inl (some (.inl (v2))), σ)) rfl ?_
  exact ox_R_ret rfl
def B_Mod_top_2  : (Int × ox_H) → Option (((Int × ox_H) ⊕ Int × ox_H)) := fun (v2, σ) => if v2 ≤ 0 then ((J_Mod_top_22 v2 σ).map .inr) else ((F_Mod_row (ox_w (v2 - 1)) σ).bind fun r1 => (if r1.1 = 0 then ((J_Mod_top_22 v2 r1.2).map .inr) else (some (.inl (ox_w (v2 + (-1)), r1.2)))))
def J_Mod_top_2  (v2 : Int) (σ : ox_H) : Option (Int × ox_H) := ox_lp (B_Mod_top_2) ox_fu (v2, σ)
theorem L_Mod_top_2  (v2 : Int) (σ : ox_H) (n tl : Nat) : ox_R (fun r => some ((fun r : Int × ox_H => ((.inl (some (.inl r.1)), r.2) : ox_O)) r)) (J_Mod_top_2 v2 σ) (ox_ev m_Mod_top (ox_zz ox_ms (n + 6)) 2 0 tl [.inr (.inr (10, 0, 0)), ox_d, .inl (v2)] [] σ) := by
  unfold J_Mod_top_2
  refine ox_R_lp (ψ := (fun (s : Int × ox_H) => match s with | (v2, σ) => ox_ev m_Mod_top (ox_zz ox_ms (n + 6)) 2 0 tl [.inr (.inr (10, 0, 0)), ox_d, .inl (v2)] [] σ)) ?_ ox_fu (v2, σ)
  intro s
  obtain ⟨v2, σ⟩ := s
  unfold B_Mod_top_2
  refine ox_R_to 2 (Y := if v2 ≤ 0 then ox_ev m_Mod_top (ox_zz ox_ms (n + 6)) 22 0 tl [ox_d, ox_d, .inl (v2)] [] σ else ox_ev m_Mod_top (ox_zz ox_ms (n + 6)) 6 0 tl [.inr (.inr (10, 0, 0)), ox_d, .inl (v2)] [] σ) rfl ?_
  refine ox_R_if (fun _ => ?_) (fun _ => ?_)
  · exact ox_R_map ((L_Mod_top_22 v2 σ n tl))
  · refine ox_R_to 5 (Y := ox_back m_Mod_top 10 1 [] ((ox_zz ox_ms (n + 6)) 61 tl [.inr (.inr (10, 0, 0)), .inl (ox_w (v2 - 1))] σ) (fun pc9 x9 st9 σ9 => ox_ev m_Mod_top (ox_zz ox_ms (n + 6)) pc9 0 tl (ox_kl (m_Mod_top.2.2.1 pc9) (ox_xl x9 [.inr (.inr (10, 0, 0)), ox_d, .inl (v2)])) st9 σ9)) rfl ?_
    refine ox_R_call (fc := (fun r : Int × ox_H => ((.inl (some (.inl r.1)), r.2) : ox_O))) (L_Mod_row (ox_w (v2 - 1)) σ (n + 0) tl) (fun r1 => ?_)
    refine ox_R_of (Y := ox_ev m_Mod_top (ox_zz ox_ms (n + 6)) 13 0 tl [.inr (.inr (10, 0, 0)), ox_d, .inl (v2)] [.inl (r1.1)] r1.2) rfl ?_
    refine ox_R_to 1 (Y := if r1.1 = 0 then ox_ev m_Mod_top (ox_zz ox_ms (n + 6)) 22 0 tl [ox_d, ox_d, .inl (v2)] [] r1.2 else ox_ev m_Mod_top (ox_zz ox_ms (n + 6)) 16 0 tl [.inr (.inr (10, 0, 0)), ox_d, .inl (v2)] [] r1.2) rfl ?_
    refine ox_R_if (fun _ => ?_) (fun _ => ?_)
    · exact ox_R_map ((L_Mod_top_22 v2 r1.2 n tl))
    · refine ox_R_to 2 (Y := ox_ev m_Mod_top (ox_zz ox_ms (n + 6)) 2 0 tl [.inr (.inr (10, 0, 0)), ox_d, .inl (ox_w (v2 + (-1)))] [] r1.2) rfl ?_
      exact ox_R_ret rfl
def F_Mod_top  (a1 : Int) (σ : ox_H) : Option (Int × ox_H) := (J_Mod_top_2 a1 σ)
theorem L_Mod_top  (a1 : Int) (σ : ox_H) (n tl : Nat) : ox_R (fun r => some ((fun r : Int × ox_H => ((.inl (some (.inl r.1)), r.2) : ox_O)) r)) (F_Mod_top a1 σ) (ox_zz ox_ms (n + 7) 114 tl [.inr (.inr (10, 0, 0)), .inl (a1)] σ) := by
  unfold F_Mod_top
  refine ox_R_of (Y := ox_ev m_Mod_top (ox_zz ox_ms (n + 6)) 0 0 tl [.inr (.inr (10, 0, 0)), .inl (a1), ox_d] [] σ) rfl ?_
  refine ox_R_to 2 (Y := ox_ev m_Mod_top (ox_zz ox_ms (n + 6)) 2 0 tl [.inr (.inr (10, 0, 0)), ox_d, .inl (a1)] [] σ) rfl ?_
  exact (L_Mod_top_2 a1 σ n tl)
def J_Mod_begin_46  (σ : ox_H) : Option Int := some (-1)
theorem L_Mod_begin_46  (σ : ox_H) (n tl : Nat) : ox_R (fun r => some ((fun r : Int => ((.inl (some (.inl r)), σ) : ox_O)) r)) (J_Mod_begin_46 σ) (ox_ev m_Mod_begin (ox_zz ox_ms (n + 1)) 46 0 tl [ox_d, ox_d, ox_d, ox_d, ox_d] [] σ) := by
  unfold J_Mod_begin_46
  refine ox_R_to 2 (Y := some (.inl (some (.inl ((-1)))), σ)) rfl ?_
  exact ox_R_ret rfl
def J_Mod_begin_32  (v4 : Int) (σ : ox_H) : Option Int := some (ox_w (v4 + 1))
theorem L_Mod_begin_32  (v4 : Int) (σ : ox_H) (n tl : Nat) : ox_R (fun r => some ((fun r : Int => ((.inl (some (.inl r)), σ) : ox_O)) r)) (J_Mod_begin_32 v4 σ) (ox_ev m_Mod_begin (ox_zz ox_ms (n + 1)) 32 0 tl [ox_d, ox_d, ox_d, ox_d, .inl (v4)] [] σ) := by
  unfold J_Mod_begin_32
  refine ox_R_to 4 (Y := some (.inl (some (.inl (ox_w (v4 + 1)))), σ)) rfl ?_
  exact ox_R_ret rfl
def J_Mod_begin_40  (v1 : Int) (v3 : Int) (v4 : Int) (σ : ox_H) : Option (((Int × Int) ⊕ Int)) := some (.inl (v3, ox_w (v4 + 1)))
theorem L_Mod_begin_40  (v1 : Int) (v3 : Int) (v4 : Int) (σ : ox_H) (n tl : Nat) : ox_R (Sum.elim (fun (s : Int × Int) => match s with | (v3, v4) => ox_ev m_Mod_begin (ox_zz ox_ms (n + 1)) 5 0 tl [.inr (.inr (10, 0, 0)), .inl (v1), ox_d, .inl (v3), .inl (v4)] [] σ) (fun r => some ((fun r : Int => ((.inl (some (.inl r)), σ) : ox_O)) r))) (J_Mod_begin_40 v1 v3 v4 σ) (ox_ev m_Mod_begin (ox_zz ox_ms (n + 1)) 40 0 tl [.inr (.inr (10, 0, 0)), .inl (v1), ox_d, .inl (v3), .inl (v4)] [] σ) := by
  unfold J_Mod_begin_40
  refine ox_R_to 2 (Y := ox_ev m_Mod_begin (ox_zz ox_ms (n + 1)) 5 0 tl [.inr (.inr (10, 0, 0)), .inl (v1), ox_d, .inl (v3), .inl (ox_w (v4 + 1))] [] σ) rfl ?_
  exact ox_R_ret rfl
def B_Mod_begin_5  (v1 : Int) (σ : ox_H) : (Int × Int) → Option (((Int × Int) ⊕ Int)) := fun (v3, v4) => if 0 ≤ v1 ∧ v1.toNat < 60 then (if (σ 10 0 1 v1.toNat) ≤ v4 then ((J_Mod_begin_46 σ).map .inr) else ((F_Mod_look v1 v4 σ).bind fun r1 => (if r1 = 124 then (if v3 = 0 then ((J_Mod_begin_32 v4 σ).map .inr) else (J_Mod_begin_40 v1 (ox_w (v3 + (-1))) v4 σ)) else (J_Mod_begin_40 v1 v3 v4 σ)))) else none
def J_Mod_begin_5  (v1 : Int) (v3 : Int) (v4 : Int) (σ : ox_H) : Option (Int) := ox_lp (B_Mod_begin_5 v1 σ) ox_fu (v3, v4)
theorem L_Mod_begin_5  (v1 : Int) (v3 : Int) (v4 : Int) (σ : ox_H) (n tl : Nat) : ox_R (fun r => some ((fun r : Int => ((.inl (some (.inl r)), σ) : ox_O)) r)) (J_Mod_begin_5 v1 v3 v4 σ) (ox_ev m_Mod_begin (ox_zz ox_ms (n + 1)) 5 0 tl [.inr (.inr (10, 0, 0)), .inl (v1), ox_d, .inl (v3), .inl (v4)] [] σ) := by
  unfold J_Mod_begin_5
  refine ox_R_lp (ψ := (fun (s : Int × Int) => match s with | (v3, v4) => ox_ev m_Mod_begin (ox_zz ox_ms (n + 1)) 5 0 tl [.inr (.inr (10, 0, 0)), .inl (v1), ox_d, .inl (v3), .inl (v4)] [] σ)) ?_ ox_fu (v3, v4)
  intro s
  obtain ⟨v3, v4⟩ := s
  unfold B_Mod_begin_5
  refine ox_R_to 5 (Y := if 0 ≤ v1 ∧ v1.toNat < 60 then ox_ev m_Mod_begin (ox_zz ox_ms (n + 1)) 13 0 tl [.inr (.inr (10, 0, 0)), .inl (v1), ox_d, .inl (v3), .inl (v4)] [.inl (σ 10 0 1 v1.toNat), .inl (v4)] σ else none) rfl ?_
  refine ox_R_if (fun _ => ?_) (fun _ => ox_R_none)
  refine ox_R_to 1 (Y := if (σ 10 0 1 v1.toNat) ≤ v4 then ox_ev m_Mod_begin (ox_zz ox_ms (n + 1)) 46 0 tl [ox_d, ox_d, ox_d, ox_d, ox_d] [] σ else ox_ev m_Mod_begin (ox_zz ox_ms (n + 1)) 16 0 tl [.inr (.inr (10, 0, 0)), .inl (v1), ox_d, .inl (v3), .inl (v4)] [] σ) rfl ?_
  refine ox_R_if (fun _ => ?_) (fun _ => ?_)
  · exact ox_R_map ((L_Mod_begin_46 σ n tl))
  · refine ox_R_to 4 (Y := ox_back m_Mod_begin 20 1 [] ((ox_zz ox_ms (n + 1)) 46 tl [.inr (.inr (10, 0, 0)), .inl (v1), .inl (v4)] σ) (fun pc9 x9 st9 σ9 => ox_ev m_Mod_begin (ox_zz ox_ms (n + 1)) pc9 0 tl (ox_kl (m_Mod_begin.2.2.1 pc9) (ox_xl x9 [.inr (.inr (10, 0, 0)), .inl (v1), ox_d, .inl (v3), .inl (v4)])) st9 σ9)) rfl ?_
    refine ox_R_call (fc := (fun r : Int => ((.inl (some (.inl r)), σ) : ox_O))) (L_Mod_look v1 v4 σ (n + 0) tl) (fun r1 => ?_)
    refine ox_R_of (Y := ox_ev m_Mod_begin (ox_zz ox_ms (n + 1)) 23 0 tl [.inr (.inr (10, 0, 0)), .inl (v1), ox_d, .inl (v3), .inl (v4)] [.inl (r1)] σ) rfl ?_
    refine ox_R_to 2 (Y := if r1 = 124 then ox_ev m_Mod_begin (ox_zz ox_ms (n + 1)) 28 0 tl [.inr (.inr (10, 0, 0)), .inl (v1), ox_d, .inl (v3), .inl (v4)] [] σ else ox_ev m_Mod_begin (ox_zz ox_ms (n + 1)) 40 0 tl [.inr (.inr (10, 0, 0)), .inl (v1), ox_d, .inl (v3), .inl (v4)] [] σ) rfl ?_
    refine ox_R_if (fun _ => ?_) (fun _ => ?_)
    · refine ox_R_to 2 (Y := if v3 = 0 then ox_ev m_Mod_begin (ox_zz ox_ms (n + 1)) 32 0 tl [ox_d, ox_d, ox_d, ox_d, .inl (v4)] [] σ else ox_ev m_Mod_begin (ox_zz ox_ms (n + 1)) 37 0 tl [.inr (.inr (10, 0, 0)), .inl (v1), ox_d, .inl (v3), .inl (v4)] [] σ) rfl ?_
      refine ox_R_if (fun _ => ?_) (fun _ => ?_)
      · exact ox_R_map ((L_Mod_begin_32 v4 σ n tl))
      · refine ox_R_to 1 (Y := ox_ev m_Mod_begin (ox_zz ox_ms (n + 1)) 40 0 tl [.inr (.inr (10, 0, 0)), .inl (v1), ox_d, .inl (ox_w (v3 + (-1))), .inl (v4)] [] σ) rfl ?_
        exact (L_Mod_begin_40 v1 (ox_w (v3 + (-1))) v4 σ n tl)
    · exact (L_Mod_begin_40 v1 v3 v4 σ n tl)
def F_Mod_begin  (a1 : Int) (a2 : Int) (σ : ox_H) : Option (Int) := (J_Mod_begin_5 a1 a2 0 σ)
theorem L_Mod_begin  (a1 : Int) (a2 : Int) (σ : ox_H) (n tl : Nat) : ox_R (fun r => some ((fun r : Int => ((.inl (some (.inl r)), σ) : ox_O)) r)) (F_Mod_begin a1 a2 σ) (ox_zz ox_ms (n + 2) 115 tl [.inr (.inr (10, 0, 0)), .inl (a1), .inl (a2)] σ) := by
  unfold F_Mod_begin
  refine ox_R_of (Y := ox_ev m_Mod_begin (ox_zz ox_ms (n + 1)) 0 0 tl [.inr (.inr (10, 0, 0)), .inl (a1), .inl (a2), ox_d, ox_d] [] σ) rfl ?_
  refine ox_R_to 4 (Y := ox_ev m_Mod_begin (ox_zz ox_ms (n + 1)) 5 0 tl [.inr (.inr (10, 0, 0)), .inl (a1), ox_d, .inl (a2), .inl (0)] [] σ) rfl ?_
  exact (L_Mod_begin_5 a1 a2 0 σ n tl)
def J_Mod_bound_24  (s0 : Int) (σ : ox_H) : Option Int := some s0
theorem L_Mod_bound_24  (s0 : Int) (σ : ox_H) (n tl : Nat) : ox_R (fun r => some ((fun r : Int => ((.inl (some (.inl r)), σ) : ox_O)) r)) (J_Mod_bound_24 s0 σ) (ox_ev m_Mod_bound (ox_zz ox_ms (n + 0)) 24 0 tl [ox_d, ox_d, ox_d] [.inl (s0)] σ) := by
  unfold J_Mod_bound_24
  refine ox_R_to 1 (Y := some (.inl (some (.inl (s0))), σ)) rfl ?_
  exact ox_R_ret rfl
def J_Mod_bound_16  (σ : ox_H) : Option Int := (J_Mod_bound_24 (ox_c 1000000 0) σ)
theorem L_Mod_bound_16  (σ : ox_H) (n tl : Nat) : ox_R (fun r => some ((fun r : Int => ((.inl (some (.inl r)), σ) : ox_O)) r)) (J_Mod_bound_16 σ) (ox_ev m_Mod_bound (ox_zz ox_ms (n + 0)) 16 0 tl [ox_d, ox_d, ox_d] [] σ) := by
  unfold J_Mod_bound_16
  refine ox_R_to 2 (Y := ox_ev m_Mod_bound (ox_zz ox_ms (n + 0)) 24 0 tl [ox_d, ox_d, ox_d] [.inl (ox_c 1000000 0)] σ) rfl ?_
  exact (L_Mod_bound_24 (ox_c 1000000 0) σ n tl)
def F_Mod_bound  (a1 : Int) (σ : ox_H) : Option (Int) := if 0 < (if a1 < (ox_c 999999 0) then -1 else if a1 = (ox_c 999999 0) then 0 else 1) then (J_Mod_bound_16 σ) else (if 0 ≤ (if a1 < (ox_c 0 999999) then -1 else if a1 = (ox_c 0 999999) then 0 else 1) then (J_Mod_bound_24 (ox_w a1) σ) else (J_Mod_bound_16 σ))
theorem L_Mod_bound  (a1 : Int) (σ : ox_H) (n tl : Nat) : ox_R (fun r => some ((fun r : Int => ((.inl (some (.inl r)), σ) : ox_O)) r)) (F_Mod_bound a1 σ) (ox_zz ox_ms (n + 1) 116 tl [.inr (.inr (10, 0, 0)), .inr (.inl (a1))] σ) := by
  unfold F_Mod_bound
  refine ox_R_of (Y := ox_ev m_Mod_bound (ox_zz ox_ms (n + 0)) 0 0 tl [.inr (.inr (10, 0, 0)), .inr (.inl (a1)), ox_d] [] σ) rfl ?_
  refine ox_R_to 4 (Y := if 0 < (if a1 < (ox_c 999999 0) then -1 else if a1 = (ox_c 999999 0) then 0 else 1) then ox_ev m_Mod_bound (ox_zz ox_ms (n + 0)) 16 0 tl [ox_d, ox_d, ox_d] [] σ else ox_ev m_Mod_bound (ox_zz ox_ms (n + 0)) 8 0 tl [.inr (.inr (10, 0, 0)), .inr (.inl (a1)), ox_d] [] σ) rfl ?_
  refine ox_R_if (fun _ => ?_) (fun _ => ?_)
  · exact (L_Mod_bound_16 σ n tl)
  · refine ox_R_to 4 (Y := if 0 ≤ (if a1 < (ox_c 0 999999) then -1 else if a1 = (ox_c 0 999999) then 0 else 1) then ox_ev m_Mod_bound (ox_zz ox_ms (n + 0)) 22 0 tl [.inr (.inr (10, 0, 0)), .inr (.inl (a1)), ox_d] [] σ else ox_ev m_Mod_bound (ox_zz ox_ms (n + 0)) 16 0 tl [ox_d, ox_d, ox_d] [] σ) rfl ?_
    refine ox_R_if (fun _ => ?_) (fun _ => ?_)
    · refine ox_R_to 2 (Y := ox_ev m_Mod_bound (ox_zz ox_ms (n + 0)) 24 0 tl [ox_d, ox_d, ox_d] [.inl (ox_w a1)] σ) rfl ?_
      exact (L_Mod_bound_24 (ox_w a1) σ n tl)
    · exact (L_Mod_bound_16 σ n tl)
def F_Mod_digits  (a1 : Int) (a2 : Int) (σ : ox_H) : Option (Int × ox_H) := (F_Mod_number a1 (ox_up σ 10 0 11 0 a2)).bind fun r1 => (some (r1.1, r1.2))
theorem L_Mod_digits  (a1 : Int) (a2 : Int) (σ : ox_H) (n tl : Nat) : ox_R (fun r => some ((fun r : Int × ox_H => ((.inl (some (.inl r.1)), r.2) : ox_O)) r)) (F_Mod_digits a1 a2 σ) (ox_zz ox_ms (n + 4) 118 tl [.inr (.inr (10, 0, 0)), .inl (a1), .inl (a2)] σ) := by
  unfold F_Mod_digits
  refine ox_R_of (Y := ox_ev m_Mod_digits (ox_zz ox_ms (n + 3)) 0 0 tl [.inr (.inr (10, 0, 0)), .inl (a1), .inl (a2)] [] σ) rfl ?_
  refine ox_R_to 6 (Y := ox_back m_Mod_digits 7 1 [] ((ox_zz ox_ms (n + 3)) 49 tl [.inr (.inr (10, 0, 0)), .inl (a1)] (ox_up σ 10 0 11 0 a2)) (fun pc9 x9 st9 σ9 => ox_ev m_Mod_digits (ox_zz ox_ms (n + 3)) pc9 0 tl (ox_kl (m_Mod_digits.2.2.1 pc9) (ox_xl x9 [.inr (.inr (10, 0, 0)), .inl (a1), .inl (a2)])) st9 σ9)) rfl ?_
  refine ox_R_call (fc := (fun r : Int × ox_H => ((.inl (some (.inl r.1)), r.2) : ox_O))) (L_Mod_number a1 (ox_up σ 10 0 11 0 a2) (n + 0) tl) (fun r1 => ?_)
  refine ox_R_of (Y := ox_ev m_Mod_digits (ox_zz ox_ms (n + 3)) 10 0 tl [.inr (.inr (10, 0, 0)), .inl (a1), .inl (a2)] [.inl (r1.1)] r1.2) rfl ?_
  refine ox_R_to 1 (Y := some (.inl (some (.inl (r1.1))), r1.2)) rfl ?_
  exact ox_R_ret rfl
def J_Mod_value_30 (P : Int → Int → Int → ox_H → Option (Int × ox_H))  (σ : ox_H) : Option (Int × ox_H) := some (ox_c 1000000 0, σ)
theorem L_Mod_value_30 (n : Nat) (P : Int → Int → Int → ox_H → Option (Int × ox_H)) (hP : ∀ (a1 a2 a3 : Int) (σ : ox_H) (tl : Nat), ox_R (fun r => some ((fun r : Int × ox_H => ((.inl (some (.inl r.1)), r.2) : ox_O)) r)) (P a1 a2 a3 σ) (ox_zz ox_ms (n + 10) 120 tl [.inr (.inr (10, 0, 0)), .inl (a1), .inl (a2), .inl (a3)] σ))  (σ : ox_H) (tl : Nat) : ox_R (fun r => some ((fun r : Int × ox_H => ((.inl (some (.inl r.1)), r.2) : ox_O)) r)) (J_Mod_value_30 P σ) (ox_ev m_Mod_value (ox_zz ox_ms (n + 10)) 30 0 tl [ox_d, ox_d, ox_d, ox_d, ox_d, ox_d, ox_d] [] σ) := by
  unfold J_Mod_value_30
  refine ox_R_to 2 (Y := some (.inl (some (.inl (ox_c 1000000 0))), σ)) rfl ?_
  exact ox_R_ret rfl
def J_Mod_value_140 (P : Int → Int → Int → ox_H → Option (Int × ox_H))  (v4 : Int) (v5 : Int) (σ : ox_H) : Option (Int × ox_H) := if 0 ≤ v4 ∧ v4.toNat < 1440 then (if 0 ≤ v4 ∧ v4.toNat < 1440 then (if 0 ≤ v4 ∧ v4.toNat < 1440 then (some (v5, (ox_up (ox_up (ox_up σ 10 0 41 v4.toNat 0) 10 0 37 v4.toNat (σ 10 0 36 0)) 10 0 38 v4.toNat v5))) else none) else none) else none
theorem L_Mod_value_140 (n : Nat) (P : Int → Int → Int → ox_H → Option (Int × ox_H)) (hP : ∀ (a1 a2 a3 : Int) (σ : ox_H) (tl : Nat), ox_R (fun r => some ((fun r : Int × ox_H => ((.inl (some (.inl r.1)), r.2) : ox_O)) r)) (P a1 a2 a3 σ) (ox_zz ox_ms (n + 10) 120 tl [.inr (.inr (10, 0, 0)), .inl (a1), .inl (a2), .inl (a3)] σ))  (v4 : Int) (v5 : Int) (σ : ox_H) (tl : Nat) : ox_R (fun r => some ((fun r : Int × ox_H => ((.inl (some (.inl r.1)), r.2) : ox_O)) r)) (J_Mod_value_140 P v4 v5 σ) (ox_ev m_Mod_value (ox_zz ox_ms (n + 10)) 140 0 tl [.inr (.inr (10, 0, 0)), ox_d, ox_d, ox_d, .inl (v4), .inl (v5), ox_d] [] σ) := by
  unfold J_Mod_value_140
  refine ox_R_to 5 (Y := if 0 ≤ v4 ∧ v4.toNat < 1440 then ox_ev m_Mod_value (ox_zz ox_ms (n + 10)) 148 0 tl [.inr (.inr (10, 0, 0)), ox_d, ox_d, ox_d, .inl (v4), .inl (v5), ox_d] [] (ox_up σ 10 0 41 v4.toNat 0) else none) rfl ?_
  refine ox_R_if (fun _ => ?_) (fun _ => ox_R_none)
  refine ox_R_to 6 (Y := if 0 ≤ v4 ∧ v4.toNat < 1440 then ox_ev m_Mod_value (ox_zz ox_ms (n + 10)) 159 0 tl [.inr (.inr (10, 0, 0)), ox_d, ox_d, ox_d, .inl (v4), .inl (v5), ox_d] [] (ox_up (ox_up σ 10 0 41 v4.toNat 0) 10 0 37 v4.toNat (σ 10 0 36 0)) else none) rfl ?_
  refine ox_R_if (fun _ => ?_) (fun _ => ox_R_none)
  refine ox_R_to 5 (Y := if 0 ≤ v4 ∧ v4.toNat < 1440 then ox_ev m_Mod_value (ox_zz ox_ms (n + 10)) 168 0 tl [.inr (.inr (10, 0, 0)), ox_d, ox_d, ox_d, .inl (v4), .inl (v5), ox_d] [] (ox_up (ox_up (ox_up σ 10 0 41 v4.toNat 0) 10 0 37 v4.toNat (σ 10 0 36 0)) 10 0 38 v4.toNat v5) else none) rfl ?_
  refine ox_R_if (fun _ => ?_) (fun _ => ox_R_none)
  refine ox_R_to 2 (Y := some (.inl (some (.inl (v5))), (ox_up (ox_up (ox_up σ 10 0 41 v4.toNat 0) 10 0 37 v4.toNat (σ 10 0 36 0)) 10 0 38 v4.toNat v5))) rfl ?_
  exact ox_R_ret rfl
def J_Mod_value_137 (P : Int → Int → Int → ox_H → Option (Int × ox_H))  (v4 : Int) (s0 : Int) (s1 : Int) (σ : ox_H) : Option (Int × ox_H) := (J_Mod_value_140 P v4 (ox_w (s1 * s0)) σ)
theorem L_Mod_value_137 (n : Nat) (P : Int → Int → Int → ox_H → Option (Int × ox_H)) (hP : ∀ (a1 a2 a3 : Int) (σ : ox_H) (tl : Nat), ox_R (fun r => some ((fun r : Int × ox_H => ((.inl (some (.inl r.1)), r.2) : ox_O)) r)) (P a1 a2 a3 σ) (ox_zz ox_ms (n + 10) 120 tl [.inr (.inr (10, 0, 0)), .inl (a1), .inl (a2), .inl (a3)] σ))  (v4 : Int) (s0 : Int) (s1 : Int) (σ : ox_H) (tl : Nat) : ox_R (fun r => some ((fun r : Int × ox_H => ((.inl (some (.inl r.1)), r.2) : ox_O)) r)) (J_Mod_value_137 P v4 s0 s1 σ) (ox_ev m_Mod_value (ox_zz ox_ms (n + 10)) 137 0 tl [.inr (.inr (10, 0, 0)), ox_d, ox_d, ox_d, .inl (v4), ox_d, ox_d] [.inl (s0), .inl (s1)] σ) := by
  unfold J_Mod_value_137
  refine ox_R_to 2 (Y := ox_ev m_Mod_value (ox_zz ox_ms (n + 10)) 140 0 tl [.inr (.inr (10, 0, 0)), ox_d, ox_d, ox_d, .inl (v4), .inl (ox_w (s1 * s0)), ox_d] [] σ) rfl ?_
  exact (L_Mod_value_140 n P hP v4 (ox_w (s1 * s0)) σ tl)
def J_Mod_value_124 (P : Int → Int → Int → ox_H → Option (Int × ox_H))  (v4 : Int) (v6 : Int) (s0 : Int) (s1 : Int) (σ : ox_H) : Option (Int × ox_H) := (F_Mod_digits s1 s0 σ).bind fun r1 => (if v6 = 0 then (J_Mod_value_137 P v4 1 r1.1 r1.2) else (J_Mod_value_137 P v4 (-1) r1.1 r1.2))
theorem L_Mod_value_124 (n : Nat) (P : Int → Int → Int → ox_H → Option (Int × ox_H)) (hP : ∀ (a1 a2 a3 : Int) (σ : ox_H) (tl : Nat), ox_R (fun r => some ((fun r : Int × ox_H => ((.inl (some (.inl r.1)), r.2) : ox_O)) r)) (P a1 a2 a3 σ) (ox_zz ox_ms (n + 10) 120 tl [.inr (.inr (10, 0, 0)), .inl (a1), .inl (a2), .inl (a3)] σ))  (v4 : Int) (v6 : Int) (s0 : Int) (s1 : Int) (σ : ox_H) (tl : Nat) : ox_R (fun r => some ((fun r : Int × ox_H => ((.inl (some (.inl r.1)), r.2) : ox_O)) r)) (J_Mod_value_124 P v4 v6 s0 s1 σ) (ox_ev m_Mod_value (ox_zz ox_ms (n + 10)) 124 0 tl [.inr (.inr (10, 0, 0)), ox_d, ox_d, ox_d, .inl (v4), ox_d, .inl (v6)] [.inl (s0), .inl (s1), .inr (.inr (10, 0, 0))] σ) := by
  unfold J_Mod_value_124
  refine ox_R_to 1 (Y := ox_back m_Mod_value 124 1 [] ((ox_zz ox_ms (n + 10)) 118 tl [.inr (.inr (10, 0, 0)), .inl (s1), .inl (s0)] σ) (fun pc9 x9 st9 σ9 => ox_ev m_Mod_value (ox_zz ox_ms (n + 10)) pc9 0 tl (ox_kl (m_Mod_value.2.2.1 pc9) (ox_xl x9 [.inr (.inr (10, 0, 0)), ox_d, ox_d, ox_d, .inl (v4), ox_d, .inl (v6)])) st9 σ9)) rfl ?_
  refine ox_R_call (fc := (fun r : Int × ox_H => ((.inl (some (.inl r.1)), r.2) : ox_O))) (L_Mod_digits s1 s0 σ (n + 6) tl) (fun r1 => ?_)
  refine ox_R_of (Y := ox_ev m_Mod_value (ox_zz ox_ms (n + 10)) 127 0 tl [.inr (.inr (10, 0, 0)), ox_d, ox_d, ox_d, .inl (v4), ox_d, .inl (v6)] [.inl (r1.1)] r1.2) rfl ?_
  refine ox_R_to 2 (Y := if v6 = 0 then ox_ev m_Mod_value (ox_zz ox_ms (n + 10)) 136 0 tl [.inr (.inr (10, 0, 0)), ox_d, ox_d, ox_d, .inl (v4), ox_d, .inl (v6)] [.inl (r1.1)] r1.2 else ox_ev m_Mod_value (ox_zz ox_ms (n + 10)) 132 0 tl [.inr (.inr (10, 0, 0)), ox_d, ox_d, ox_d, .inl (v4), ox_d, .inl (v6)] [.inl (r1.1)] r1.2) rfl ?_
  refine ox_R_if (fun _ => ?_) (fun _ => ?_)
  · refine ox_R_to 1 (Y := ox_ev m_Mod_value (ox_zz ox_ms (n + 10)) 137 0 tl [.inr (.inr (10, 0, 0)), ox_d, ox_d, ox_d, .inl (v4), ox_d, ox_d] [.inl (1), .inl (r1.1)] r1.2) rfl ?_
    exact (L_Mod_value_137 n P hP v4 1 r1.1 r1.2 tl)
  · refine ox_R_to 2 (Y := ox_ev m_Mod_value (ox_zz ox_ms (n + 10)) 137 0 tl [.inr (.inr (10, 0, 0)), ox_d, ox_d, ox_d, .inl (v4), ox_d, ox_d] [.inl ((-1)), .inl (r1.1)] r1.2) rfl ?_
    exact (L_Mod_value_137 n P hP v4 (-1) r1.1 r1.2 tl)
def J_Mod_value_108 (P : Int → Int → Int → ox_H → Option (Int × ox_H))  (v1 : Int) (v3 : Int) (v4 : Int) (s0 : Int) (σ : ox_H) : Option (Int × ox_H) := if s0 = 0 then (J_Mod_value_124 P v4 s0 v3 v1 σ) else (J_Mod_value_124 P v4 s0 (ox_w (v3 + 1)) v1 σ)
theorem L_Mod_value_108 (n : Nat) (P : Int → Int → Int → ox_H → Option (Int × ox_H)) (hP : ∀ (a1 a2 a3 : Int) (σ : ox_H) (tl : Nat), ox_R (fun r => some ((fun r : Int × ox_H => ((.inl (some (.inl r.1)), r.2) : ox_O)) r)) (P a1 a2 a3 σ) (ox_zz ox_ms (n + 10) 120 tl [.inr (.inr (10, 0, 0)), .inl (a1), .inl (a2), .inl (a3)] σ))  (v1 : Int) (v3 : Int) (v4 : Int) (s0 : Int) (σ : ox_H) (tl : Nat) : ox_R (fun r => some ((fun r : Int × ox_H => ((.inl (some (.inl r.1)), r.2) : ox_O)) r)) (J_Mod_value_108 P v1 v3 v4 s0 σ) (ox_ev m_Mod_value (ox_zz ox_ms (n + 10)) 108 0 tl [.inr (.inr (10, 0, 0)), .inl (v1), ox_d, .inl (v3), .inl (v4), ox_d, ox_d] [.inl (s0)] σ) := by
  unfold J_Mod_value_108
  refine ox_R_to 5 (Y := if s0 = 0 then ox_ev m_Mod_value (ox_zz ox_ms (n + 10)) 123 0 tl [.inr (.inr (10, 0, 0)), .inl (v1), ox_d, .inl (v3), .inl (v4), ox_d, .inl (s0)] [.inl (v1), .inr (.inr (10, 0, 0))] σ else ox_ev m_Mod_value (ox_zz ox_ms (n + 10)) 117 0 tl [.inr (.inr (10, 0, 0)), .inl (v1), ox_d, .inl (v3), .inl (v4), ox_d, .inl (s0)] [.inl (v1), .inr (.inr (10, 0, 0))] σ) rfl ?_
  refine ox_R_if (fun _ => ?_) (fun _ => ?_)
  · refine ox_R_to 1 (Y := ox_ev m_Mod_value (ox_zz ox_ms (n + 10)) 124 0 tl [.inr (.inr (10, 0, 0)), ox_d, ox_d, ox_d, .inl (v4), ox_d, .inl (s0)] [.inl (v3), .inl (v1), .inr (.inr (10, 0, 0))] σ) rfl ?_
    exact (L_Mod_value_124 n P hP v4 s0 v3 v1 σ tl)
  · refine ox_R_to 4 (Y := ox_ev m_Mod_value (ox_zz ox_ms (n + 10)) 124 0 tl [.inr (.inr (10, 0, 0)), ox_d, ox_d, ox_d, .inl (v4), ox_d, .inl (s0)] [.inl (ox_w (v3 + 1)), .inl (v1), .inr (.inr (10, 0, 0))] σ) rfl ?_
    exact (L_Mod_value_124 n P hP v4 s0 (ox_w (v3 + 1)) v1 σ tl)
def F_Mod_value (P : Int → Int → Int → ox_H → Option (Int × ox_H))  (a1 : Int) (a2 : Int) (σ : ox_H) : Option (Int × ox_H) := (F_Mod_begin a1 a2 σ).bind fun r2 => (if r2 < 0 then (J_Mod_value_30 P σ) else (if 0 ≤ (ox_w ((ox_w (24 * a1)) + a2)) ∧ (ox_w ((ox_w (24 * a1)) + a2)).toNat < 1440 then (if (σ 10 0 41 ((ox_w ((ox_w (24 * a1)) + a2)).toNat)) = 1 then (J_Mod_value_30 P σ) else (if 0 ≤ (ox_w ((ox_w (24 * a1)) + a2)) ∧ (ox_w ((ox_w (24 * a1)) + a2)).toNat < 1440 then (if (σ 10 0 37 ((ox_w ((ox_w (24 * a1)) + a2)).toNat)) = (σ 10 0 36 0) then (if 0 ≤ (ox_w ((ox_w (24 * a1)) + a2)) ∧ (ox_w ((ox_w (24 * a1)) + a2)).toNat < 1440 then (some (σ 10 0 38 ((ox_w ((ox_w (24 * a1)) + a2)).toNat), σ)) else none) else (if 0 ≤ (ox_w ((ox_w (24 * a1)) + a2)) ∧ (ox_w ((ox_w (24 * a1)) + a2)).toNat < 1440 then ((F_Mod_look a1 r2 (ox_up σ 10 0 41 ((ox_w ((ox_w (24 * a1)) + a2)).toNat) 1)).bind fun r3 => (if r3 = 61 then ((P a1 (ox_w (r2 + 1)) 0 (ox_up σ 10 0 41 ((ox_w ((ox_w (24 * a1)) + a2)).toNat) 1)).bind fun r4 => (J_Mod_value_140 P (ox_w ((ox_w (24 * a1)) + a2)) r4.1 r4.2)) else ((F_Mod_look a1 r2 (ox_up σ 10 0 41 ((ox_w ((ox_w (24 * a1)) + a2)).toNat) 1)).bind fun r5 => (if r5 = 45 then (J_Mod_value_108 P a1 r2 (ox_w ((ox_w (24 * a1)) + a2)) 1 (ox_up σ 10 0 41 ((ox_w ((ox_w (24 * a1)) + a2)).toNat) 1)) else (J_Mod_value_108 P a1 r2 (ox_w ((ox_w (24 * a1)) + a2)) 0 (ox_up σ 10 0 41 ((ox_w ((ox_w (24 * a1)) + a2)).toNat) 1)))))) else none)) else none)) else none))
theorem L_Mod_value (n : Nat) (P : Int → Int → Int → ox_H → Option (Int × ox_H)) (hP : ∀ (a1 a2 a3 : Int) (σ : ox_H) (tl : Nat), ox_R (fun r => some ((fun r : Int × ox_H => ((.inl (some (.inl r.1)), r.2) : ox_O)) r)) (P a1 a2 a3 σ) (ox_zz ox_ms (n + 10) 120 tl [.inr (.inr (10, 0, 0)), .inl (a1), .inl (a2), .inl (a3)] σ))  (a1 : Int) (a2 : Int) (σ : ox_H) (tl : Nat) : ox_R (fun r => some ((fun r : Int × ox_H => ((.inl (some (.inl r.1)), r.2) : ox_O)) r)) (F_Mod_value P a1 a2 σ) (ox_zz ox_ms (n + 11) 117 tl [.inr (.inr (10, 0, 0)), .inl (a1), .inl (a2)] σ) := by
  unfold F_Mod_value
  refine ox_R_of (Y := ox_ev m_Mod_value (ox_zz ox_ms (n + 10)) 0 0 tl [.inr (.inr (10, 0, 0)), .inl (a1), .inl (a2), ox_d, ox_d, ox_d, ox_d] [] σ) rfl ?_
  refine ox_R_to 4 (Y := ox_back m_Mod_value 3 1 [] ((ox_zz ox_ms (n + 10)) 115 tl [.inr (.inr (10, 0, 0)), .inl (a1), .inl (a2)] σ) (fun pc9 x9 st9 σ9 => ox_ev m_Mod_value (ox_zz ox_ms (n + 10)) pc9 0 tl (ox_kl (m_Mod_value.2.2.1 pc9) (ox_xl x9 [.inr (.inr (10, 0, 0)), .inl (a1), .inl (a2), ox_d, ox_d, ox_d, ox_d])) st9 σ9)) rfl ?_
  refine ox_R_call (fc := (fun r : Int => ((.inl (some (.inl r)), σ) : ox_O))) (L_Mod_begin a1 a2 σ (n + 8) tl) (fun r2 => ?_)
  refine ox_R_of (Y := ox_ev m_Mod_value (ox_zz ox_ms (n + 10)) 6 0 tl [.inr (.inr (10, 0, 0)), .inl (a1), .inl (a2), ox_d, ox_d, ox_d, ox_d] [.inl (r2)] σ) rfl ?_
  refine ox_R_to 9 (Y := if r2 < 0 then ox_ev m_Mod_value (ox_zz ox_ms (n + 10)) 30 0 tl [ox_d, ox_d, ox_d, ox_d, ox_d, ox_d, ox_d] [] σ else ox_ev m_Mod_value (ox_zz ox_ms (n + 10)) 19 0 tl [.inr (.inr (10, 0, 0)), .inl (a1), .inl (a2), .inl (r2), .inl (ox_w ((ox_w (24 * a1)) + a2)), ox_d, ox_d] [] σ) rfl ?_
  refine ox_R_if (fun _ => ?_) (fun _ => ?_)
  · exact (L_Mod_value_30 n P hP σ tl)
  · refine ox_R_to 4 (Y := if 0 ≤ (ox_w ((ox_w (24 * a1)) + a2)) ∧ (ox_w ((ox_w (24 * a1)) + a2)).toNat < 1440 then ox_ev m_Mod_value (ox_zz ox_ms (n + 10)) 26 0 tl [.inr (.inr (10, 0, 0)), .inl (a1), .inl (a2), .inl (r2), .inl (ox_w ((ox_w (24 * a1)) + a2)), ox_d, ox_d] [.inl (σ 10 0 41 ((ox_w ((ox_w (24 * a1)) + a2)).toNat))] σ else none) rfl ?_
    refine ox_R_if (fun _ => ?_) (fun _ => ox_R_none)
    refine ox_R_to 2 (Y := if (σ 10 0 41 ((ox_w ((ox_w (24 * a1)) + a2)).toNat)) = 1 then ox_ev m_Mod_value (ox_zz ox_ms (n + 10)) 30 0 tl [ox_d, ox_d, ox_d, ox_d, ox_d, ox_d, ox_d] [] σ else ox_ev m_Mod_value (ox_zz ox_ms (n + 10)) 34 0 tl [.inr (.inr (10, 0, 0)), .inl (a1), .inl (a2), .inl (r2), .inl (ox_w ((ox_w (24 * a1)) + a2)), ox_d, ox_d] [] σ) rfl ?_
    refine ox_R_if (fun _ => ?_) (fun _ => ?_)
    · exact (L_Mod_value_30 n P hP σ tl)
    · refine ox_R_to 4 (Y := if 0 ≤ (ox_w ((ox_w (24 * a1)) + a2)) ∧ (ox_w ((ox_w (24 * a1)) + a2)).toNat < 1440 then ox_ev m_Mod_value (ox_zz ox_ms (n + 10)) 41 0 tl [.inr (.inr (10, 0, 0)), .inl (a1), .inl (a2), .inl (r2), .inl (ox_w ((ox_w (24 * a1)) + a2)), ox_d, ox_d] [.inl (σ 10 0 37 ((ox_w ((ox_w (24 * a1)) + a2)).toNat))] σ else none) rfl ?_
      refine ox_R_if (fun _ => ?_) (fun _ => ox_R_none)
      refine ox_R_to 3 (Y := if (σ 10 0 37 ((ox_w ((ox_w (24 * a1)) + a2)).toNat)) = (σ 10 0 36 0) then ox_ev m_Mod_value (ox_zz ox_ms (n + 10)) 48 0 tl [.inr (.inr (10, 0, 0)), .inl (a1), .inl (a2), .inl (r2), .inl (ox_w ((ox_w (24 * a1)) + a2)), ox_d, ox_d] [] σ else ox_ev m_Mod_value (ox_zz ox_ms (n + 10)) 56 0 tl [.inr (.inr (10, 0, 0)), .inl (a1), .inl (a2), .inl (r2), .inl (ox_w ((ox_w (24 * a1)) + a2)), ox_d, ox_d] [] σ) rfl ?_
      refine ox_R_if (fun _ => ?_) (fun _ => ?_)
      · refine ox_R_to 4 (Y := if 0 ≤ (ox_w ((ox_w (24 * a1)) + a2)) ∧ (ox_w ((ox_w (24 * a1)) + a2)).toNat < 1440 then ox_ev m_Mod_value (ox_zz ox_ms (n + 10)) 55 0 tl [.inr (.inr (10, 0, 0)), .inl (a1), .inl (a2), .inl (r2), .inl (ox_w ((ox_w (24 * a1)) + a2)), ox_d, ox_d] [.inl (σ 10 0 38 ((ox_w ((ox_w (24 * a1)) + a2)).toNat))] σ else none) rfl ?_
        refine ox_R_if (fun _ => ?_) (fun _ => ox_R_none)
        refine ox_R_to 1 (Y := some (.inl (some (.inl (σ 10 0 38 ((ox_w ((ox_w (24 * a1)) + a2)).toNat)))), σ)) rfl ?_
        exact ox_R_ret rfl
      · refine ox_R_to 5 (Y := if 0 ≤ (ox_w ((ox_w (24 * a1)) + a2)) ∧ (ox_w ((ox_w (24 * a1)) + a2)).toNat < 1440 then ox_ev m_Mod_value (ox_zz ox_ms (n + 10)) 64 0 tl [.inr (.inr (10, 0, 0)), .inl (a1), .inl (a2), .inl (r2), .inl (ox_w ((ox_w (24 * a1)) + a2)), ox_d, ox_d] [] (ox_up σ 10 0 41 ((ox_w ((ox_w (24 * a1)) + a2)).toNat) 1) else none) rfl ?_
        refine ox_R_if (fun _ => ?_) (fun _ => ox_R_none)
        refine ox_R_to 6 (Y := ox_back m_Mod_value 70 1 [] ((ox_zz ox_ms (n + 10)) 46 tl [.inr (.inr (10, 0, 0)), .inl (a1), .inl (r2)] (ox_up σ 10 0 41 ((ox_w ((ox_w (24 * a1)) + a2)).toNat) 1)) (fun pc9 x9 st9 σ9 => ox_ev m_Mod_value (ox_zz ox_ms (n + 10)) pc9 0 tl (ox_kl (m_Mod_value.2.2.1 pc9) (ox_xl x9 [.inr (.inr (10, 0, 0)), .inl (a1), .inl (a2), .inl (r2), .inl (ox_w ((ox_w (24 * a1)) + a2)), .inl (0), ox_d])) st9 σ9)) rfl ?_
        refine ox_R_call (fc := (fun r : Int => ((.inl (some (.inl r)), (ox_up σ 10 0 41 ((ox_w ((ox_w (24 * a1)) + a2)).toNat) 1)) : ox_O))) (L_Mod_look a1 r2 (ox_up σ 10 0 41 ((ox_w ((ox_w (24 * a1)) + a2)).toNat) 1) (n + 9) tl) (fun r3 => ?_)
        refine ox_R_of (Y := ox_ev m_Mod_value (ox_zz ox_ms (n + 10)) 73 0 tl [.inr (.inr (10, 0, 0)), .inl (a1), .inl (a2), .inl (r2), .inl (ox_w ((ox_w (24 * a1)) + a2)), .inl (0), ox_d] [.inl (r3)] (ox_up σ 10 0 41 ((ox_w ((ox_w (24 * a1)) + a2)).toNat) 1)) rfl ?_
        refine ox_R_to 2 (Y := if r3 = 61 then ox_ev m_Mod_value (ox_zz ox_ms (n + 10)) 78 0 tl [.inr (.inr (10, 0, 0)), .inl (a1), .inl (a2), .inl (r2), .inl (ox_w ((ox_w (24 * a1)) + a2)), .inl (0), ox_d] [] (ox_up σ 10 0 41 ((ox_w ((ox_w (24 * a1)) + a2)).toNat) 1) else ox_ev m_Mod_value (ox_zz ox_ms (n + 10)) 92 0 tl [.inr (.inr (10, 0, 0)), .inl (a1), .inl (a2), .inl (r2), .inl (ox_w ((ox_w (24 * a1)) + a2)), .inl (0), ox_d] [] (ox_up σ 10 0 41 ((ox_w ((ox_w (24 * a1)) + a2)).toNat) 1)) rfl ?_
        refine ox_R_if (fun _ => ?_) (fun _ => ?_)
        · refine ox_R_to 7 (Y := ox_back m_Mod_value 84 1 [] ((ox_zz ox_ms (n + 10)) 120 tl [.inr (.inr (10, 0, 0)), .inl (a1), .inl (ox_w (r2 + 1)), .inl (0)] (ox_up σ 10 0 41 ((ox_w ((ox_w (24 * a1)) + a2)).toNat) 1)) (fun pc9 x9 st9 σ9 => ox_ev m_Mod_value (ox_zz ox_ms (n + 10)) pc9 0 tl (ox_kl (m_Mod_value.2.2.1 pc9) (ox_xl x9 [.inr (.inr (10, 0, 0)), .inl (a1), .inl (a2), .inl (r2), .inl (ox_w ((ox_w (24 * a1)) + a2)), .inl (0), ox_d])) st9 σ9)) rfl ?_
          refine ox_R_call (fc := (fun r : Int × ox_H => ((.inl (some (.inl r.1)), r.2) : ox_O))) (hP a1 (ox_w (r2 + 1)) 0 (ox_up σ 10 0 41 ((ox_w ((ox_w (24 * a1)) + a2)).toNat) 1) tl) (fun r4 => ?_)
          refine ox_R_of (Y := ox_ev m_Mod_value (ox_zz ox_ms (n + 10)) 87 0 tl [.inr (.inr (10, 0, 0)), .inl (a1), .inl (a2), .inl (r2), .inl (ox_w ((ox_w (24 * a1)) + a2)), .inl (0), ox_d] [.inl (r4.1)] r4.2) rfl ?_
          refine ox_R_to 2 (Y := ox_ev m_Mod_value (ox_zz ox_ms (n + 10)) 140 0 tl [.inr (.inr (10, 0, 0)), ox_d, ox_d, ox_d, .inl (ox_w ((ox_w (24 * a1)) + a2)), .inl (r4.1), ox_d] [] r4.2) rfl ?_
          exact (L_Mod_value_140 n P hP (ox_w ((ox_w (24 * a1)) + a2)) r4.1 r4.2 tl)
        · refine ox_R_to 4 (Y := ox_back m_Mod_value 95 1 [] ((ox_zz ox_ms (n + 10)) 46 tl [.inr (.inr (10, 0, 0)), .inl (a1), .inl (r2)] (ox_up σ 10 0 41 ((ox_w ((ox_w (24 * a1)) + a2)).toNat) 1)) (fun pc9 x9 st9 σ9 => ox_ev m_Mod_value (ox_zz ox_ms (n + 10)) pc9 0 tl (ox_kl (m_Mod_value.2.2.1 pc9) (ox_xl x9 [.inr (.inr (10, 0, 0)), .inl (a1), .inl (a2), .inl (r2), .inl (ox_w ((ox_w (24 * a1)) + a2)), .inl (0), ox_d])) st9 σ9)) rfl ?_
          refine ox_R_call (fc := (fun r : Int => ((.inl (some (.inl r)), (ox_up σ 10 0 41 ((ox_w ((ox_w (24 * a1)) + a2)).toNat) 1)) : ox_O))) (L_Mod_look a1 r2 (ox_up σ 10 0 41 ((ox_w ((ox_w (24 * a1)) + a2)).toNat) 1) (n + 9) tl) (fun r5 => ?_)
          refine ox_R_of (Y := ox_ev m_Mod_value (ox_zz ox_ms (n + 10)) 98 0 tl [.inr (.inr (10, 0, 0)), .inl (a1), .inl (a2), .inl (r2), .inl (ox_w ((ox_w (24 * a1)) + a2)), .inl (0), ox_d] [.inl (r5)] (ox_up σ 10 0 41 ((ox_w ((ox_w (24 * a1)) + a2)).toNat) 1)) rfl ?_
          refine ox_R_to 2 (Y := if r5 = 45 then ox_ev m_Mod_value (ox_zz ox_ms (n + 10)) 103 0 tl [.inr (.inr (10, 0, 0)), .inl (a1), .inl (a2), .inl (r2), .inl (ox_w ((ox_w (24 * a1)) + a2)), .inl (0), ox_d] [] (ox_up σ 10 0 41 ((ox_w ((ox_w (24 * a1)) + a2)).toNat) 1) else ox_ev m_Mod_value (ox_zz ox_ms (n + 10)) 107 0 tl [.inr (.inr (10, 0, 0)), .inl (a1), .inl (a2), .inl (r2), .inl (ox_w ((ox_w (24 * a1)) + a2)), .inl (0), ox_d] [] (ox_up σ 10 0 41 ((ox_w ((ox_w (24 * a1)) + a2)).toNat) 1)) rfl ?_
          refine ox_R_if (fun _ => ?_) (fun _ => ?_)
          · refine ox_R_to 2 (Y := ox_ev m_Mod_value (ox_zz ox_ms (n + 10)) 108 0 tl [.inr (.inr (10, 0, 0)), .inl (a1), ox_d, .inl (r2), .inl (ox_w ((ox_w (24 * a1)) + a2)), ox_d, ox_d] [.inl (1)] (ox_up σ 10 0 41 ((ox_w ((ox_w (24 * a1)) + a2)).toNat) 1)) rfl ?_
            exact (L_Mod_value_108 n P hP a1 r2 (ox_w ((ox_w (24 * a1)) + a2)) 1 (ox_up σ 10 0 41 ((ox_w ((ox_w (24 * a1)) + a2)).toNat) 1) tl)
          · refine ox_R_to 1 (Y := ox_ev m_Mod_value (ox_zz ox_ms (n + 10)) 108 0 tl [.inr (.inr (10, 0, 0)), .inl (a1), ox_d, .inl (r2), .inl (ox_w ((ox_w (24 * a1)) + a2)), ox_d, ox_d] [.inl (0)] (ox_up σ 10 0 41 ((ox_w ((ox_w (24 * a1)) + a2)).toNat) 1)) rfl ?_
            exact (L_Mod_value_108 n P hP a1 r2 (ox_w ((ox_w (24 * a1)) + a2)) 0 (ox_up σ 10 0 41 ((ox_w ((ox_w (24 * a1)) + a2)).toNat) 1) tl)
def J_Mod_size_26  (s0 : Int) (σ : ox_H) : Option (Int × ox_H) := some (s0, σ)
theorem L_Mod_size_26  (s0 : Int) (σ : ox_H) (n tl : Nat) : ox_R (fun r => some ((fun r : Int × ox_H => ((.inl (some (.inl r.1)), r.2) : ox_O)) r)) (J_Mod_size_26 s0 σ) (ox_ev m_Mod_size (ox_zz ox_ms (n + 4)) 26 0 tl [ox_d, ox_d, ox_d, ox_d] [.inl (s0)] σ) := by
  unfold J_Mod_size_26
  refine ox_R_to 1 (Y := some (.inl (some (.inl (s0))), σ)) rfl ?_
  exact ox_R_ret rfl
def F_Mod_size  (a1 : Int) (a2 : Int) (σ : ox_H) : Option (Int × ox_H) := (F_Mod_look a1 a2 σ).bind fun r1 => ((F_Mod_isDigit r1 σ).bind fun r2 => (if r2 = 0 then (if r1 = 40 then (J_Mod_size_26 3 σ) else (J_Mod_size_26 2 σ)) else ((F_Mod_digits a1 a2 σ).bind fun r3 => (some (ox_w ((r3.2 10 0 11 0) - a2), r3.2)))))
theorem L_Mod_size  (a1 : Int) (a2 : Int) (σ : ox_H) (n tl : Nat) : ox_R (fun r => some ((fun r : Int × ox_H => ((.inl (some (.inl r.1)), r.2) : ox_O)) r)) (F_Mod_size a1 a2 σ) (ox_zz ox_ms (n + 5) 119 tl [.inr (.inr (10, 0, 0)), .inl (a1), .inl (a2)] σ) := by
  unfold F_Mod_size
  refine ox_R_of (Y := ox_ev m_Mod_size (ox_zz ox_ms (n + 4)) 0 0 tl [.inr (.inr (10, 0, 0)), .inl (a1), .inl (a2), ox_d] [] σ) rfl ?_
  refine ox_R_to 4 (Y := ox_back m_Mod_size 3 1 [] ((ox_zz ox_ms (n + 4)) 46 tl [.inr (.inr (10, 0, 0)), .inl (a1), .inl (a2)] σ) (fun pc9 x9 st9 σ9 => ox_ev m_Mod_size (ox_zz ox_ms (n + 4)) pc9 0 tl (ox_kl (m_Mod_size.2.2.1 pc9) (ox_xl x9 [.inr (.inr (10, 0, 0)), .inl (a1), .inl (a2), ox_d])) st9 σ9)) rfl ?_
  refine ox_R_call (fc := (fun r : Int => ((.inl (some (.inl r)), σ) : ox_O))) (L_Mod_look a1 a2 σ (n + 3) tl) (fun r1 => ?_)
  refine ox_R_of (Y := ox_ev m_Mod_size (ox_zz ox_ms (n + 4)) 6 0 tl [.inr (.inr (10, 0, 0)), .inl (a1), .inl (a2), ox_d] [.inl (r1)] σ) rfl ?_
  refine ox_R_to 4 (Y := ox_back m_Mod_size 9 1 [] ((ox_zz ox_ms (n + 4)) 48 tl [.inr (.inr (10, 0, 0)), .inl (r1)] σ) (fun pc9 x9 st9 σ9 => ox_ev m_Mod_size (ox_zz ox_ms (n + 4)) pc9 0 tl (ox_kl (m_Mod_size.2.2.1 pc9) (ox_xl x9 [.inr (.inr (10, 0, 0)), .inl (a1), .inl (a2), .inl (r1)])) st9 σ9)) rfl ?_
  refine ox_R_call (fc := (fun r : Int => ((.inl (some (.inl r)), σ) : ox_O))) (L_Mod_isDigit r1 σ (n + 2) tl) (fun r2 => ?_)
  refine ox_R_of (Y := ox_ev m_Mod_size (ox_zz ox_ms (n + 4)) 12 0 tl [.inr (.inr (10, 0, 0)), .inl (a1), .inl (a2), .inl (r1)] [.inl (r2)] σ) rfl ?_
  refine ox_R_to 1 (Y := if r2 = 0 then ox_ev m_Mod_size (ox_zz ox_ms (n + 4)) 15 0 tl [.inr (.inr (10, 0, 0)), .inl (a1), .inl (a2), .inl (r1)] [] σ else ox_ev m_Mod_size (ox_zz ox_ms (n + 4)) 27 0 tl [.inr (.inr (10, 0, 0)), .inl (a1), .inl (a2), .inl (r1)] [] σ) rfl ?_
  refine ox_R_if (fun _ => ?_) (fun _ => ?_)
  · refine ox_R_to 3 (Y := if r1 = 40 then ox_ev m_Mod_size (ox_zz ox_ms (n + 4)) 21 0 tl [.inr (.inr (10, 0, 0)), .inl (a1), .inl (a2), .inl (r1)] [] σ else ox_ev m_Mod_size (ox_zz ox_ms (n + 4)) 25 0 tl [.inr (.inr (10, 0, 0)), .inl (a1), .inl (a2), .inl (r1)] [] σ) rfl ?_
    refine ox_R_if (fun _ => ?_) (fun _ => ?_)
    · refine ox_R_to 2 (Y := ox_ev m_Mod_size (ox_zz ox_ms (n + 4)) 26 0 tl [ox_d, ox_d, ox_d, ox_d] [.inl (3)] σ) rfl ?_
      exact (L_Mod_size_26 3 σ n tl)
    · refine ox_R_to 1 (Y := ox_ev m_Mod_size (ox_zz ox_ms (n + 4)) 26 0 tl [ox_d, ox_d, ox_d, ox_d] [.inl (2)] σ) rfl ?_
      exact (L_Mod_size_26 2 σ n tl)
  · refine ox_R_to 4 (Y := ox_back m_Mod_size 30 1 [] ((ox_zz ox_ms (n + 4)) 118 tl [.inr (.inr (10, 0, 0)), .inl (a1), .inl (a2)] σ) (fun pc9 x9 st9 σ9 => ox_ev m_Mod_size (ox_zz ox_ms (n + 4)) pc9 0 tl (ox_kl (m_Mod_size.2.2.1 pc9) (ox_xl x9 [.inr (.inr (10, 0, 0)), .inl (a1), .inl (a2), .inl (r1)])) st9 σ9)) rfl ?_
    refine ox_R_call (fc := (fun r : Int × ox_H => ((.inl (some (.inl r.1)), r.2) : ox_O))) (L_Mod_digits a1 a2 σ (n + 0) tl) (fun r3 => ?_)
    refine ox_R_of (Y := ox_ev m_Mod_size (ox_zz ox_ms (n + 4)) 33 0 tl [.inr (.inr (10, 0, 0)), .inl (a1), .inl (a2), .inl (r1)] [.inl (r3.1)] r3.2) rfl ?_
    refine ox_R_to 6 (Y := some (.inl (some (.inl (ox_w ((r3.2 10 0 11 0) - a2)))), r3.2)) rfl ?_
    exact ox_R_ret rfl
def J_Mod_codeOf_47  (s0 : Int) (σ : ox_H) : Option (Int × ox_H) := some (s0, σ)
theorem L_Mod_codeOf_47  (s0 : Int) (σ : ox_H) (n tl : Nat) : ox_R (fun r => some ((fun r : Int × ox_H => ((.inl (some (.inl r.1)), r.2) : ox_O)) r)) (J_Mod_codeOf_47 s0 σ) (ox_ev m_Mod_codeOf (ox_zz ox_ms (n + 6)) 47 0 tl [ox_d, ox_d, ox_d] [.inl (s0)] σ) := by
  unfold J_Mod_codeOf_47
  refine ox_R_to 1 (Y := some (.inl (some (.inl (s0))), σ)) rfl ?_
  exact ox_R_ret rfl
def J_Mod_codeOf_34  (v2 : Int) (σ : ox_H) : Option (Int × ox_H) := if (σ 10 0 2 0) ≤ v2 then (J_Mod_codeOf_47 (-1) σ) else (J_Mod_codeOf_47 v2 σ)
theorem L_Mod_codeOf_34  (v2 : Int) (σ : ox_H) (n tl : Nat) : ox_R (fun r => some ((fun r : Int × ox_H => ((.inl (some (.inl r.1)), r.2) : ox_O)) r)) (J_Mod_codeOf_34 v2 σ) (ox_ev m_Mod_codeOf (ox_zz ox_ms (n + 6)) 34 0 tl [.inr (.inr (10, 0, 0)), ox_d, .inl (v2)] [] σ) := by
  unfold J_Mod_codeOf_34
  refine ox_R_to 4 (Y := if (σ 10 0 2 0) ≤ v2 then ox_ev m_Mod_codeOf (ox_zz ox_ms (n + 6)) 46 0 tl [.inr (.inr (10, 0, 0)), ox_d, .inl (v2)] [] σ else ox_ev m_Mod_codeOf (ox_zz ox_ms (n + 6)) 42 0 tl [.inr (.inr (10, 0, 0)), ox_d, .inl (v2)] [] σ) rfl ?_
  refine ox_R_if (fun _ => ?_) (fun _ => ?_)
  · refine ox_R_to 1 (Y := ox_ev m_Mod_codeOf (ox_zz ox_ms (n + 6)) 47 0 tl [ox_d, ox_d, ox_d] [.inl ((-1))] σ) rfl ?_
    exact (L_Mod_codeOf_47 (-1) σ n tl)
  · refine ox_R_to 2 (Y := ox_ev m_Mod_codeOf (ox_zz ox_ms (n + 6)) 47 0 tl [ox_d, ox_d, ox_d] [.inl (v2)] σ) rfl ?_
    exact (L_Mod_codeOf_47 v2 σ n tl)
def J_Mod_codeOf_28  (v1 : Int) (v2 : Int) (σ : ox_H) : Option (((Int × ox_H) ⊕ Int × ox_H)) := some (.inl (ox_w (v2 + 1), σ))
theorem L_Mod_codeOf_28  (v1 : Int) (v2 : Int) (σ : ox_H) (n tl : Nat) : ox_R (Sum.elim (fun (s : Int × ox_H) => match s with | (v2, σ) => ox_ev m_Mod_codeOf (ox_zz ox_ms (n + 6)) 2 0 tl [.inr (.inr (10, 0, 0)), .inl (v1), .inl (v2)] [] σ) (fun r => some ((fun r : Int × ox_H => ((.inl (some (.inl r.1)), r.2) : ox_O)) r))) (J_Mod_codeOf_28 v1 v2 σ) (ox_ev m_Mod_codeOf (ox_zz ox_ms (n + 6)) 28 0 tl [.inr (.inr (10, 0, 0)), .inl (v1), .inl (v2)] [] σ) := by
  unfold J_Mod_codeOf_28
  refine ox_R_to 2 (Y := ox_ev m_Mod_codeOf (ox_zz ox_ms (n + 6)) 2 0 tl [.inr (.inr (10, 0, 0)), .inl (v1), .inl (ox_w (v2 + 1))] [] σ) rfl ?_
  exact ox_R_ret rfl
def B_Mod_codeOf_2  (v1 : Int) : (Int × ox_H) → Option (((Int × ox_H) ⊕ Int × ox_H)) := fun (v2, σ) => if (σ 10 0 2 0) ≤ v2 then ((J_Mod_codeOf_34 v2 σ).map .inr) else ((F_Mod_code v2 σ).bind fun r1 => (if r1.1 = 0 then (J_Mod_codeOf_28 v1 v2 r1.2) else ((F_Mod_look v2 1 r1.2).bind fun r2 => (if r2 = v1 then ((J_Mod_codeOf_34 v2 r1.2).map .inr) else (J_Mod_codeOf_28 v1 v2 r1.2)))))
def J_Mod_codeOf_2  (v1 : Int) (v2 : Int) (σ : ox_H) : Option (Int × ox_H) := ox_lp (B_Mod_codeOf_2 v1) ox_fu (v2, σ)
theorem L_Mod_codeOf_2  (v1 : Int) (v2 : Int) (σ : ox_H) (n tl : Nat) : ox_R (fun r => some ((fun r : Int × ox_H => ((.inl (some (.inl r.1)), r.2) : ox_O)) r)) (J_Mod_codeOf_2 v1 v2 σ) (ox_ev m_Mod_codeOf (ox_zz ox_ms (n + 6)) 2 0 tl [.inr (.inr (10, 0, 0)), .inl (v1), .inl (v2)] [] σ) := by
  unfold J_Mod_codeOf_2
  refine ox_R_lp (ψ := (fun (s : Int × ox_H) => match s with | (v2, σ) => ox_ev m_Mod_codeOf (ox_zz ox_ms (n + 6)) 2 0 tl [.inr (.inr (10, 0, 0)), .inl (v1), .inl (v2)] [] σ)) ?_ ox_fu (v2, σ)
  intro s
  obtain ⟨v2, σ⟩ := s
  unfold B_Mod_codeOf_2
  refine ox_R_to 4 (Y := if (σ 10 0 2 0) ≤ v2 then ox_ev m_Mod_codeOf (ox_zz ox_ms (n + 6)) 34 0 tl [.inr (.inr (10, 0, 0)), ox_d, .inl (v2)] [] σ else ox_ev m_Mod_codeOf (ox_zz ox_ms (n + 6)) 10 0 tl [.inr (.inr (10, 0, 0)), .inl (v1), .inl (v2)] [] σ) rfl ?_
  refine ox_R_if (fun _ => ?_) (fun _ => ?_)
  · exact ox_R_map ((L_Mod_codeOf_34 v2 σ n tl))
  · refine ox_R_to 3 (Y := ox_back m_Mod_codeOf 12 1 [] ((ox_zz ox_ms (n + 6)) 62 tl [.inr (.inr (10, 0, 0)), .inl (v2)] σ) (fun pc9 x9 st9 σ9 => ox_ev m_Mod_codeOf (ox_zz ox_ms (n + 6)) pc9 0 tl (ox_kl (m_Mod_codeOf.2.2.1 pc9) (ox_xl x9 [.inr (.inr (10, 0, 0)), .inl (v1), .inl (v2)])) st9 σ9)) rfl ?_
    refine ox_R_call (fc := (fun r : Int × ox_H => ((.inl (some (.inl r.1)), r.2) : ox_O))) (L_Mod_code v2 σ (n + 0) tl) (fun r1 => ?_)
    refine ox_R_of (Y := ox_ev m_Mod_codeOf (ox_zz ox_ms (n + 6)) 15 0 tl [.inr (.inr (10, 0, 0)), .inl (v1), .inl (v2)] [.inl (r1.1)] r1.2) rfl ?_
    refine ox_R_to 1 (Y := if r1.1 = 0 then ox_ev m_Mod_codeOf (ox_zz ox_ms (n + 6)) 28 0 tl [.inr (.inr (10, 0, 0)), .inl (v1), .inl (v2)] [] r1.2 else ox_ev m_Mod_codeOf (ox_zz ox_ms (n + 6)) 18 0 tl [.inr (.inr (10, 0, 0)), .inl (v1), .inl (v2)] [] r1.2) rfl ?_
    refine ox_R_if (fun _ => ?_) (fun _ => ?_)
    · exact (L_Mod_codeOf_28 v1 v2 r1.2 n tl)
    · refine ox_R_to 4 (Y := ox_back m_Mod_codeOf 21 1 [] ((ox_zz ox_ms (n + 6)) 46 tl [.inr (.inr (10, 0, 0)), .inl (v2), .inl (1)] r1.2) (fun pc9 x9 st9 σ9 => ox_ev m_Mod_codeOf (ox_zz ox_ms (n + 6)) pc9 0 tl (ox_kl (m_Mod_codeOf.2.2.1 pc9) (ox_xl x9 [.inr (.inr (10, 0, 0)), .inl (v1), .inl (v2)])) st9 σ9)) rfl ?_
      refine ox_R_call (fc := (fun r : Int => ((.inl (some (.inl r)), r1.2) : ox_O))) (L_Mod_look v2 1 r1.2 (n + 5) tl) (fun r2 => ?_)
      refine ox_R_of (Y := ox_ev m_Mod_codeOf (ox_zz ox_ms (n + 6)) 24 0 tl [.inr (.inr (10, 0, 0)), .inl (v1), .inl (v2)] [.inl (r2)] r1.2) rfl ?_
      refine ox_R_to 2 (Y := if r2 = v1 then ox_ev m_Mod_codeOf (ox_zz ox_ms (n + 6)) 34 0 tl [.inr (.inr (10, 0, 0)), ox_d, .inl (v2)] [] r1.2 else ox_ev m_Mod_codeOf (ox_zz ox_ms (n + 6)) 28 0 tl [.inr (.inr (10, 0, 0)), .inl (v1), .inl (v2)] [] r1.2) rfl ?_
      refine ox_R_if (fun _ => ?_) (fun _ => ?_)
      · exact ox_R_map ((L_Mod_codeOf_34 v2 r1.2 n tl))
      · exact (L_Mod_codeOf_28 v1 v2 r1.2 n tl)
def F_Mod_codeOf  (a1 : Int) (σ : ox_H) : Option (Int × ox_H) := (J_Mod_codeOf_2 a1 0 σ)
theorem L_Mod_codeOf  (a1 : Int) (σ : ox_H) (n tl : Nat) : ox_R (fun r => some ((fun r : Int × ox_H => ((.inl (some (.inl r.1)), r.2) : ox_O)) r)) (F_Mod_codeOf a1 σ) (ox_zz ox_ms (n + 7) 123 tl [.inr (.inr (10, 0, 0)), .inl (a1)] σ) := by
  unfold F_Mod_codeOf
  refine ox_R_of (Y := ox_ev m_Mod_codeOf (ox_zz ox_ms (n + 6)) 0 0 tl [.inr (.inr (10, 0, 0)), .inl (a1), ox_d] [] σ) rfl ?_
  refine ox_R_to 2 (Y := ox_ev m_Mod_codeOf (ox_zz ox_ms (n + 6)) 2 0 tl [.inr (.inr (10, 0, 0)), .inl (a1), .inl (0)] [] σ) rfl ?_
  exact (L_Mod_codeOf_2 a1 0 σ n tl)
def J_Mod_blocked_25 (P : Int → Int → Int → ox_H → Option (Int × ox_H))  (σ : ox_H) : Option (Int × ox_H) := some (ox_c 1000000 0, σ)
theorem L_Mod_blocked_25 (n : Nat) (P : Int → Int → Int → ox_H → Option (Int × ox_H)) (hP : ∀ (a1 a2 a3 : Int) (σ : ox_H) (tl : Nat), ox_R (fun r => some ((fun r : Int × ox_H => ((.inl (some (.inl r.1)), r.2) : ox_O)) r)) (P a1 a2 a3 σ) (ox_zz ox_ms (n + 10) 120 tl [.inr (.inr (10, 0, 0)), .inl (a1), .inl (a2), .inl (a3)] σ))  (σ : ox_H) (tl : Nat) : ox_R (fun r => some ((fun r : Int × ox_H => ((.inl (some (.inl r.1)), r.2) : ox_O)) r)) (J_Mod_blocked_25 P σ) (ox_ev m_Mod_blocked (ox_zz ox_ms (n + 10)) 25 0 tl [ox_d, ox_d, ox_d, ox_d, ox_d] [] σ) := by
  unfold J_Mod_blocked_25
  refine ox_R_to 2 (Y := some (.inl (some (.inl (ox_c 1000000 0))), σ)) rfl ?_
  exact ox_R_ret rfl
def F_Mod_blocked (P : Int → Int → Int → ox_H → Option (Int × ox_H))  (a1 : Int) (σ : ox_H) : Option (Int × ox_H) := (F_Mod_codeOf a1 σ).bind fun r1 => (if r1.1 < 0 then (J_Mod_blocked_25 P r1.2) else (if 0 ≤ (ox_w (a1 - 97)) ∧ (ox_w (a1 - 97)).toNat < 26 then (if (r1.2 10 0 42 ((ox_w (a1 - 97)).toNat)) = 1 then (J_Mod_blocked_25 P r1.2) else (if 0 ≤ (ox_w (a1 - 97)) ∧ (ox_w (a1 - 97)).toNat < 26 then (if (r1.2 10 0 39 ((ox_w (a1 - 97)).toNat)) = (r1.2 10 0 36 0) then (if 0 ≤ (ox_w (a1 - 97)) ∧ (ox_w (a1 - 97)).toNat < 26 then (some (r1.2 10 0 40 ((ox_w (a1 - 97)).toNat), r1.2)) else none) else (if 0 ≤ (ox_w (a1 - 97)) ∧ (ox_w (a1 - 97)).toNat < 26 then ((P r1.1 3 1 (ox_up r1.2 10 0 42 ((ox_w (a1 - 97)).toNat) 1)).bind fun r2 => (if 0 ≤ (ox_w (a1 - 97)) ∧ (ox_w (a1 - 97)).toNat < 26 then (if 0 ≤ (ox_w (a1 - 97)) ∧ (ox_w (a1 - 97)).toNat < 26 then (if 0 ≤ (ox_w (a1 - 97)) ∧ (ox_w (a1 - 97)).toNat < 26 then (some (r2.1, (ox_up (ox_up (ox_up r2.2 10 0 42 ((ox_w (a1 - 97)).toNat) 0) 10 0 39 ((ox_w (a1 - 97)).toNat) (r2.2 10 0 36 0)) 10 0 40 ((ox_w (a1 - 97)).toNat) r2.1))) else none) else none) else none)) else none)) else none)) else none))
theorem L_Mod_blocked (n : Nat) (P : Int → Int → Int → ox_H → Option (Int × ox_H)) (hP : ∀ (a1 a2 a3 : Int) (σ : ox_H) (tl : Nat), ox_R (fun r => some ((fun r : Int × ox_H => ((.inl (some (.inl r.1)), r.2) : ox_O)) r)) (P a1 a2 a3 σ) (ox_zz ox_ms (n + 10) 120 tl [.inr (.inr (10, 0, 0)), .inl (a1), .inl (a2), .inl (a3)] σ))  (a1 : Int) (σ : ox_H) (tl : Nat) : ox_R (fun r => some ((fun r : Int × ox_H => ((.inl (some (.inl r.1)), r.2) : ox_O)) r)) (F_Mod_blocked P a1 σ) (ox_zz ox_ms (n + 11) 124 tl [.inr (.inr (10, 0, 0)), .inl (a1)] σ) := by
  unfold F_Mod_blocked
  refine ox_R_of (Y := ox_ev m_Mod_blocked (ox_zz ox_ms (n + 10)) 0 0 tl [.inr (.inr (10, 0, 0)), .inl (a1), ox_d, ox_d, ox_d] [] σ) rfl ?_
  refine ox_R_to 3 (Y := ox_back m_Mod_blocked 2 1 [] ((ox_zz ox_ms (n + 10)) 123 tl [.inr (.inr (10, 0, 0)), .inl (a1)] σ) (fun pc9 x9 st9 σ9 => ox_ev m_Mod_blocked (ox_zz ox_ms (n + 10)) pc9 0 tl (ox_kl (m_Mod_blocked.2.2.1 pc9) (ox_xl x9 [.inr (.inr (10, 0, 0)), .inl (a1), ox_d, ox_d, ox_d])) st9 σ9)) rfl ?_
  refine ox_R_call (fc := (fun r : Int × ox_H => ((.inl (some (.inl r.1)), r.2) : ox_O))) (L_Mod_codeOf a1 σ (n + 3) tl) (fun r1 => ?_)
  refine ox_R_of (Y := ox_ev m_Mod_blocked (ox_zz ox_ms (n + 10)) 5 0 tl [.inr (.inr (10, 0, 0)), .inl (a1), ox_d, ox_d, ox_d] [.inl (r1.1)] r1.2) rfl ?_
  refine ox_R_to 7 (Y := if r1.1 < 0 then ox_ev m_Mod_blocked (ox_zz ox_ms (n + 10)) 25 0 tl [ox_d, ox_d, ox_d, ox_d, ox_d] [] r1.2 else ox_ev m_Mod_blocked (ox_zz ox_ms (n + 10)) 15 0 tl [.inr (.inr (10, 0, 0)), .inl (a1), .inl (r1.1), .inl (ox_w (a1 - 97)), ox_d] [] r1.2) rfl ?_
  refine ox_R_if (fun _ => ?_) (fun _ => ?_)
  · exact (L_Mod_blocked_25 n P hP r1.2 tl)
  · refine ox_R_to 4 (Y := if 0 ≤ (ox_w (a1 - 97)) ∧ (ox_w (a1 - 97)).toNat < 26 then ox_ev m_Mod_blocked (ox_zz ox_ms (n + 10)) 21 0 tl [.inr (.inr (10, 0, 0)), .inl (a1), .inl (r1.1), .inl (ox_w (a1 - 97)), ox_d] [.inl (r1.2 10 0 42 ((ox_w (a1 - 97)).toNat))] r1.2 else none) rfl ?_
    refine ox_R_if (fun _ => ?_) (fun _ => ox_R_none)
    refine ox_R_to 2 (Y := if (r1.2 10 0 42 ((ox_w (a1 - 97)).toNat)) = 1 then ox_ev m_Mod_blocked (ox_zz ox_ms (n + 10)) 25 0 tl [ox_d, ox_d, ox_d, ox_d, ox_d] [] r1.2 else ox_ev m_Mod_blocked (ox_zz ox_ms (n + 10)) 29 0 tl [.inr (.inr (10, 0, 0)), .inl (a1), .inl (r1.1), .inl (ox_w (a1 - 97)), ox_d] [] r1.2) rfl ?_
    refine ox_R_if (fun _ => ?_) (fun _ => ?_)
    · exact (L_Mod_blocked_25 n P hP r1.2 tl)
    · refine ox_R_to 4 (Y := if 0 ≤ (ox_w (a1 - 97)) ∧ (ox_w (a1 - 97)).toNat < 26 then ox_ev m_Mod_blocked (ox_zz ox_ms (n + 10)) 35 0 tl [.inr (.inr (10, 0, 0)), .inl (a1), .inl (r1.1), .inl (ox_w (a1 - 97)), ox_d] [.inl (r1.2 10 0 39 ((ox_w (a1 - 97)).toNat))] r1.2 else none) rfl ?_
      refine ox_R_if (fun _ => ?_) (fun _ => ox_R_none)
      refine ox_R_to 3 (Y := if (r1.2 10 0 39 ((ox_w (a1 - 97)).toNat)) = (r1.2 10 0 36 0) then ox_ev m_Mod_blocked (ox_zz ox_ms (n + 10)) 42 0 tl [.inr (.inr (10, 0, 0)), .inl (a1), .inl (r1.1), .inl (ox_w (a1 - 97)), ox_d] [] r1.2 else ox_ev m_Mod_blocked (ox_zz ox_ms (n + 10)) 49 0 tl [.inr (.inr (10, 0, 0)), .inl (a1), .inl (r1.1), .inl (ox_w (a1 - 97)), ox_d] [] r1.2) rfl ?_
      refine ox_R_if (fun _ => ?_) (fun _ => ?_)
      · refine ox_R_to 4 (Y := if 0 ≤ (ox_w (a1 - 97)) ∧ (ox_w (a1 - 97)).toNat < 26 then ox_ev m_Mod_blocked (ox_zz ox_ms (n + 10)) 48 0 tl [.inr (.inr (10, 0, 0)), .inl (a1), .inl (r1.1), .inl (ox_w (a1 - 97)), ox_d] [.inl (r1.2 10 0 40 ((ox_w (a1 - 97)).toNat))] r1.2 else none) rfl ?_
        refine ox_R_if (fun _ => ?_) (fun _ => ox_R_none)
        refine ox_R_to 1 (Y := some (.inl (some (.inl (r1.2 10 0 40 ((ox_w (a1 - 97)).toNat)))), r1.2)) rfl ?_
        exact ox_R_ret rfl
      · refine ox_R_to 5 (Y := if 0 ≤ (ox_w (a1 - 97)) ∧ (ox_w (a1 - 97)).toNat < 26 then ox_ev m_Mod_blocked (ox_zz ox_ms (n + 10)) 56 0 tl [.inr (.inr (10, 0, 0)), .inl (a1), .inl (r1.1), .inl (ox_w (a1 - 97)), ox_d] [] (ox_up r1.2 10 0 42 ((ox_w (a1 - 97)).toNat) 1) else none) rfl ?_
        refine ox_R_if (fun _ => ?_) (fun _ => ox_R_none)
        refine ox_R_to 5 (Y := ox_back m_Mod_blocked 60 1 [] ((ox_zz ox_ms (n + 10)) 120 tl [.inr (.inr (10, 0, 0)), .inl (r1.1), .inl (3), .inl (1)] (ox_up r1.2 10 0 42 ((ox_w (a1 - 97)).toNat) 1)) (fun pc9 x9 st9 σ9 => ox_ev m_Mod_blocked (ox_zz ox_ms (n + 10)) pc9 0 tl (ox_kl (m_Mod_blocked.2.2.1 pc9) (ox_xl x9 [.inr (.inr (10, 0, 0)), .inl (a1), .inl (r1.1), .inl (ox_w (a1 - 97)), ox_d])) st9 σ9)) rfl ?_
        refine ox_R_call (fc := (fun r : Int × ox_H => ((.inl (some (.inl r.1)), r.2) : ox_O))) (hP r1.1 3 1 (ox_up r1.2 10 0 42 ((ox_w (a1 - 97)).toNat) 1) tl) (fun r2 => ?_)
        refine ox_R_of (Y := ox_ev m_Mod_blocked (ox_zz ox_ms (n + 10)) 63 0 tl [.inr (.inr (10, 0, 0)), .inl (a1), .inl (r1.1), .inl (ox_w (a1 - 97)), ox_d] [.inl (r2.1)] r2.2) rfl ?_
        refine ox_R_to 6 (Y := if 0 ≤ (ox_w (a1 - 97)) ∧ (ox_w (a1 - 97)).toNat < 26 then ox_ev m_Mod_blocked (ox_zz ox_ms (n + 10)) 72 0 tl [.inr (.inr (10, 0, 0)), .inl (a1), .inl (r1.1), .inl (ox_w (a1 - 97)), .inl (r2.1)] [] (ox_up r2.2 10 0 42 ((ox_w (a1 - 97)).toNat) 0) else none) rfl ?_
        refine ox_R_if (fun _ => ?_) (fun _ => ox_R_none)
        refine ox_R_to 6 (Y := if 0 ≤ (ox_w (a1 - 97)) ∧ (ox_w (a1 - 97)).toNat < 26 then ox_ev m_Mod_blocked (ox_zz ox_ms (n + 10)) 82 0 tl [.inr (.inr (10, 0, 0)), .inl (a1), .inl (r1.1), .inl (ox_w (a1 - 97)), .inl (r2.1)] [] (ox_up (ox_up r2.2 10 0 42 ((ox_w (a1 - 97)).toNat) 0) 10 0 39 ((ox_w (a1 - 97)).toNat) (r2.2 10 0 36 0)) else none) rfl ?_
        refine ox_R_if (fun _ => ?_) (fun _ => ox_R_none)
        refine ox_R_to 5 (Y := if 0 ≤ (ox_w (a1 - 97)) ∧ (ox_w (a1 - 97)).toNat < 26 then ox_ev m_Mod_blocked (ox_zz ox_ms (n + 10)) 90 0 tl [.inr (.inr (10, 0, 0)), .inl (a1), .inl (r1.1), .inl (ox_w (a1 - 97)), .inl (r2.1)] [] (ox_up (ox_up (ox_up r2.2 10 0 42 ((ox_w (a1 - 97)).toNat) 0) 10 0 39 ((ox_w (a1 - 97)).toNat) (r2.2 10 0 36 0)) 10 0 40 ((ox_w (a1 - 97)).toNat) r2.1) else none) rfl ?_
        refine ox_R_if (fun _ => ?_) (fun _ => ox_R_none)
        refine ox_R_to 2 (Y := some (.inl (some (.inl (r2.1))), (ox_up (ox_up (ox_up r2.2 10 0 42 ((ox_w (a1 - 97)).toNat) 0) 10 0 39 ((ox_w (a1 - 97)).toNat) (r2.2 10 0 36 0)) 10 0 40 ((ox_w (a1 - 97)).toNat) r2.1))) rfl ?_
        exact ox_R_ret rfl
def J_Mod_isTable_26  (v3 : Int) (σ : ox_H) : Option (Int × ox_H) := some (v3 % 2, σ)
theorem L_Mod_isTable_26  (v3 : Int) (σ : ox_H) (n tl : Nat) : ox_R (fun r => some ((fun r : Int × ox_H => ((.inl (some (.inl r.1)), r.2) : ox_O)) r)) (J_Mod_isTable_26 v3 σ) (ox_ev m_Mod_isTable (ox_zz ox_ms (n + 6)) 26 0 tl [ox_d, ox_d, ox_d, .inl (v3), ox_d] [] σ) := by
  unfold J_Mod_isTable_26
  refine ox_R_to 2 (Y := some (.inl (some (.inl (v3 % 2))), σ)) rfl ?_
  exact ox_R_ret rfl
def B_Mod_isTable_5  (v2 : Int) : (Int × Int × ox_H) → Option (((Int × Int × ox_H) ⊕ Int × ox_H)) := fun (v3, v4, σ) => if v2 < v4 then ((J_Mod_isTable_26 v3 σ).map .inr) else ((F_Mod_row v4 σ).bind fun r1 => (some (.inl (ox_and v3 r1.1, ox_w (v4 + 1), r1.2))))
def J_Mod_isTable_5  (v2 : Int) (v3 : Int) (v4 : Int) (σ : ox_H) : Option (Int × ox_H) := ox_lp (B_Mod_isTable_5 v2) ox_fu (v3, v4, σ)
theorem L_Mod_isTable_5  (v2 : Int) (v3 : Int) (v4 : Int) (σ : ox_H) (n tl : Nat) : ox_R (fun r => some ((fun r : Int × ox_H => ((.inl (some (.inl r.1)), r.2) : ox_O)) r)) (J_Mod_isTable_5 v2 v3 v4 σ) (ox_ev m_Mod_isTable (ox_zz ox_ms (n + 6)) 5 0 tl [.inr (.inr (10, 0, 0)), ox_d, .inl (v2), .inl (v3), .inl (v4)] [] σ) := by
  unfold J_Mod_isTable_5
  refine ox_R_lp (ψ := (fun (s : Int × Int × ox_H) => match s with | (v3, v4, σ) => ox_ev m_Mod_isTable (ox_zz ox_ms (n + 6)) 5 0 tl [.inr (.inr (10, 0, 0)), ox_d, .inl (v2), .inl (v3), .inl (v4)] [] σ)) ?_ ox_fu (v3, v4, σ)
  intro s
  obtain ⟨v3, v4, σ⟩ := s
  unfold B_Mod_isTable_5
  refine ox_R_to 3 (Y := if v2 < v4 then ox_ev m_Mod_isTable (ox_zz ox_ms (n + 6)) 26 0 tl [ox_d, ox_d, ox_d, .inl (v3), ox_d] [] σ else ox_ev m_Mod_isTable (ox_zz ox_ms (n + 6)) 11 0 tl [.inr (.inr (10, 0, 0)), ox_d, .inl (v2), .inl (v3), .inl (v4)] [] σ) rfl ?_
  refine ox_R_if (fun _ => ?_) (fun _ => ?_)
  · exact ox_R_map ((L_Mod_isTable_26 v3 σ n tl))
  · refine ox_R_to 4 (Y := ox_back m_Mod_isTable 15 1 [.inl (v3)] ((ox_zz ox_ms (n + 6)) 61 tl [.inr (.inr (10, 0, 0)), .inl (v4)] σ) (fun pc9 x9 st9 σ9 => ox_ev m_Mod_isTable (ox_zz ox_ms (n + 6)) pc9 0 tl (ox_kl (m_Mod_isTable.2.2.1 pc9) (ox_xl x9 [.inr (.inr (10, 0, 0)), ox_d, .inl (v2), .inl (v3), .inl (v4)])) st9 σ9)) rfl ?_
    refine ox_R_call (fc := (fun r : Int × ox_H => ((.inl (some (.inl r.1)), r.2) : ox_O))) (L_Mod_row v4 σ (n + 0) tl) (fun r1 => ?_)
    refine ox_R_of (Y := ox_ev m_Mod_isTable (ox_zz ox_ms (n + 6)) 18 0 tl [.inr (.inr (10, 0, 0)), ox_d, .inl (v2), .inl (v3), .inl (v4)] [.inl (r1.1), .inl (v3)] r1.2) rfl ?_
    refine ox_R_to 4 (Y := ox_ev m_Mod_isTable (ox_zz ox_ms (n + 6)) 5 0 tl [.inr (.inr (10, 0, 0)), ox_d, .inl (v2), .inl (ox_and v3 r1.1), .inl (ox_w (v4 + 1))] [] r1.2) rfl ?_
    exact ox_R_ret rfl
def F_Mod_isTable  (a1 : Int) (a2 : Int) (σ : ox_H) : Option (Int × ox_H) := (J_Mod_isTable_5 a2 1 a1 σ)
theorem L_Mod_isTable  (a1 : Int) (a2 : Int) (σ : ox_H) (n tl : Nat) : ox_R (fun r => some ((fun r : Int × ox_H => ((.inl (some (.inl r.1)), r.2) : ox_O)) r)) (F_Mod_isTable a1 a2 σ) (ox_zz ox_ms (n + 7) 122 tl [.inr (.inr (10, 0, 0)), .inl (a1), .inl (a2)] σ) := by
  unfold F_Mod_isTable
  refine ox_R_of (Y := ox_ev m_Mod_isTable (ox_zz ox_ms (n + 6)) 0 0 tl [.inr (.inr (10, 0, 0)), .inl (a1), .inl (a2), ox_d, ox_d] [] σ) rfl ?_
  refine ox_R_to 4 (Y := ox_ev m_Mod_isTable (ox_zz ox_ms (n + 6)) 5 0 tl [.inr (.inr (10, 0, 0)), ox_d, .inl (a2), .inl (1), .inl (a1)] [] σ) rfl ?_
  exact (L_Mod_isTable_5 a2 1 a1 σ n tl)
def J_Mod_part_80 (P : Int → Int → Int → ox_H → Option (Int × ox_H))  (s0 : Int) (σ : ox_H) : Option (Int × ox_H) := some (s0, σ)
theorem L_Mod_part_80 (n : Nat) (P : Int → Int → Int → ox_H → Option (Int × ox_H)) (hP : ∀ (a1 a2 a3 : Int) (σ : ox_H) (tl : Nat), ox_R (fun r => some ((fun r : Int × ox_H => ((.inl (some (.inl r.1)), r.2) : ox_O)) r)) (P a1 a2 a3 σ) (ox_zz ox_ms (n + 10) 120 tl [.inr (.inr (10, 0, 0)), .inl (a1), .inl (a2), .inl (a3)] σ))  (s0 : Int) (σ : ox_H) (tl : Nat) : ox_R (fun r => some ((fun r : Int × ox_H => ((.inl (some (.inl r.1)), r.2) : ox_O)) r)) (J_Mod_part_80 P s0 σ) (ox_ev m_Mod_part (ox_zz ox_ms (n + 11)) 80 0 tl [ox_d, ox_d, ox_d, ox_d, ox_d, ox_d, ox_d, ox_d, ox_d, ox_d] [.inl (s0)] σ) := by
  unfold J_Mod_part_80
  refine ox_R_to 1 (Y := some (.inl (some (.inl (s0))), σ)) rfl ?_
  exact ox_R_ret rfl
def J_Mod_part_65 (P : Int → Int → Int → ox_H → Option (Int × ox_H))  (s0 : Int) (σ : ox_H) : Option (Int × ox_H) := if 0 ≤ s0 then (J_Mod_part_80 P s0 σ) else (J_Mod_part_80 P (ox_c 1000000 0) σ)
theorem L_Mod_part_65 (n : Nat) (P : Int → Int → Int → ox_H → Option (Int × ox_H)) (hP : ∀ (a1 a2 a3 : Int) (σ : ox_H) (tl : Nat), ox_R (fun r => some ((fun r : Int × ox_H => ((.inl (some (.inl r.1)), r.2) : ox_O)) r)) (P a1 a2 a3 σ) (ox_zz ox_ms (n + 10) 120 tl [.inr (.inr (10, 0, 0)), .inl (a1), .inl (a2), .inl (a3)] σ))  (s0 : Int) (σ : ox_H) (tl : Nat) : ox_R (fun r => some ((fun r : Int × ox_H => ((.inl (some (.inl r.1)), r.2) : ox_O)) r)) (J_Mod_part_65 P s0 σ) (ox_ev m_Mod_part (ox_zz ox_ms (n + 11)) 65 0 tl [ox_d, ox_d, ox_d, ox_d, ox_d, ox_d, ox_d, ox_d, ox_d, ox_d] [.inl (s0)] σ) := by
  unfold J_Mod_part_65
  refine ox_R_to 3 (Y := if 0 ≤ s0 then ox_ev m_Mod_part (ox_zz ox_ms (n + 11)) 78 0 tl [ox_d, ox_d, ox_d, ox_d, ox_d, ox_d, ox_d, .inl (s0), ox_d, ox_d] [] σ else ox_ev m_Mod_part (ox_zz ox_ms (n + 11)) 72 0 tl [ox_d, ox_d, ox_d, ox_d, ox_d, ox_d, ox_d, .inl (s0), ox_d, ox_d] [] σ) rfl ?_
  refine ox_R_if (fun _ => ?_) (fun _ => ?_)
  · refine ox_R_to 1 (Y := ox_ev m_Mod_part (ox_zz ox_ms (n + 11)) 80 0 tl [ox_d, ox_d, ox_d, ox_d, ox_d, ox_d, ox_d, ox_d, ox_d, ox_d] [.inl (s0)] σ) rfl ?_
    exact (L_Mod_part_80 n P hP s0 σ tl)
  · refine ox_R_to 2 (Y := ox_ev m_Mod_part (ox_zz ox_ms (n + 11)) 80 0 tl [ox_d, ox_d, ox_d, ox_d, ox_d, ox_d, ox_d, ox_d, ox_d, ox_d] [.inl (ox_c 1000000 0)] σ) rfl ?_
    exact (L_Mod_part_80 n P hP (ox_c 1000000 0) σ tl)
def J_Mod_part_181 (P : Int → Int → Int → ox_H → Option (Int × ox_H))  (s0 : Int) (σ : ox_H) : Option (Int × ox_H) := some (s0, σ)
theorem L_Mod_part_181 (n : Nat) (P : Int → Int → Int → ox_H → Option (Int × ox_H)) (hP : ∀ (a1 a2 a3 : Int) (σ : ox_H) (tl : Nat), ox_R (fun r => some ((fun r : Int × ox_H => ((.inl (some (.inl r.1)), r.2) : ox_O)) r)) (P a1 a2 a3 σ) (ox_zz ox_ms (n + 10) 120 tl [.inr (.inr (10, 0, 0)), .inl (a1), .inl (a2), .inl (a3)] σ))  (s0 : Int) (σ : ox_H) (tl : Nat) : ox_R (fun r => some ((fun r : Int × ox_H => ((.inl (some (.inl r.1)), r.2) : ox_O)) r)) (J_Mod_part_181 P s0 σ) (ox_ev m_Mod_part (ox_zz ox_ms (n + 11)) 181 0 tl [ox_d, ox_d, ox_d, ox_d, ox_d, ox_d, ox_d, ox_d, ox_d, ox_d] [.inl (s0)] σ) := by
  unfold J_Mod_part_181
  refine ox_R_to 1 (Y := some (.inl (some (.inl (s0))), σ)) rfl ?_
  exact ox_R_ret rfl
def J_Mod_part_157 (P : Int → Int → Int → ox_H → Option (Int × ox_H))  (v4 : Int) (v7 : Int) (s0 : Int) (σ : ox_H) : Option (Int × ox_H) := if s0 = 0 then (J_Mod_part_181 P (ox_c 1000000 0) σ) else ((F_Mod_value P v7 (ox_w (v4 - 97)) σ).bind fun r1 => (J_Mod_part_181 P r1.1 r1.2))
theorem L_Mod_part_157 (n : Nat) (P : Int → Int → Int → ox_H → Option (Int × ox_H)) (hP : ∀ (a1 a2 a3 : Int) (σ : ox_H) (tl : Nat), ox_R (fun r => some ((fun r : Int × ox_H => ((.inl (some (.inl r.1)), r.2) : ox_O)) r)) (P a1 a2 a3 σ) (ox_zz ox_ms (n + 10) 120 tl [.inr (.inr (10, 0, 0)), .inl (a1), .inl (a2), .inl (a3)] σ))  (v4 : Int) (v7 : Int) (s0 : Int) (σ : ox_H) (tl : Nat) : ox_R (fun r => some ((fun r : Int × ox_H => ((.inl (some (.inl r.1)), r.2) : ox_O)) r)) (J_Mod_part_157 P v4 v7 s0 σ) (ox_ev m_Mod_part (ox_zz ox_ms (n + 11)) 157 0 tl [.inr (.inr (10, 0, 0)), ox_d, ox_d, ox_d, .inl (v4), ox_d, ox_d, .inl (v7), ox_d, ox_d] [.inl (s0)] σ) := by
  unfold J_Mod_part_157
  refine ox_R_to 3 (Y := if s0 = 0 then ox_ev m_Mod_part (ox_zz ox_ms (n + 11)) 178 0 tl [.inr (.inr (10, 0, 0)), ox_d, ox_d, ox_d, .inl (v4), ox_d, ox_d, .inl (v7), .inl (s0), ox_d] [] σ else ox_ev m_Mod_part (ox_zz ox_ms (n + 11)) 164 0 tl [.inr (.inr (10, 0, 0)), ox_d, ox_d, ox_d, .inl (v4), ox_d, ox_d, .inl (v7), .inl (s0), ox_d] [] σ) rfl ?_
  refine ox_R_if (fun _ => ?_) (fun _ => ?_)
  · refine ox_R_to 1 (Y := ox_ev m_Mod_part (ox_zz ox_ms (n + 11)) 181 0 tl [ox_d, ox_d, ox_d, ox_d, ox_d, ox_d, ox_d, ox_d, ox_d, ox_d] [.inl (ox_c 1000000 0)] σ) rfl ?_
    exact (L_Mod_part_181 n P hP (ox_c 1000000 0) σ tl)
  · refine ox_R_to 6 (Y := ox_back m_Mod_part 172 1 [] ((ox_zz ox_ms (n + 11)) 117 tl [.inr (.inr (10, 0, 0)), .inl (v7), .inl (ox_w (v4 - 97))] σ) (fun pc9 x9 st9 σ9 => ox_ev m_Mod_part (ox_zz ox_ms (n + 11)) pc9 0 tl (ox_kl (m_Mod_part.2.2.1 pc9) (ox_xl x9 [.inr (.inr (10, 0, 0)), ox_d, ox_d, ox_d, .inl (v4), ox_d, ox_d, .inl (v7), .inl (s0), ox_d])) st9 σ9)) rfl ?_
    refine ox_R_call (fc := (fun r : Int × ox_H => ((.inl (some (.inl r.1)), r.2) : ox_O))) (L_Mod_value n P hP v7 (ox_w (v4 - 97)) σ tl) (fun r1 => ?_)
    refine ox_R_of (Y := ox_ev m_Mod_part (ox_zz ox_ms (n + 11)) 175 0 tl [.inr (.inr (10, 0, 0)), ox_d, ox_d, ox_d, .inl (v4), ox_d, ox_d, .inl (v7), .inl (s0), ox_d] [.inl (r1.1)] r1.2) rfl ?_
    refine ox_R_to 1 (Y := ox_ev m_Mod_part (ox_zz ox_ms (n + 11)) 181 0 tl [ox_d, ox_d, ox_d, ox_d, ox_d, ox_d, ox_d, ox_d, ox_d, ox_d] [.inl (r1.1)] r1.2) rfl ?_
    exact (L_Mod_part_181 n P hP r1.1 r1.2 tl)
def J_Mod_part_152 (P : Int → Int → Int → ox_H → Option (Int × ox_H))  (v4 : Int) (v7 : Int) (σ : ox_H) : Option (Int × ox_H) := (J_Mod_part_157 P v4 v7 1 σ)
theorem L_Mod_part_152 (n : Nat) (P : Int → Int → Int → ox_H → Option (Int × ox_H)) (hP : ∀ (a1 a2 a3 : Int) (σ : ox_H) (tl : Nat), ox_R (fun r => some ((fun r : Int × ox_H => ((.inl (some (.inl r.1)), r.2) : ox_O)) r)) (P a1 a2 a3 σ) (ox_zz ox_ms (n + 10) 120 tl [.inr (.inr (10, 0, 0)), .inl (a1), .inl (a2), .inl (a3)] σ))  (v4 : Int) (v7 : Int) (σ : ox_H) (tl : Nat) : ox_R (fun r => some ((fun r : Int × ox_H => ((.inl (some (.inl r.1)), r.2) : ox_O)) r)) (J_Mod_part_152 P v4 v7 σ) (ox_ev m_Mod_part (ox_zz ox_ms (n + 11)) 152 0 tl [.inr (.inr (10, 0, 0)), ox_d, ox_d, ox_d, .inl (v4), ox_d, ox_d, .inl (v7), ox_d, ox_d] [] σ) := by
  unfold J_Mod_part_152
  refine ox_R_to 2 (Y := ox_ev m_Mod_part (ox_zz ox_ms (n + 11)) 157 0 tl [.inr (.inr (10, 0, 0)), ox_d, ox_d, ox_d, .inl (v4), ox_d, ox_d, .inl (v7), ox_d, ox_d] [.inl (1)] σ) rfl ?_
  exact (L_Mod_part_157 n P hP v4 v7 1 σ tl)
def J_Mod_part_156 (P : Int → Int → Int → ox_H → Option (Int × ox_H))  (v4 : Int) (v7 : Int) (σ : ox_H) : Option (Int × ox_H) := (J_Mod_part_157 P v4 v7 0 σ)
theorem L_Mod_part_156 (n : Nat) (P : Int → Int → Int → ox_H → Option (Int × ox_H)) (hP : ∀ (a1 a2 a3 : Int) (σ : ox_H) (tl : Nat), ox_R (fun r => some ((fun r : Int × ox_H => ((.inl (some (.inl r.1)), r.2) : ox_O)) r)) (P a1 a2 a3 σ) (ox_zz ox_ms (n + 10) 120 tl [.inr (.inr (10, 0, 0)), .inl (a1), .inl (a2), .inl (a3)] σ))  (v4 : Int) (v7 : Int) (σ : ox_H) (tl : Nat) : ox_R (fun r => some ((fun r : Int × ox_H => ((.inl (some (.inl r.1)), r.2) : ox_O)) r)) (J_Mod_part_156 P v4 v7 σ) (ox_ev m_Mod_part (ox_zz ox_ms (n + 11)) 156 0 tl [.inr (.inr (10, 0, 0)), ox_d, ox_d, ox_d, .inl (v4), ox_d, ox_d, .inl (v7), ox_d, ox_d] [] σ) := by
  unfold J_Mod_part_156
  refine ox_R_to 1 (Y := ox_ev m_Mod_part (ox_zz ox_ms (n + 11)) 157 0 tl [.inr (.inr (10, 0, 0)), ox_d, ox_d, ox_d, .inl (v4), ox_d, ox_d, .inl (v7), ox_d, ox_d] [.inl (0)] σ) rfl ?_
  exact (L_Mod_part_157 n P hP v4 v7 0 σ tl)
def J_Mod_part_265 (P : Int → Int → Int → ox_H → Option (Int × ox_H))  (v7 : Int) (σ : ox_H) : Option (Int × ox_H) := some (v7, σ)
theorem L_Mod_part_265 (n : Nat) (P : Int → Int → Int → ox_H → Option (Int × ox_H)) (hP : ∀ (a1 a2 a3 : Int) (σ : ox_H) (tl : Nat), ox_R (fun r => some ((fun r : Int × ox_H => ((.inl (some (.inl r.1)), r.2) : ox_O)) r)) (P a1 a2 a3 σ) (ox_zz ox_ms (n + 10) 120 tl [.inr (.inr (10, 0, 0)), .inl (a1), .inl (a2), .inl (a3)] σ))  (v7 : Int) (σ : ox_H) (tl : Nat) : ox_R (fun r => some ((fun r : Int × ox_H => ((.inl (some (.inl r.1)), r.2) : ox_O)) r)) (J_Mod_part_265 P v7 σ) (ox_ev m_Mod_part (ox_zz ox_ms (n + 11)) 265 0 tl [ox_d, ox_d, ox_d, ox_d, ox_d, ox_d, ox_d, .inl (v7), ox_d, ox_d] [] σ) := by
  unfold J_Mod_part_265
  refine ox_R_to 2 (Y := some (.inl (some (.inl (v7))), σ)) rfl ?_
  exact ox_R_ret rfl
def J_Mod_part_257 (P : Int → Int → Int → ox_H → Option (Int × ox_H))  (v1 : Int) (v5 : Int) (v8 : Int) (s0 : Int) (σ : ox_H) : Option (((Int × Int × ox_H) ⊕ Int × ox_H)) := some (.inl (s0, ox_w (v8 + 1), σ))
theorem L_Mod_part_257 (n : Nat) (P : Int → Int → Int → ox_H → Option (Int × ox_H)) (hP : ∀ (a1 a2 a3 : Int) (σ : ox_H) (tl : Nat), ox_R (fun r => some ((fun r : Int × ox_H => ((.inl (some (.inl r.1)), r.2) : ox_O)) r)) (P a1 a2 a3 σ) (ox_zz ox_ms (n + 10) 120 tl [.inr (.inr (10, 0, 0)), .inl (a1), .inl (a2), .inl (a3)] σ))  (v1 : Int) (v5 : Int) (v8 : Int) (s0 : Int) (σ : ox_H) (tl : Nat) : ox_R (Sum.elim (fun (s : Int × Int × ox_H) => match s with | (v7, v8, σ) => ox_ev m_Mod_part (ox_zz ox_ms (n + 11)) 189 0 tl [.inr (.inr (10, 0, 0)), .inl (v1), ox_d, ox_d, ox_d, .inl (v5), ox_d, .inl (v7), .inl (v8), ox_d] [] σ) (fun r => some ((fun r : Int × ox_H => ((.inl (some (.inl r.1)), r.2) : ox_O)) r))) (J_Mod_part_257 P v1 v5 v8 s0 σ) (ox_ev m_Mod_part (ox_zz ox_ms (n + 11)) 257 0 tl [.inr (.inr (10, 0, 0)), .inl (v1), ox_d, ox_d, ox_d, .inl (v5), ox_d, ox_d, .inl (v8), ox_d] [.inl (s0)] σ) := by
  unfold J_Mod_part_257
  refine ox_R_to 3 (Y := ox_ev m_Mod_part (ox_zz ox_ms (n + 11)) 189 0 tl [.inr (.inr (10, 0, 0)), .inl (v1), ox_d, ox_d, ox_d, .inl (v5), ox_d, .inl (s0), .inl (ox_w (v8 + 1)), ox_d] [] σ) rfl ?_
  exact ox_R_ret rfl
def J_Mod_part_232 (P : Int → Int → Int → ox_H → Option (Int × ox_H))  (v1 : Int) (v5 : Int) (v7 : Int) (v8 : Int) (s0 : Int) (σ : ox_H) : Option (((Int × Int × ox_H) ⊕ Int × ox_H)) := if s0 = (ox_c 1000000 0) then (J_Mod_part_257 P v1 v5 v8 s0 σ) else ((F_Mod_bound (ox_w (v7 + s0)) σ).bind fun r2 => (J_Mod_part_257 P v1 v5 v8 r2 σ))
theorem L_Mod_part_232 (n : Nat) (P : Int → Int → Int → ox_H → Option (Int × ox_H)) (hP : ∀ (a1 a2 a3 : Int) (σ : ox_H) (tl : Nat), ox_R (fun r => some ((fun r : Int × ox_H => ((.inl (some (.inl r.1)), r.2) : ox_O)) r)) (P a1 a2 a3 σ) (ox_zz ox_ms (n + 10) 120 tl [.inr (.inr (10, 0, 0)), .inl (a1), .inl (a2), .inl (a3)] σ))  (v1 : Int) (v5 : Int) (v7 : Int) (v8 : Int) (s0 : Int) (σ : ox_H) (tl : Nat) : ox_R (Sum.elim (fun (s : Int × Int × ox_H) => match s with | (v7, v8, σ) => ox_ev m_Mod_part (ox_zz ox_ms (n + 11)) 189 0 tl [.inr (.inr (10, 0, 0)), .inl (v1), ox_d, ox_d, ox_d, .inl (v5), ox_d, .inl (v7), .inl (v8), ox_d] [] σ) (fun r => some ((fun r : Int × ox_H => ((.inl (some (.inl r.1)), r.2) : ox_O)) r))) (J_Mod_part_232 P v1 v5 v7 v8 s0 σ) (ox_ev m_Mod_part (ox_zz ox_ms (n + 11)) 232 0 tl [.inr (.inr (10, 0, 0)), .inl (v1), ox_d, ox_d, ox_d, .inl (v5), ox_d, .inl (v7), .inl (v8), ox_d] [.inl (s0)] σ) := by
  unfold J_Mod_part_232
  refine ox_R_to 4 (Y := if s0 = (ox_c 1000000 0) then ox_ev m_Mod_part (ox_zz ox_ms (n + 11)) 242 0 tl [.inr (.inr (10, 0, 0)), .inl (v1), ox_d, ox_d, ox_d, .inl (v5), ox_d, .inl (v7), .inl (v8), .inl (s0)] [] σ else ox_ev m_Mod_part (ox_zz ox_ms (n + 11)) 247 0 tl [.inr (.inr (10, 0, 0)), .inl (v1), ox_d, ox_d, ox_d, .inl (v5), ox_d, .inl (v7), .inl (v8), .inl (s0)] [] σ) rfl ?_
  refine ox_R_if (fun _ => ?_) (fun _ => ?_)
  · refine ox_R_to 2 (Y := ox_ev m_Mod_part (ox_zz ox_ms (n + 11)) 257 0 tl [.inr (.inr (10, 0, 0)), .inl (v1), ox_d, ox_d, ox_d, .inl (v5), ox_d, ox_d, .inl (v8), ox_d] [.inl (s0)] σ) rfl ?_
    exact (L_Mod_part_257 n P hP v1 v5 v8 s0 σ tl)
  · refine ox_R_to 6 (Y := ox_back m_Mod_part 254 1 [] ((ox_zz ox_ms (n + 11)) 116 tl [.inr (.inr (10, 0, 0)), .inr (.inl (ox_w (v7 + s0)))] σ) (fun pc9 x9 st9 σ9 => ox_ev m_Mod_part (ox_zz ox_ms (n + 11)) pc9 0 tl (ox_kl (m_Mod_part.2.2.1 pc9) (ox_xl x9 [.inr (.inr (10, 0, 0)), .inl (v1), ox_d, ox_d, ox_d, .inl (v5), ox_d, .inl (v7), .inl (v8), .inl (s0)])) st9 σ9)) rfl ?_
    refine ox_R_call (fc := (fun r : Int => ((.inl (some (.inl r)), σ) : ox_O))) (L_Mod_bound (ox_w (v7 + s0)) σ (n + 10) tl) (fun r2 => ?_)
    refine ox_R_of (Y := ox_ev m_Mod_part (ox_zz ox_ms (n + 11)) 257 0 tl [.inr (.inr (10, 0, 0)), .inl (v1), ox_d, ox_d, ox_d, .inl (v5), ox_d, ox_d, .inl (v8), ox_d] [.inl (r2)] σ) rfl ?_
    exact (L_Mod_part_257 n P hP v1 v5 v8 r2 σ tl)
def B_Mod_part_189 (P : Int → Int → Int → ox_H → Option (Int × ox_H))  (v1 : Int) (v5 : Int) : (Int × Int × ox_H) → Option (((Int × Int × ox_H) ⊕ Int × ox_H)) := fun (v7, v8, σ) => if v1 ≤ v8 then ((J_Mod_part_265 P v7 σ).map .inr) else (if v7 = (ox_c 1000000 0) then ((J_Mod_part_265 P v7 σ).map .inr) else ((F_Mod_begin v8 (ox_w (v5 - 97)) σ).bind fun r3 => (if 0 ≤ r3 then ((F_Mod_value P v8 (ox_w (v5 - 97)) σ).bind fun r4 => (J_Mod_part_232 P v1 v5 v7 v8 r4.1 r4.2)) else (J_Mod_part_232 P v1 v5 v7 v8 0 σ))))
def J_Mod_part_189 (P : Int → Int → Int → ox_H → Option (Int × ox_H))  (v1 : Int) (v5 : Int) (v7 : Int) (v8 : Int) (σ : ox_H) : Option (Int × ox_H) := ox_lp (B_Mod_part_189 P v1 v5) ox_fu (v7, v8, σ)
theorem L_Mod_part_189 (n : Nat) (P : Int → Int → Int → ox_H → Option (Int × ox_H)) (hP : ∀ (a1 a2 a3 : Int) (σ : ox_H) (tl : Nat), ox_R (fun r => some ((fun r : Int × ox_H => ((.inl (some (.inl r.1)), r.2) : ox_O)) r)) (P a1 a2 a3 σ) (ox_zz ox_ms (n + 10) 120 tl [.inr (.inr (10, 0, 0)), .inl (a1), .inl (a2), .inl (a3)] σ))  (v1 : Int) (v5 : Int) (v7 : Int) (v8 : Int) (σ : ox_H) (tl : Nat) : ox_R (fun r => some ((fun r : Int × ox_H => ((.inl (some (.inl r.1)), r.2) : ox_O)) r)) (J_Mod_part_189 P v1 v5 v7 v8 σ) (ox_ev m_Mod_part (ox_zz ox_ms (n + 11)) 189 0 tl [.inr (.inr (10, 0, 0)), .inl (v1), ox_d, ox_d, ox_d, .inl (v5), ox_d, .inl (v7), .inl (v8), ox_d] [] σ) := by
  unfold J_Mod_part_189
  refine ox_R_lp (ψ := (fun (s : Int × Int × ox_H) => match s with | (v7, v8, σ) => ox_ev m_Mod_part (ox_zz ox_ms (n + 11)) 189 0 tl [.inr (.inr (10, 0, 0)), .inl (v1), ox_d, ox_d, ox_d, .inl (v5), ox_d, .inl (v7), .inl (v8), ox_d] [] σ)) ?_ ox_fu (v7, v8, σ)
  intro s
  obtain ⟨v7, v8, σ⟩ := s
  unfold B_Mod_part_189
  refine ox_R_to 3 (Y := if v1 ≤ v8 then ox_ev m_Mod_part (ox_zz ox_ms (n + 11)) 265 0 tl [ox_d, ox_d, ox_d, ox_d, ox_d, ox_d, ox_d, .inl (v7), ox_d, ox_d] [] σ else ox_ev m_Mod_part (ox_zz ox_ms (n + 11)) 195 0 tl [.inr (.inr (10, 0, 0)), .inl (v1), ox_d, ox_d, ox_d, .inl (v5), ox_d, .inl (v7), .inl (v8), ox_d] [] σ) rfl ?_
  refine ox_R_if (fun _ => ?_) (fun _ => ?_)
  · exact ox_R_map ((L_Mod_part_265 n P hP v7 σ tl))
  · refine ox_R_to 3 (Y := if v7 = (ox_c 1000000 0) then ox_ev m_Mod_part (ox_zz ox_ms (n + 11)) 265 0 tl [ox_d, ox_d, ox_d, ox_d, ox_d, ox_d, ox_d, .inl (v7), ox_d, ox_d] [] σ else ox_ev m_Mod_part (ox_zz ox_ms (n + 11)) 203 0 tl [.inr (.inr (10, 0, 0)), .inl (v1), ox_d, ox_d, ox_d, .inl (v5), ox_d, .inl (v7), .inl (v8), ox_d] [] σ) rfl ?_
    refine ox_R_if (fun _ => ?_) (fun _ => ?_)
    · exact ox_R_map ((L_Mod_part_265 n P hP v7 σ tl))
    · refine ox_R_to 6 (Y := ox_back m_Mod_part 211 1 [] ((ox_zz ox_ms (n + 11)) 115 tl [.inr (.inr (10, 0, 0)), .inl (v8), .inl (ox_w (v5 - 97))] σ) (fun pc9 x9 st9 σ9 => ox_ev m_Mod_part (ox_zz ox_ms (n + 11)) pc9 0 tl (ox_kl (m_Mod_part.2.2.1 pc9) (ox_xl x9 [.inr (.inr (10, 0, 0)), .inl (v1), ox_d, ox_d, ox_d, .inl (v5), ox_d, .inl (v7), .inl (v8), ox_d])) st9 σ9)) rfl ?_
      refine ox_R_call (fc := (fun r : Int => ((.inl (some (.inl r)), σ) : ox_O))) (L_Mod_begin v8 (ox_w (v5 - 97)) σ (n + 9) tl) (fun r3 => ?_)
      refine ox_R_of (Y := ox_ev m_Mod_part (ox_zz ox_ms (n + 11)) 214 0 tl [.inr (.inr (10, 0, 0)), .inl (v1), ox_d, ox_d, ox_d, .inl (v5), ox_d, .inl (v7), .inl (v8), ox_d] [.inl (r3)] σ) rfl ?_
      refine ox_R_to 1 (Y := if 0 ≤ r3 then ox_ev m_Mod_part (ox_zz ox_ms (n + 11)) 221 0 tl [.inr (.inr (10, 0, 0)), .inl (v1), ox_d, ox_d, ox_d, .inl (v5), ox_d, .inl (v7), .inl (v8), ox_d] [] σ else ox_ev m_Mod_part (ox_zz ox_ms (n + 11)) 217 0 tl [.inr (.inr (10, 0, 0)), .inl (v1), ox_d, ox_d, ox_d, .inl (v5), ox_d, .inl (v7), .inl (v8), ox_d] [] σ) rfl ?_
      refine ox_R_if (fun _ => ?_) (fun _ => ?_)
      · refine ox_R_to 6 (Y := ox_back m_Mod_part 229 1 [] ((ox_zz ox_ms (n + 11)) 117 tl [.inr (.inr (10, 0, 0)), .inl (v8), .inl (ox_w (v5 - 97))] σ) (fun pc9 x9 st9 σ9 => ox_ev m_Mod_part (ox_zz ox_ms (n + 11)) pc9 0 tl (ox_kl (m_Mod_part.2.2.1 pc9) (ox_xl x9 [.inr (.inr (10, 0, 0)), .inl (v1), ox_d, ox_d, ox_d, .inl (v5), ox_d, .inl (v7), .inl (v8), ox_d])) st9 σ9)) rfl ?_
        refine ox_R_call (fc := (fun r : Int × ox_H => ((.inl (some (.inl r.1)), r.2) : ox_O))) (L_Mod_value n P hP v8 (ox_w (v5 - 97)) σ tl) (fun r4 => ?_)
        refine ox_R_of (Y := ox_ev m_Mod_part (ox_zz ox_ms (n + 11)) 232 0 tl [.inr (.inr (10, 0, 0)), .inl (v1), ox_d, ox_d, ox_d, .inl (v5), ox_d, .inl (v7), .inl (v8), ox_d] [.inl (r4.1)] r4.2) rfl ?_
        exact (L_Mod_part_232 n P hP v1 v5 v7 v8 r4.1 r4.2 tl)
      · refine ox_R_to 2 (Y := ox_ev m_Mod_part (ox_zz ox_ms (n + 11)) 232 0 tl [.inr (.inr (10, 0, 0)), .inl (v1), ox_d, ox_d, ox_d, .inl (v5), ox_d, .inl (v7), .inl (v8), ox_d] [.inl (0)] σ) rfl ?_
        exact (L_Mod_part_232 n P hP v1 v5 v7 v8 0 σ tl)
def F_Mod_part (P : Int → Int → Int → ox_H → Option (Int × ox_H))  (a1 : Int) (a2 : Int) (a3 : Int) (σ : ox_H) : Option (Int × ox_H) := (F_Mod_look a1 a2 σ).bind fun r5 => ((F_Mod_look a1 (ox_w (a2 + 1)) σ).bind fun r6 => ((F_Mod_isDigit r5 σ).bind fun r7 => (if r7 = 0 then (if r5 = 58 then ((F_Mod_entryOf a1 σ).bind fun r8 => (if 0 ≤ r8 then ((F_Mod_has r8 r6 σ).bind fun r9 => (J_Mod_part_65 P r9.1 r9.2)) else (J_Mod_part_65 P (-1) σ))) else (if r5 = 40 then ((F_Mod_blocked P r6 σ).bind fun r10 => (some (r10.1, r10.2))) else (if a3 = 0 then ((F_Mod_top a1 σ).bind fun r11 => (if r5 = 83 then (J_Mod_part_189 P a1 r6 0 r11.1 r11.2) else (if (r11.2 10 0 2 0) ≤ (ox_w ((ox_w (r11.1 + r6)) - 49)) then (J_Mod_part_156 P r5 (ox_w ((ox_w (r11.1 + r6)) - 49)) r11.2) else (if (ox_w ((ox_w (r11.1 + r6)) - 49)) ≤ a1 then (J_Mod_part_152 P r5 (ox_w ((ox_w (r11.1 + r6)) - 49)) r11.2) else ((F_Mod_isTable a1 (ox_w ((ox_w (r11.1 + r6)) - 49)) r11.2).bind fun r12 => (if r12.1 = 0 then (J_Mod_part_156 P r5 (ox_w ((ox_w (r11.1 + r6)) - 49)) r12.2) else (J_Mod_part_152 P r5 (ox_w ((ox_w (r11.1 + r6)) - 49)) r12.2))))))) else (some (ox_c 1000000 0, σ))))) else ((F_Mod_digits a1 a2 σ).bind fun r13 => (some (r13.1, r13.2))))))
theorem L_Mod_part (n : Nat) (P : Int → Int → Int → ox_H → Option (Int × ox_H)) (hP : ∀ (a1 a2 a3 : Int) (σ : ox_H) (tl : Nat), ox_R (fun r => some ((fun r : Int × ox_H => ((.inl (some (.inl r.1)), r.2) : ox_O)) r)) (P a1 a2 a3 σ) (ox_zz ox_ms (n + 10) 120 tl [.inr (.inr (10, 0, 0)), .inl (a1), .inl (a2), .inl (a3)] σ))  (a1 : Int) (a2 : Int) (a3 : Int) (σ : ox_H) (tl : Nat) : ox_R (fun r => some ((fun r : Int × ox_H => ((.inl (some (.inl r.1)), r.2) : ox_O)) r)) (F_Mod_part P a1 a2 a3 σ) (ox_zz ox_ms (n + 12) 121 tl [.inr (.inr (10, 0, 0)), .inl (a1), .inl (a2), .inl (a3)] σ) := by
  unfold F_Mod_part
  refine ox_R_of (Y := ox_ev m_Mod_part (ox_zz ox_ms (n + 11)) 0 0 tl [.inr (.inr (10, 0, 0)), .inl (a1), .inl (a2), .inl (a3), ox_d, ox_d, ox_d, ox_d, ox_d, ox_d] [] σ) rfl ?_
  refine ox_R_to 4 (Y := ox_back m_Mod_part 3 1 [] ((ox_zz ox_ms (n + 11)) 46 tl [.inr (.inr (10, 0, 0)), .inl (a1), .inl (a2)] σ) (fun pc9 x9 st9 σ9 => ox_ev m_Mod_part (ox_zz ox_ms (n + 11)) pc9 0 tl (ox_kl (m_Mod_part.2.2.1 pc9) (ox_xl x9 [.inr (.inr (10, 0, 0)), .inl (a1), .inl (a2), .inl (a3), ox_d, ox_d, ox_d, ox_d, ox_d, ox_d])) st9 σ9)) rfl ?_
  refine ox_R_call (fc := (fun r : Int => ((.inl (some (.inl r)), σ) : ox_O))) (L_Mod_look a1 a2 σ (n + 10) tl) (fun r5 => ?_)
  refine ox_R_of (Y := ox_ev m_Mod_part (ox_zz ox_ms (n + 11)) 6 0 tl [.inr (.inr (10, 0, 0)), .inl (a1), .inl (a2), .inl (a3), ox_d, ox_d, ox_d, ox_d, ox_d, ox_d] [.inl (r5)] σ) rfl ?_
  refine ox_R_to 7 (Y := ox_back m_Mod_part 13 1 [] ((ox_zz ox_ms (n + 11)) 46 tl [.inr (.inr (10, 0, 0)), .inl (a1), .inl (ox_w (a2 + 1))] σ) (fun pc9 x9 st9 σ9 => ox_ev m_Mod_part (ox_zz ox_ms (n + 11)) pc9 0 tl (ox_kl (m_Mod_part.2.2.1 pc9) (ox_xl x9 [.inr (.inr (10, 0, 0)), .inl (a1), .inl (a2), .inl (a3), .inl (r5), ox_d, ox_d, ox_d, ox_d, ox_d])) st9 σ9)) rfl ?_
  refine ox_R_call (fc := (fun r : Int => ((.inl (some (.inl r)), σ) : ox_O))) (L_Mod_look a1 (ox_w (a2 + 1)) σ (n + 10) tl) (fun r6 => ?_)
  refine ox_R_of (Y := ox_ev m_Mod_part (ox_zz ox_ms (n + 11)) 16 0 tl [.inr (.inr (10, 0, 0)), .inl (a1), .inl (a2), .inl (a3), .inl (r5), ox_d, ox_d, ox_d, ox_d, ox_d] [.inl (r6)] σ) rfl ?_
  refine ox_R_to 4 (Y := ox_back m_Mod_part 21 1 [] ((ox_zz ox_ms (n + 11)) 48 tl [.inr (.inr (10, 0, 0)), .inl (r5)] σ) (fun pc9 x9 st9 σ9 => ox_ev m_Mod_part (ox_zz ox_ms (n + 11)) pc9 0 tl (ox_kl (m_Mod_part.2.2.1 pc9) (ox_xl x9 [.inr (.inr (10, 0, 0)), .inl (a1), .inl (a2), .inl (a3), .inl (r5), .inl (r6), ox_d, ox_d, ox_d, ox_d])) st9 σ9)) rfl ?_
  refine ox_R_call (fc := (fun r : Int => ((.inl (some (.inl r)), σ) : ox_O))) (L_Mod_isDigit r5 σ (n + 9) tl) (fun r7 => ?_)
  refine ox_R_of (Y := ox_ev m_Mod_part (ox_zz ox_ms (n + 11)) 24 0 tl [.inr (.inr (10, 0, 0)), .inl (a1), .inl (a2), .inl (a3), .inl (r5), .inl (r6), ox_d, ox_d, ox_d, ox_d] [.inl (r7)] σ) rfl ?_
  refine ox_R_to 1 (Y := if r7 = 0 then ox_ev m_Mod_part (ox_zz ox_ms (n + 11)) 34 0 tl [.inr (.inr (10, 0, 0)), .inl (a1), .inl (a2), .inl (a3), .inl (r5), .inl (r6), ox_d, ox_d, ox_d, ox_d] [] σ else ox_ev m_Mod_part (ox_zz ox_ms (n + 11)) 27 0 tl [.inr (.inr (10, 0, 0)), .inl (a1), .inl (a2), .inl (a3), .inl (r5), .inl (r6), ox_d, ox_d, ox_d, ox_d] [] σ) rfl ?_
  refine ox_R_if (fun _ => ?_) (fun _ => ?_)
  · refine ox_R_to 3 (Y := if r5 = 58 then ox_ev m_Mod_part (ox_zz ox_ms (n + 11)) 41 0 tl [.inr (.inr (10, 0, 0)), .inl (a1), .inl (a2), .inl (a3), .inl (r5), .inl (r6), ox_d, ox_d, ox_d, ox_d] [] σ else ox_ev m_Mod_part (ox_zz ox_ms (n + 11)) 81 0 tl [.inr (.inr (10, 0, 0)), .inl (a1), .inl (a2), .inl (a3), .inl (r5), .inl (r6), ox_d, ox_d, ox_d, ox_d] [] σ) rfl ?_
    refine ox_R_if (fun _ => ?_) (fun _ => ?_)
    · refine ox_R_to 3 (Y := ox_back m_Mod_part 43 1 [] ((ox_zz ox_ms (n + 11)) 113 tl [.inr (.inr (10, 0, 0)), .inl (a1)] σ) (fun pc9 x9 st9 σ9 => ox_ev m_Mod_part (ox_zz ox_ms (n + 11)) pc9 0 tl (ox_kl (m_Mod_part.2.2.1 pc9) (ox_xl x9 [.inr (.inr (10, 0, 0)), .inl (a1), .inl (a2), .inl (a3), .inl (r5), .inl (r6), ox_d, ox_d, ox_d, ox_d])) st9 σ9)) rfl ?_
      refine ox_R_call (fc := (fun r : Int => ((.inl (some (.inl r)), σ) : ox_O))) (L_Mod_entryOf a1 σ (n + 10) tl) (fun r8 => ?_)
      refine ox_R_of (Y := ox_ev m_Mod_part (ox_zz ox_ms (n + 11)) 46 0 tl [.inr (.inr (10, 0, 0)), .inl (a1), .inl (a2), .inl (a3), .inl (r5), .inl (r6), ox_d, ox_d, ox_d, ox_d] [.inl (r8)] σ) rfl ?_
      refine ox_R_to 3 (Y := if 0 ≤ r8 then ox_ev m_Mod_part (ox_zz ox_ms (n + 11)) 57 0 tl [.inr (.inr (10, 0, 0)), .inl (a1), .inl (a2), .inl (a3), .inl (r5), .inl (r6), .inl (r8), ox_d, ox_d, ox_d] [] σ else ox_ev m_Mod_part (ox_zz ox_ms (n + 11)) 53 0 tl [.inr (.inr (10, 0, 0)), .inl (a1), .inl (a2), .inl (a3), .inl (r5), .inl (r6), .inl (r8), ox_d, ox_d, ox_d] [] σ) rfl ?_
      refine ox_R_if (fun _ => ?_) (fun _ => ?_)
      · refine ox_R_to 4 (Y := ox_back m_Mod_part 62 1 [] ((ox_zz ox_ms (n + 11)) 82 tl [.inr (.inr (10, 0, 0)), .inl (r8), .inl (r6)] σ) (fun pc9 x9 st9 σ9 => ox_ev m_Mod_part (ox_zz ox_ms (n + 11)) pc9 0 tl (ox_kl (m_Mod_part.2.2.1 pc9) (ox_xl x9 [.inr (.inr (10, 0, 0)), .inl (a1), .inl (a2), .inl (a3), .inl (r5), .inl (r6), .inl (r8), ox_d, ox_d, ox_d])) st9 σ9)) rfl ?_
        refine ox_R_call (fc := (fun r : Int × ox_H => ((.inl (some (.inl r.1)), r.2) : ox_O))) (L_Mod_has r8 r6 σ (n + 4) tl) (fun r9 => ?_)
        refine ox_R_of (Y := ox_ev m_Mod_part (ox_zz ox_ms (n + 11)) 65 0 tl [ox_d, ox_d, ox_d, ox_d, ox_d, ox_d, ox_d, ox_d, ox_d, ox_d] [.inl (r9.1)] r9.2) rfl ?_
        exact (L_Mod_part_65 n P hP r9.1 r9.2 tl)
      · refine ox_R_to 2 (Y := ox_ev m_Mod_part (ox_zz ox_ms (n + 11)) 65 0 tl [ox_d, ox_d, ox_d, ox_d, ox_d, ox_d, ox_d, ox_d, ox_d, ox_d] [.inl ((-1))] σ) rfl ?_
        exact (L_Mod_part_65 n P hP (-1) σ tl)
    · refine ox_R_to 3 (Y := if r5 = 40 then ox_ev m_Mod_part (ox_zz ox_ms (n + 11)) 88 0 tl [.inr (.inr (10, 0, 0)), .inl (a1), .inl (a2), .inl (a3), .inl (r5), .inl (r6), ox_d, ox_d, ox_d, ox_d] [] σ else ox_ev m_Mod_part (ox_zz ox_ms (n + 11)) 95 0 tl [.inr (.inr (10, 0, 0)), .inl (a1), .inl (a2), .inl (a3), .inl (r5), .inl (r6), ox_d, ox_d, ox_d, ox_d] [] σ) rfl ?_
      refine ox_R_if (fun _ => ?_) (fun _ => ?_)
      · refine ox_R_to 3 (Y := ox_back m_Mod_part 91 1 [] ((ox_zz ox_ms (n + 11)) 124 tl [.inr (.inr (10, 0, 0)), .inl (r6)] σ) (fun pc9 x9 st9 σ9 => ox_ev m_Mod_part (ox_zz ox_ms (n + 11)) pc9 0 tl (ox_kl (m_Mod_part.2.2.1 pc9) (ox_xl x9 [.inr (.inr (10, 0, 0)), .inl (a1), .inl (a2), .inl (a3), .inl (r5), .inl (r6), ox_d, ox_d, ox_d, ox_d])) st9 σ9)) rfl ?_
        refine ox_R_call (fc := (fun r : Int × ox_H => ((.inl (some (.inl r.1)), r.2) : ox_O))) (L_Mod_blocked n P hP r6 σ tl) (fun r10 => ?_)
        refine ox_R_of (Y := ox_ev m_Mod_part (ox_zz ox_ms (n + 11)) 94 0 tl [.inr (.inr (10, 0, 0)), .inl (a1), .inl (a2), .inl (a3), .inl (r5), .inl (r6), ox_d, ox_d, ox_d, ox_d] [.inl (r10.1)] r10.2) rfl ?_
        refine ox_R_to 1 (Y := some (.inl (some (.inl (r10.1))), r10.2)) rfl ?_
        exact ox_R_ret rfl
      · refine ox_R_to 2 (Y := if a3 = 0 then ox_ev m_Mod_part (ox_zz ox_ms (n + 11)) 103 0 tl [.inr (.inr (10, 0, 0)), .inl (a1), .inl (a2), .inl (a3), .inl (r5), .inl (r6), ox_d, ox_d, ox_d, ox_d] [] σ else ox_ev m_Mod_part (ox_zz ox_ms (n + 11)) 99 0 tl [.inr (.inr (10, 0, 0)), .inl (a1), .inl (a2), .inl (a3), .inl (r5), .inl (r6), ox_d, ox_d, ox_d, ox_d] [] σ) rfl ?_
        refine ox_R_if (fun _ => ?_) (fun _ => ?_)
        · refine ox_R_to 3 (Y := ox_back m_Mod_part 105 1 [] ((ox_zz ox_ms (n + 11)) 114 tl [.inr (.inr (10, 0, 0)), .inl (a1)] σ) (fun pc9 x9 st9 σ9 => ox_ev m_Mod_part (ox_zz ox_ms (n + 11)) pc9 0 tl (ox_kl (m_Mod_part.2.2.1 pc9) (ox_xl x9 [.inr (.inr (10, 0, 0)), .inl (a1), .inl (a2), .inl (a3), .inl (r5), .inl (r6), ox_d, ox_d, ox_d, ox_d])) st9 σ9)) rfl ?_
          refine ox_R_call (fc := (fun r : Int × ox_H => ((.inl (some (.inl r.1)), r.2) : ox_O))) (L_Mod_top a1 σ (n + 4) tl) (fun r11 => ?_)
          refine ox_R_of (Y := ox_ev m_Mod_part (ox_zz ox_ms (n + 11)) 108 0 tl [.inr (.inr (10, 0, 0)), .inl (a1), .inl (a2), .inl (a3), .inl (r5), .inl (r6), ox_d, ox_d, ox_d, ox_d] [.inl (r11.1)] r11.2) rfl ?_
          refine ox_R_to 4 (Y := if r5 = 83 then ox_ev m_Mod_part (ox_zz ox_ms (n + 11)) 182 0 tl [.inr (.inr (10, 0, 0)), .inl (a1), .inl (a2), .inl (a3), .inl (r5), .inl (r6), .inl (r11.1), ox_d, ox_d, ox_d] [] r11.2 else ox_ev m_Mod_part (ox_zz ox_ms (n + 11)) 117 0 tl [.inr (.inr (10, 0, 0)), .inl (a1), .inl (a2), .inl (a3), .inl (r5), .inl (r6), .inl (r11.1), ox_d, ox_d, ox_d] [] r11.2) rfl ?_
          refine ox_R_if (fun _ => ?_) (fun _ => ?_)
          · refine ox_R_to 4 (Y := ox_ev m_Mod_part (ox_zz ox_ms (n + 11)) 189 0 tl [.inr (.inr (10, 0, 0)), .inl (a1), ox_d, ox_d, ox_d, .inl (r6), ox_d, .inl (0), .inl (r11.1), ox_d] [] r11.2) rfl ?_
            exact (L_Mod_part_189 n P hP a1 r6 0 r11.1 r11.2 tl)
          · refine ox_R_to 10 (Y := if (r11.2 10 0 2 0) ≤ (ox_w ((ox_w (r11.1 + r6)) - 49)) then ox_ev m_Mod_part (ox_zz ox_ms (n + 11)) 156 0 tl [.inr (.inr (10, 0, 0)), ox_d, ox_d, ox_d, .inl (r5), ox_d, ox_d, .inl (ox_w ((ox_w (r11.1 + r6)) - 49)), ox_d, ox_d] [] r11.2 else ox_ev m_Mod_part (ox_zz ox_ms (n + 11)) 136 0 tl [.inr (.inr (10, 0, 0)), .inl (a1), .inl (a2), .inl (a3), .inl (r5), .inl (r6), .inl (r11.1), .inl (ox_w ((ox_w (r11.1 + r6)) - 49)), ox_d, ox_d] [] r11.2) rfl ?_
            refine ox_R_if (fun _ => ?_) (fun _ => ?_)
            · exact (L_Mod_part_156 n P hP r5 (ox_w ((ox_w (r11.1 + r6)) - 49)) r11.2 tl)
            · refine ox_R_to 3 (Y := if (ox_w ((ox_w (r11.1 + r6)) - 49)) ≤ a1 then ox_ev m_Mod_part (ox_zz ox_ms (n + 11)) 152 0 tl [.inr (.inr (10, 0, 0)), ox_d, ox_d, ox_d, .inl (r5), ox_d, ox_d, .inl (ox_w ((ox_w (r11.1 + r6)) - 49)), ox_d, ox_d] [] r11.2 else ox_ev m_Mod_part (ox_zz ox_ms (n + 11)) 142 0 tl [.inr (.inr (10, 0, 0)), .inl (a1), .inl (a2), .inl (a3), .inl (r5), .inl (r6), .inl (r11.1), .inl (ox_w ((ox_w (r11.1 + r6)) - 49)), ox_d, ox_d] [] r11.2) rfl ?_
              refine ox_R_if (fun _ => ?_) (fun _ => ?_)
              · exact (L_Mod_part_152 n P hP r5 (ox_w ((ox_w (r11.1 + r6)) - 49)) r11.2 tl)
              · refine ox_R_to 4 (Y := ox_back m_Mod_part 146 1 [] ((ox_zz ox_ms (n + 11)) 122 tl [.inr (.inr (10, 0, 0)), .inl (a1), .inl (ox_w ((ox_w (r11.1 + r6)) - 49))] r11.2) (fun pc9 x9 st9 σ9 => ox_ev m_Mod_part (ox_zz ox_ms (n + 11)) pc9 0 tl (ox_kl (m_Mod_part.2.2.1 pc9) (ox_xl x9 [.inr (.inr (10, 0, 0)), .inl (a1), .inl (a2), .inl (a3), .inl (r5), .inl (r6), .inl (r11.1), .inl (ox_w ((ox_w (r11.1 + r6)) - 49)), ox_d, ox_d])) st9 σ9)) rfl ?_
                refine ox_R_call (fc := (fun r : Int × ox_H => ((.inl (some (.inl r.1)), r.2) : ox_O))) (L_Mod_isTable a1 (ox_w ((ox_w (r11.1 + r6)) - 49)) r11.2 (n + 4) tl) (fun r12 => ?_)
                refine ox_R_of (Y := ox_ev m_Mod_part (ox_zz ox_ms (n + 11)) 149 0 tl [.inr (.inr (10, 0, 0)), .inl (a1), .inl (a2), .inl (a3), .inl (r5), .inl (r6), .inl (r11.1), .inl (ox_w ((ox_w (r11.1 + r6)) - 49)), ox_d, ox_d] [.inl (r12.1)] r12.2) rfl ?_
                refine ox_R_to 1 (Y := if r12.1 = 0 then ox_ev m_Mod_part (ox_zz ox_ms (n + 11)) 156 0 tl [.inr (.inr (10, 0, 0)), ox_d, ox_d, ox_d, .inl (r5), ox_d, ox_d, .inl (ox_w ((ox_w (r11.1 + r6)) - 49)), ox_d, ox_d] [] r12.2 else ox_ev m_Mod_part (ox_zz ox_ms (n + 11)) 152 0 tl [.inr (.inr (10, 0, 0)), ox_d, ox_d, ox_d, .inl (r5), ox_d, ox_d, .inl (ox_w ((ox_w (r11.1 + r6)) - 49)), ox_d, ox_d] [] r12.2) rfl ?_
                refine ox_R_if (fun _ => ?_) (fun _ => ?_)
                · exact (L_Mod_part_156 n P hP r5 (ox_w ((ox_w (r11.1 + r6)) - 49)) r12.2 tl)
                · exact (L_Mod_part_152 n P hP r5 (ox_w ((ox_w (r11.1 + r6)) - 49)) r12.2 tl)
        · refine ox_R_to 2 (Y := some (.inl (some (.inl (ox_c 1000000 0))), σ)) rfl ?_
          exact ox_R_ret rfl
  · refine ox_R_to 4 (Y := ox_back m_Mod_part 30 1 [] ((ox_zz ox_ms (n + 11)) 118 tl [.inr (.inr (10, 0, 0)), .inl (a1), .inl (a2)] σ) (fun pc9 x9 st9 σ9 => ox_ev m_Mod_part (ox_zz ox_ms (n + 11)) pc9 0 tl (ox_kl (m_Mod_part.2.2.1 pc9) (ox_xl x9 [.inr (.inr (10, 0, 0)), .inl (a1), .inl (a2), .inl (a3), .inl (r5), .inl (r6), ox_d, ox_d, ox_d, ox_d])) st9 σ9)) rfl ?_
    refine ox_R_call (fc := (fun r : Int × ox_H => ((.inl (some (.inl r.1)), r.2) : ox_O))) (L_Mod_digits a1 a2 σ (n + 7) tl) (fun r13 => ?_)
    refine ox_R_of (Y := ox_ev m_Mod_part (ox_zz ox_ms (n + 11)) 33 0 tl [.inr (.inr (10, 0, 0)), .inl (a1), .inl (a2), .inl (a3), .inl (r5), .inl (r6), ox_d, ox_d, ox_d, ox_d] [.inl (r13.1)] r13.2) rfl ?_
    refine ox_R_to 1 (Y := some (.inl (some (.inl (r13.1))), r13.2)) rfl ?_
    exact ox_R_ret rfl
def J_Mod_total_185 (P : Int → Int → Int → ox_H → Option (Int × ox_H))  (v5 : Int) (σ : ox_H) : Option (Int × ox_H) := some (v5, σ)
theorem L_Mod_total_185 (n : Nat) (P : Int → Int → Int → ox_H → Option (Int × ox_H)) (hP : ∀ (a1 a2 a3 : Int) (σ : ox_H) (tl : Nat), ox_R (fun r => some ((fun r : Int × ox_H => ((.inl (some (.inl r.1)), r.2) : ox_O)) r)) (P a1 a2 a3 σ) (ox_zz ox_ms (n + 10) 120 tl [.inr (.inr (10, 0, 0)), .inl (a1), .inl (a2), .inl (a3)] σ))  (v5 : Int) (σ : ox_H) (tl : Nat) : ox_R (fun r => some ((fun r : Int × ox_H => ((.inl (some (.inl r.1)), r.2) : ox_O)) r)) (J_Mod_total_185 P v5 σ) (ox_ev m_Mod_total (ox_zz ox_ms (n + 12)) 185 0 tl [ox_d, ox_d, ox_d, ox_d, ox_d, .inl (v5), ox_d, ox_d, ox_d, ox_d] [] σ) := by
  unfold J_Mod_total_185
  refine ox_R_to 2 (Y := some (.inl (some (.inl (v5))), σ)) rfl ?_
  exact ox_R_ret rfl
def J_Mod_total_182 (P : Int → Int → Int → ox_H → Option (Int × ox_H))  (v1 : Int) (v3 : Int) (v4 : Int) (v5 : Int) (v6 : Int) (σ : ox_H) : Option (((Int × Int × Int × ox_H) ⊕ Int × ox_H)) := some (.inl (v4, v5, v6, σ))
theorem L_Mod_total_182 (n : Nat) (P : Int → Int → Int → ox_H → Option (Int × ox_H)) (hP : ∀ (a1 a2 a3 : Int) (σ : ox_H) (tl : Nat), ox_R (fun r => some ((fun r : Int × ox_H => ((.inl (some (.inl r.1)), r.2) : ox_O)) r)) (P a1 a2 a3 σ) (ox_zz ox_ms (n + 10) 120 tl [.inr (.inr (10, 0, 0)), .inl (a1), .inl (a2), .inl (a3)] σ))  (v1 : Int) (v3 : Int) (v4 : Int) (v5 : Int) (v6 : Int) (σ : ox_H) (tl : Nat) : ox_R (Sum.elim (fun (s : Int × Int × Int × ox_H) => match s with | (v4, v5, v6, σ) => ox_ev m_Mod_total (ox_zz ox_ms (n + 12)) 28 0 tl [.inr (.inr (10, 0, 0)), .inl (v1), ox_d, .inl (v3), .inl (v4), .inl (v5), .inl (v6), ox_d, ox_d, ox_d] [] σ) (fun r => some ((fun r : Int × ox_H => ((.inl (some (.inl r.1)), r.2) : ox_O)) r))) (J_Mod_total_182 P v1 v3 v4 v5 v6 σ) (ox_ev m_Mod_total (ox_zz ox_ms (n + 12)) 182 0 tl [.inr (.inr (10, 0, 0)), .inl (v1), ox_d, .inl (v3), .inl (v4), .inl (v5), .inl (v6), ox_d, ox_d, ox_d] [] σ) := by
  unfold J_Mod_total_182
  refine ox_R_to 1 (Y := ox_ev m_Mod_total (ox_zz ox_ms (n + 12)) 28 0 tl [.inr (.inr (10, 0, 0)), .inl (v1), ox_d, .inl (v3), .inl (v4), .inl (v5), .inl (v6), ox_d, ox_d, ox_d] [] σ) rfl ?_
  exact ox_R_ret rfl
def J_Mod_total_164 (P : Int → Int → Int → ox_H → Option (Int × ox_H))  (v1 : Int) (v3 : Int) (v4 : Int) (v6 : Int) (s0 : Int) (σ : ox_H) : Option (((Int × Int × Int × ox_H) ⊕ Int × ox_H)) := (F_Mod_size v1 (ox_w (v4 + 1)) σ).bind fun r1 => (J_Mod_total_182 P v1 v3 (ox_w (v4 + (ox_w (1 + r1.1)))) s0 v6 r1.2)
theorem L_Mod_total_164 (n : Nat) (P : Int → Int → Int → ox_H → Option (Int × ox_H)) (hP : ∀ (a1 a2 a3 : Int) (σ : ox_H) (tl : Nat), ox_R (fun r => some ((fun r : Int × ox_H => ((.inl (some (.inl r.1)), r.2) : ox_O)) r)) (P a1 a2 a3 σ) (ox_zz ox_ms (n + 10) 120 tl [.inr (.inr (10, 0, 0)), .inl (a1), .inl (a2), .inl (a3)] σ))  (v1 : Int) (v3 : Int) (v4 : Int) (v6 : Int) (s0 : Int) (σ : ox_H) (tl : Nat) : ox_R (Sum.elim (fun (s : Int × Int × Int × ox_H) => match s with | (v4, v5, v6, σ) => ox_ev m_Mod_total (ox_zz ox_ms (n + 12)) 28 0 tl [.inr (.inr (10, 0, 0)), .inl (v1), ox_d, .inl (v3), .inl (v4), .inl (v5), .inl (v6), ox_d, ox_d, ox_d] [] σ) (fun r => some ((fun r : Int × ox_H => ((.inl (some (.inl r.1)), r.2) : ox_O)) r))) (J_Mod_total_164 P v1 v3 v4 v6 s0 σ) (ox_ev m_Mod_total (ox_zz ox_ms (n + 12)) 164 0 tl [.inr (.inr (10, 0, 0)), .inl (v1), ox_d, .inl (v3), .inl (v4), ox_d, .inl (v6), ox_d, ox_d, ox_d] [.inl (s0)] σ) := by
  unfold J_Mod_total_164
  refine ox_R_to 9 (Y := ox_back m_Mod_total 175 1 [.inl (1), .inl (v4)] ((ox_zz ox_ms (n + 12)) 119 tl [.inr (.inr (10, 0, 0)), .inl (v1), .inl (ox_w (v4 + 1))] σ) (fun pc9 x9 st9 σ9 => ox_ev m_Mod_total (ox_zz ox_ms (n + 12)) pc9 0 tl (ox_kl (m_Mod_total.2.2.1 pc9) (ox_xl x9 [.inr (.inr (10, 0, 0)), .inl (v1), ox_d, .inl (v3), .inl (v4), .inl (s0), .inl (v6), ox_d, ox_d, ox_d])) st9 σ9)) rfl ?_
  refine ox_R_call (fc := (fun r : Int × ox_H => ((.inl (some (.inl r.1)), r.2) : ox_O))) (L_Mod_size v1 (ox_w (v4 + 1)) σ (n + 7) tl) (fun r1 => ?_)
  refine ox_R_of (Y := ox_ev m_Mod_total (ox_zz ox_ms (n + 12)) 178 0 tl [.inr (.inr (10, 0, 0)), .inl (v1), ox_d, .inl (v3), .inl (v4), .inl (s0), .inl (v6), ox_d, ox_d, ox_d] [.inl (r1.1), .inl (1), .inl (v4)] r1.2) rfl ?_
  refine ox_R_to 3 (Y := ox_ev m_Mod_total (ox_zz ox_ms (n + 12)) 182 0 tl [.inr (.inr (10, 0, 0)), .inl (v1), ox_d, .inl (v3), .inl (ox_w (v4 + (ox_w (1 + r1.1)))), .inl (s0), .inl (v6), ox_d, ox_d, ox_d] [] r1.2) rfl ?_
  exact (L_Mod_total_182 n P hP v1 v3 (ox_w (v4 + (ox_w (1 + r1.1)))) s0 v6 r1.2 tl)
def J_Mod_total_161 (P : Int → Int → Int → ox_H → Option (Int × ox_H))  (v1 : Int) (v3 : Int) (v4 : Int) (v6 : Int) (s0 : Int) (σ : ox_H) : Option (((Int × Int × Int × ox_H) ⊕ Int × ox_H)) := (F_Mod_bound s0 σ).bind fun r2 => (J_Mod_total_164 P v1 v3 v4 v6 r2 σ)
theorem L_Mod_total_161 (n : Nat) (P : Int → Int → Int → ox_H → Option (Int × ox_H)) (hP : ∀ (a1 a2 a3 : Int) (σ : ox_H) (tl : Nat), ox_R (fun r => some ((fun r : Int × ox_H => ((.inl (some (.inl r.1)), r.2) : ox_O)) r)) (P a1 a2 a3 σ) (ox_zz ox_ms (n + 10) 120 tl [.inr (.inr (10, 0, 0)), .inl (a1), .inl (a2), .inl (a3)] σ))  (v1 : Int) (v3 : Int) (v4 : Int) (v6 : Int) (s0 : Int) (σ : ox_H) (tl : Nat) : ox_R (Sum.elim (fun (s : Int × Int × Int × ox_H) => match s with | (v4, v5, v6, σ) => ox_ev m_Mod_total (ox_zz ox_ms (n + 12)) 28 0 tl [.inr (.inr (10, 0, 0)), .inl (v1), ox_d, .inl (v3), .inl (v4), .inl (v5), .inl (v6), ox_d, ox_d, ox_d] [] σ) (fun r => some ((fun r : Int × ox_H => ((.inl (some (.inl r.1)), r.2) : ox_O)) r))) (J_Mod_total_161 P v1 v3 v4 v6 s0 σ) (ox_ev m_Mod_total (ox_zz ox_ms (n + 12)) 161 0 tl [.inr (.inr (10, 0, 0)), .inl (v1), ox_d, .inl (v3), .inl (v4), ox_d, .inl (v6), ox_d, ox_d, ox_d] [.inr (.inl (s0)), .inr (.inr (10, 0, 0))] σ) := by
  unfold J_Mod_total_161
  refine ox_R_to 1 (Y := ox_back m_Mod_total 161 1 [] ((ox_zz ox_ms (n + 12)) 116 tl [.inr (.inr (10, 0, 0)), .inr (.inl (s0))] σ) (fun pc9 x9 st9 σ9 => ox_ev m_Mod_total (ox_zz ox_ms (n + 12)) pc9 0 tl (ox_kl (m_Mod_total.2.2.1 pc9) (ox_xl x9 [.inr (.inr (10, 0, 0)), .inl (v1), ox_d, .inl (v3), .inl (v4), ox_d, .inl (v6), ox_d, ox_d, ox_d])) st9 σ9)) rfl ?_
  refine ox_R_call (fc := (fun r : Int => ((.inl (some (.inl r)), σ) : ox_O))) (L_Mod_bound s0 σ (n + 11) tl) (fun r2 => ?_)
  refine ox_R_of (Y := ox_ev m_Mod_total (ox_zz ox_ms (n + 12)) 164 0 tl [.inr (.inr (10, 0, 0)), .inl (v1), ox_d, .inl (v3), .inl (v4), ox_d, .inl (v6), ox_d, ox_d, ox_d] [.inl (r2)] σ) rfl ?_
  exact (L_Mod_total_164 n P hP v1 v3 v4 v6 r2 σ tl)
def J_Mod_total_108 (P : Int → Int → Int → ox_H → Option (Int × ox_H))  (v1 : Int) (v3 : Int) (v4 : Int) (v5 : Int) (v6 : Int) (v7 : Int) (v8 : Int) (s0 : Int) (σ : ox_H) : Option (((Int × Int × Int × ox_H) ⊕ Int × ox_H)) := if s0 = 0 then (if v7 = 43 then (J_Mod_total_161 P v1 v3 v4 v6 (ox_w (v5 + v8)) σ) else (if v7 = 45 then (J_Mod_total_161 P v1 v3 v4 v6 (ox_w (v5 - v8)) σ) else (J_Mod_total_161 P v1 v3 v4 v6 (ox_wl (v5 * v8)) σ))) else (J_Mod_total_164 P v1 v3 v4 v6 (ox_c 1000000 0) σ)
theorem L_Mod_total_108 (n : Nat) (P : Int → Int → Int → ox_H → Option (Int × ox_H)) (hP : ∀ (a1 a2 a3 : Int) (σ : ox_H) (tl : Nat), ox_R (fun r => some ((fun r : Int × ox_H => ((.inl (some (.inl r.1)), r.2) : ox_O)) r)) (P a1 a2 a3 σ) (ox_zz ox_ms (n + 10) 120 tl [.inr (.inr (10, 0, 0)), .inl (a1), .inl (a2), .inl (a3)] σ))  (v1 : Int) (v3 : Int) (v4 : Int) (v5 : Int) (v6 : Int) (v7 : Int) (v8 : Int) (s0 : Int) (σ : ox_H) (tl : Nat) : ox_R (Sum.elim (fun (s : Int × Int × Int × ox_H) => match s with | (v4, v5, v6, σ) => ox_ev m_Mod_total (ox_zz ox_ms (n + 12)) 28 0 tl [.inr (.inr (10, 0, 0)), .inl (v1), ox_d, .inl (v3), .inl (v4), .inl (v5), .inl (v6), ox_d, ox_d, ox_d] [] σ) (fun r => some ((fun r : Int × ox_H => ((.inl (some (.inl r.1)), r.2) : ox_O)) r))) (J_Mod_total_108 P v1 v3 v4 v5 v6 v7 v8 s0 σ) (ox_ev m_Mod_total (ox_zz ox_ms (n + 12)) 108 0 tl [.inr (.inr (10, 0, 0)), .inl (v1), ox_d, .inl (v3), .inl (v4), .inl (v5), .inl (v6), .inl (v7), .inl (v8), ox_d] [.inl (s0)] σ) := by
  unfold J_Mod_total_108
  refine ox_R_to 3 (Y := if s0 = 0 then ox_ev m_Mod_total (ox_zz ox_ms (n + 12)) 121 0 tl [.inr (.inr (10, 0, 0)), .inl (v1), ox_d, .inl (v3), .inl (v4), .inl (v5), .inl (v6), .inl (v7), .inl (v8), .inl (s0)] [] σ else ox_ev m_Mod_total (ox_zz ox_ms (n + 12)) 115 0 tl [.inr (.inr (10, 0, 0)), .inl (v1), ox_d, .inl (v3), .inl (v4), .inl (v5), .inl (v6), .inl (v7), .inl (v8), .inl (s0)] [] σ) rfl ?_
  refine ox_R_if (fun _ => ?_) (fun _ => ?_)
  · refine ox_R_to 4 (Y := if v7 = 43 then ox_ev m_Mod_total (ox_zz ox_ms (n + 12)) 129 0 tl [.inr (.inr (10, 0, 0)), .inl (v1), ox_d, .inl (v3), .inl (v4), .inl (v5), .inl (v6), .inl (v7), .inl (v8), .inl (s0)] [.inr (.inr (10, 0, 0))] σ else ox_ev m_Mod_total (ox_zz ox_ms (n + 12)) 138 0 tl [.inr (.inr (10, 0, 0)), .inl (v1), ox_d, .inl (v3), .inl (v4), .inl (v5), .inl (v6), .inl (v7), .inl (v8), .inl (s0)] [.inr (.inr (10, 0, 0))] σ) rfl ?_
    refine ox_R_if (fun _ => ?_) (fun _ => ?_)
    · refine ox_R_to 5 (Y := ox_ev m_Mod_total (ox_zz ox_ms (n + 12)) 161 0 tl [.inr (.inr (10, 0, 0)), .inl (v1), ox_d, .inl (v3), .inl (v4), ox_d, .inl (v6), ox_d, ox_d, ox_d] [.inr (.inl (ox_w (v5 + v8))), .inr (.inr (10, 0, 0))] σ) rfl ?_
      exact (L_Mod_total_161 n P hP v1 v3 v4 v6 (ox_w (v5 + v8)) σ tl)
    · refine ox_R_to 3 (Y := if v7 = 45 then ox_ev m_Mod_total (ox_zz ox_ms (n + 12)) 145 0 tl [.inr (.inr (10, 0, 0)), .inl (v1), ox_d, .inl (v3), .inl (v4), .inl (v5), .inl (v6), .inl (v7), .inl (v8), .inl (s0)] [.inr (.inr (10, 0, 0))] σ else ox_ev m_Mod_total (ox_zz ox_ms (n + 12)) 154 0 tl [.inr (.inr (10, 0, 0)), .inl (v1), ox_d, .inl (v3), .inl (v4), .inl (v5), .inl (v6), .inl (v7), .inl (v8), .inl (s0)] [.inr (.inr (10, 0, 0))] σ) rfl ?_
      refine ox_R_if (fun _ => ?_) (fun _ => ?_)
      · refine ox_R_to 5 (Y := ox_ev m_Mod_total (ox_zz ox_ms (n + 12)) 161 0 tl [.inr (.inr (10, 0, 0)), .inl (v1), ox_d, .inl (v3), .inl (v4), ox_d, .inl (v6), ox_d, ox_d, ox_d] [.inr (.inl (ox_w (v5 - v8))), .inr (.inr (10, 0, 0))] σ) rfl ?_
        exact (L_Mod_total_161 n P hP v1 v3 v4 v6 (ox_w (v5 - v8)) σ tl)
      · refine ox_R_to 5 (Y := ox_ev m_Mod_total (ox_zz ox_ms (n + 12)) 161 0 tl [.inr (.inr (10, 0, 0)), .inl (v1), ox_d, .inl (v3), .inl (v4), ox_d, .inl (v6), ox_d, ox_d, ox_d] [.inr (.inl (ox_wl (v5 * v8))), .inr (.inr (10, 0, 0))] σ) rfl ?_
        exact (L_Mod_total_161 n P hP v1 v3 v4 v6 (ox_wl (v5 * v8)) σ tl)
  · refine ox_R_to 2 (Y := ox_ev m_Mod_total (ox_zz ox_ms (n + 12)) 164 0 tl [.inr (.inr (10, 0, 0)), .inl (v1), ox_d, .inl (v3), .inl (v4), ox_d, .inl (v6), ox_d, ox_d, ox_d] [.inl (ox_c 1000000 0)] σ) rfl ?_
    exact (L_Mod_total_164 n P hP v1 v3 v4 v6 (ox_c 1000000 0) σ tl)
def J_Mod_total_103 (P : Int → Int → Int → ox_H → Option (Int × ox_H))  (v1 : Int) (v3 : Int) (v4 : Int) (v5 : Int) (v6 : Int) (v7 : Int) (v8 : Int) (σ : ox_H) : Option (((Int × Int × Int × ox_H) ⊕ Int × ox_H)) := (J_Mod_total_108 P v1 v3 v4 v5 v6 v7 v8 1 σ)
theorem L_Mod_total_103 (n : Nat) (P : Int → Int → Int → ox_H → Option (Int × ox_H)) (hP : ∀ (a1 a2 a3 : Int) (σ : ox_H) (tl : Nat), ox_R (fun r => some ((fun r : Int × ox_H => ((.inl (some (.inl r.1)), r.2) : ox_O)) r)) (P a1 a2 a3 σ) (ox_zz ox_ms (n + 10) 120 tl [.inr (.inr (10, 0, 0)), .inl (a1), .inl (a2), .inl (a3)] σ))  (v1 : Int) (v3 : Int) (v4 : Int) (v5 : Int) (v6 : Int) (v7 : Int) (v8 : Int) (σ : ox_H) (tl : Nat) : ox_R (Sum.elim (fun (s : Int × Int × Int × ox_H) => match s with | (v4, v5, v6, σ) => ox_ev m_Mod_total (ox_zz ox_ms (n + 12)) 28 0 tl [.inr (.inr (10, 0, 0)), .inl (v1), ox_d, .inl (v3), .inl (v4), .inl (v5), .inl (v6), ox_d, ox_d, ox_d] [] σ) (fun r => some ((fun r : Int × ox_H => ((.inl (some (.inl r.1)), r.2) : ox_O)) r))) (J_Mod_total_103 P v1 v3 v4 v5 v6 v7 v8 σ) (ox_ev m_Mod_total (ox_zz ox_ms (n + 12)) 103 0 tl [.inr (.inr (10, 0, 0)), .inl (v1), ox_d, .inl (v3), .inl (v4), .inl (v5), .inl (v6), .inl (v7), .inl (v8), ox_d] [] σ) := by
  unfold J_Mod_total_103
  refine ox_R_to 2 (Y := ox_ev m_Mod_total (ox_zz ox_ms (n + 12)) 108 0 tl [.inr (.inr (10, 0, 0)), .inl (v1), ox_d, .inl (v3), .inl (v4), .inl (v5), .inl (v6), .inl (v7), .inl (v8), ox_d] [.inl (1)] σ) rfl ?_
  exact (L_Mod_total_108 n P hP v1 v3 v4 v5 v6 v7 v8 1 σ tl)
def J_Mod_total_68 (P : Int → Int → Int → ox_H → Option (Int × ox_H))  (v1 : Int) (v3 : Int) (v4 : Int) (v5 : Int) (v7 : Int) (s0 : Int) (σ : ox_H) : Option (((Int × Int × Int × ox_H) ⊕ Int × ox_H)) := if s0 = 0 then (J_Mod_total_182 P v1 v3 v4 v5 s0 σ) else ((F_Mod_part P v1 (ox_w (v4 + 1)) v3 σ).bind fun r3 => (if v5 = (ox_c 1000000 0) then (J_Mod_total_103 P v1 v3 v4 v5 s0 v7 r3.1 r3.2) else (if r3.1 = (ox_c 1000000 0) then (J_Mod_total_103 P v1 v3 v4 v5 s0 v7 r3.1 r3.2) else (J_Mod_total_108 P v1 v3 v4 v5 s0 v7 r3.1 0 r3.2))))
theorem L_Mod_total_68 (n : Nat) (P : Int → Int → Int → ox_H → Option (Int × ox_H)) (hP : ∀ (a1 a2 a3 : Int) (σ : ox_H) (tl : Nat), ox_R (fun r => some ((fun r : Int × ox_H => ((.inl (some (.inl r.1)), r.2) : ox_O)) r)) (P a1 a2 a3 σ) (ox_zz ox_ms (n + 10) 120 tl [.inr (.inr (10, 0, 0)), .inl (a1), .inl (a2), .inl (a3)] σ))  (v1 : Int) (v3 : Int) (v4 : Int) (v5 : Int) (v7 : Int) (s0 : Int) (σ : ox_H) (tl : Nat) : ox_R (Sum.elim (fun (s : Int × Int × Int × ox_H) => match s with | (v4, v5, v6, σ) => ox_ev m_Mod_total (ox_zz ox_ms (n + 12)) 28 0 tl [.inr (.inr (10, 0, 0)), .inl (v1), ox_d, .inl (v3), .inl (v4), .inl (v5), .inl (v6), ox_d, ox_d, ox_d] [] σ) (fun r => some ((fun r : Int × ox_H => ((.inl (some (.inl r.1)), r.2) : ox_O)) r))) (J_Mod_total_68 P v1 v3 v4 v5 v7 s0 σ) (ox_ev m_Mod_total (ox_zz ox_ms (n + 12)) 68 0 tl [.inr (.inr (10, 0, 0)), .inl (v1), ox_d, .inl (v3), .inl (v4), .inl (v5), ox_d, .inl (v7), ox_d, ox_d] [.inl (s0)] σ) := by
  unfold J_Mod_total_68
  refine ox_R_to 3 (Y := if s0 = 0 then ox_ev m_Mod_total (ox_zz ox_ms (n + 12)) 182 0 tl [.inr (.inr (10, 0, 0)), .inl (v1), ox_d, .inl (v3), .inl (v4), .inl (v5), .inl (s0), ox_d, ox_d, ox_d] [] σ else ox_ev m_Mod_total (ox_zz ox_ms (n + 12)) 75 0 tl [.inr (.inr (10, 0, 0)), .inl (v1), ox_d, .inl (v3), .inl (v4), .inl (v5), .inl (s0), .inl (v7), ox_d, ox_d] [] σ) rfl ?_
  refine ox_R_if (fun _ => ?_) (fun _ => ?_)
  · exact (L_Mod_total_182 n P hP v1 v3 v4 v5 s0 σ tl)
  · refine ox_R_to 7 (Y := ox_back m_Mod_total 82 1 [] ((ox_zz ox_ms (n + 12)) 121 tl [.inr (.inr (10, 0, 0)), .inl (v1), .inl (ox_w (v4 + 1)), .inl (v3)] σ) (fun pc9 x9 st9 σ9 => ox_ev m_Mod_total (ox_zz ox_ms (n + 12)) pc9 0 tl (ox_kl (m_Mod_total.2.2.1 pc9) (ox_xl x9 [.inr (.inr (10, 0, 0)), .inl (v1), ox_d, .inl (v3), .inl (v4), .inl (v5), .inl (s0), .inl (v7), ox_d, ox_d])) st9 σ9)) rfl ?_
    refine ox_R_call (fc := (fun r : Int × ox_H => ((.inl (some (.inl r.1)), r.2) : ox_O))) (L_Mod_part n P hP v1 (ox_w (v4 + 1)) v3 σ tl) (fun r3 => ?_)
    refine ox_R_of (Y := ox_ev m_Mod_total (ox_zz ox_ms (n + 12)) 85 0 tl [.inr (.inr (10, 0, 0)), .inl (v1), ox_d, .inl (v3), .inl (v4), .inl (v5), .inl (s0), .inl (v7), ox_d, ox_d] [.inl (r3.1)] r3.2) rfl ?_
    refine ox_R_to 4 (Y := if v5 = (ox_c 1000000 0) then ox_ev m_Mod_total (ox_zz ox_ms (n + 12)) 103 0 tl [.inr (.inr (10, 0, 0)), .inl (v1), ox_d, .inl (v3), .inl (v4), .inl (v5), .inl (s0), .inl (v7), .inl (r3.1), ox_d] [] r3.2 else ox_ev m_Mod_total (ox_zz ox_ms (n + 12)) 95 0 tl [.inr (.inr (10, 0, 0)), .inl (v1), ox_d, .inl (v3), .inl (v4), .inl (v5), .inl (s0), .inl (v7), .inl (r3.1), ox_d] [] r3.2) rfl ?_
    refine ox_R_if (fun _ => ?_) (fun _ => ?_)
    · exact (L_Mod_total_103 n P hP v1 v3 v4 v5 s0 v7 r3.1 r3.2 tl)
    · refine ox_R_to 3 (Y := if r3.1 = (ox_c 1000000 0) then ox_ev m_Mod_total (ox_zz ox_ms (n + 12)) 103 0 tl [.inr (.inr (10, 0, 0)), .inl (v1), ox_d, .inl (v3), .inl (v4), .inl (v5), .inl (s0), .inl (v7), .inl (r3.1), ox_d] [] r3.2 else ox_ev m_Mod_total (ox_zz ox_ms (n + 12)) 107 0 tl [.inr (.inr (10, 0, 0)), .inl (v1), ox_d, .inl (v3), .inl (v4), .inl (v5), .inl (s0), .inl (v7), .inl (r3.1), ox_d] [] r3.2) rfl ?_
      refine ox_R_if (fun _ => ?_) (fun _ => ?_)
      · exact (L_Mod_total_103 n P hP v1 v3 v4 v5 s0 v7 r3.1 r3.2 tl)
      · refine ox_R_to 1 (Y := ox_ev m_Mod_total (ox_zz ox_ms (n + 12)) 108 0 tl [.inr (.inr (10, 0, 0)), .inl (v1), ox_d, .inl (v3), .inl (v4), .inl (v5), .inl (s0), .inl (v7), .inl (r3.1), ox_d] [.inl (0)] r3.2) rfl ?_
        exact (L_Mod_total_108 n P hP v1 v3 v4 v5 s0 v7 r3.1 0 r3.2 tl)
def J_Mod_total_63 (P : Int → Int → Int → ox_H → Option (Int × ox_H))  (v1 : Int) (v3 : Int) (v4 : Int) (v5 : Int) (v7 : Int) (σ : ox_H) : Option (((Int × Int × Int × ox_H) ⊕ Int × ox_H)) := (J_Mod_total_68 P v1 v3 v4 v5 v7 1 σ)
theorem L_Mod_total_63 (n : Nat) (P : Int → Int → Int → ox_H → Option (Int × ox_H)) (hP : ∀ (a1 a2 a3 : Int) (σ : ox_H) (tl : Nat), ox_R (fun r => some ((fun r : Int × ox_H => ((.inl (some (.inl r.1)), r.2) : ox_O)) r)) (P a1 a2 a3 σ) (ox_zz ox_ms (n + 10) 120 tl [.inr (.inr (10, 0, 0)), .inl (a1), .inl (a2), .inl (a3)] σ))  (v1 : Int) (v3 : Int) (v4 : Int) (v5 : Int) (v7 : Int) (σ : ox_H) (tl : Nat) : ox_R (Sum.elim (fun (s : Int × Int × Int × ox_H) => match s with | (v4, v5, v6, σ) => ox_ev m_Mod_total (ox_zz ox_ms (n + 12)) 28 0 tl [.inr (.inr (10, 0, 0)), .inl (v1), ox_d, .inl (v3), .inl (v4), .inl (v5), .inl (v6), ox_d, ox_d, ox_d] [] σ) (fun r => some ((fun r : Int × ox_H => ((.inl (some (.inl r.1)), r.2) : ox_O)) r))) (J_Mod_total_63 P v1 v3 v4 v5 v7 σ) (ox_ev m_Mod_total (ox_zz ox_ms (n + 12)) 63 0 tl [.inr (.inr (10, 0, 0)), .inl (v1), ox_d, .inl (v3), .inl (v4), .inl (v5), ox_d, .inl (v7), ox_d, ox_d] [] σ) := by
  unfold J_Mod_total_63
  refine ox_R_to 2 (Y := ox_ev m_Mod_total (ox_zz ox_ms (n + 12)) 68 0 tl [.inr (.inr (10, 0, 0)), .inl (v1), ox_d, .inl (v3), .inl (v4), .inl (v5), ox_d, .inl (v7), ox_d, ox_d] [.inl (1)] σ) rfl ?_
  exact (L_Mod_total_68 n P hP v1 v3 v4 v5 v7 1 σ tl)
def B_Mod_total_28 (P : Int → Int → Int → ox_H → Option (Int × ox_H))  (v1 : Int) (v3 : Int) : (Int × Int × Int × ox_H) → Option (((Int × Int × Int × ox_H) ⊕ Int × ox_H)) := fun (v4, v5, v6, σ) => if v6 = 0 then ((J_Mod_total_185 P v5 σ).map .inr) else ((F_Mod_look v1 v4 σ).bind fun r4 => (if r4 = 43 then (J_Mod_total_63 P v1 v3 v4 v5 r4 σ) else (if r4 = 45 then (J_Mod_total_63 P v1 v3 v4 v5 r4 σ) else (if r4 = 42 then (J_Mod_total_63 P v1 v3 v4 v5 r4 σ) else (J_Mod_total_68 P v1 v3 v4 v5 r4 0 σ)))))
def J_Mod_total_28 (P : Int → Int → Int → ox_H → Option (Int × ox_H))  (v1 : Int) (v3 : Int) (v4 : Int) (v5 : Int) (v6 : Int) (σ : ox_H) : Option (Int × ox_H) := ox_lp (B_Mod_total_28 P v1 v3) ox_fu (v4, v5, v6, σ)
theorem L_Mod_total_28 (n : Nat) (P : Int → Int → Int → ox_H → Option (Int × ox_H)) (hP : ∀ (a1 a2 a3 : Int) (σ : ox_H) (tl : Nat), ox_R (fun r => some ((fun r : Int × ox_H => ((.inl (some (.inl r.1)), r.2) : ox_O)) r)) (P a1 a2 a3 σ) (ox_zz ox_ms (n + 10) 120 tl [.inr (.inr (10, 0, 0)), .inl (a1), .inl (a2), .inl (a3)] σ))  (v1 : Int) (v3 : Int) (v4 : Int) (v5 : Int) (v6 : Int) (σ : ox_H) (tl : Nat) : ox_R (fun r => some ((fun r : Int × ox_H => ((.inl (some (.inl r.1)), r.2) : ox_O)) r)) (J_Mod_total_28 P v1 v3 v4 v5 v6 σ) (ox_ev m_Mod_total (ox_zz ox_ms (n + 12)) 28 0 tl [.inr (.inr (10, 0, 0)), .inl (v1), ox_d, .inl (v3), .inl (v4), .inl (v5), .inl (v6), ox_d, ox_d, ox_d] [] σ) := by
  unfold J_Mod_total_28
  refine ox_R_lp (ψ := (fun (s : Int × Int × Int × ox_H) => match s with | (v4, v5, v6, σ) => ox_ev m_Mod_total (ox_zz ox_ms (n + 12)) 28 0 tl [.inr (.inr (10, 0, 0)), .inl (v1), ox_d, .inl (v3), .inl (v4), .inl (v5), .inl (v6), ox_d, ox_d, ox_d] [] σ)) ?_ ox_fu (v4, v5, v6, σ)
  intro s
  obtain ⟨v4, v5, v6, σ⟩ := s
  unfold B_Mod_total_28
  refine ox_R_to 2 (Y := if v6 = 0 then ox_ev m_Mod_total (ox_zz ox_ms (n + 12)) 185 0 tl [ox_d, ox_d, ox_d, ox_d, ox_d, .inl (v5), ox_d, ox_d, ox_d, ox_d] [] σ else ox_ev m_Mod_total (ox_zz ox_ms (n + 12)) 33 0 tl [.inr (.inr (10, 0, 0)), .inl (v1), ox_d, .inl (v3), .inl (v4), .inl (v5), .inl (v6), ox_d, ox_d, ox_d] [] σ) rfl ?_
  refine ox_R_if (fun _ => ?_) (fun _ => ?_)
  · exact ox_R_map ((L_Mod_total_185 n P hP v5 σ tl))
  · refine ox_R_to 4 (Y := ox_back m_Mod_total 37 1 [] ((ox_zz ox_ms (n + 12)) 46 tl [.inr (.inr (10, 0, 0)), .inl (v1), .inl (v4)] σ) (fun pc9 x9 st9 σ9 => ox_ev m_Mod_total (ox_zz ox_ms (n + 12)) pc9 0 tl (ox_kl (m_Mod_total.2.2.1 pc9) (ox_xl x9 [.inr (.inr (10, 0, 0)), .inl (v1), ox_d, .inl (v3), .inl (v4), .inl (v5), .inl (v6), ox_d, ox_d, ox_d])) st9 σ9)) rfl ?_
    refine ox_R_call (fc := (fun r : Int => ((.inl (some (.inl r)), σ) : ox_O))) (L_Mod_look v1 v4 σ (n + 11) tl) (fun r4 => ?_)
    refine ox_R_of (Y := ox_ev m_Mod_total (ox_zz ox_ms (n + 12)) 40 0 tl [.inr (.inr (10, 0, 0)), .inl (v1), ox_d, .inl (v3), .inl (v4), .inl (v5), .inl (v6), ox_d, ox_d, ox_d] [.inl (r4)] σ) rfl ?_
    refine ox_R_to 4 (Y := if r4 = 43 then ox_ev m_Mod_total (ox_zz ox_ms (n + 12)) 63 0 tl [.inr (.inr (10, 0, 0)), .inl (v1), ox_d, .inl (v3), .inl (v4), .inl (v5), ox_d, .inl (r4), ox_d, ox_d] [] σ else ox_ev m_Mod_total (ox_zz ox_ms (n + 12)) 49 0 tl [.inr (.inr (10, 0, 0)), .inl (v1), ox_d, .inl (v3), .inl (v4), .inl (v5), .inl (v6), .inl (r4), ox_d, ox_d] [] σ) rfl ?_
    refine ox_R_if (fun _ => ?_) (fun _ => ?_)
    · exact (L_Mod_total_63 n P hP v1 v3 v4 v5 r4 σ tl)
    · refine ox_R_to 3 (Y := if r4 = 45 then ox_ev m_Mod_total (ox_zz ox_ms (n + 12)) 63 0 tl [.inr (.inr (10, 0, 0)), .inl (v1), ox_d, .inl (v3), .inl (v4), .inl (v5), ox_d, .inl (r4), ox_d, ox_d] [] σ else ox_ev m_Mod_total (ox_zz ox_ms (n + 12)) 56 0 tl [.inr (.inr (10, 0, 0)), .inl (v1), ox_d, .inl (v3), .inl (v4), .inl (v5), .inl (v6), .inl (r4), ox_d, ox_d] [] σ) rfl ?_
      refine ox_R_if (fun _ => ?_) (fun _ => ?_)
      · exact (L_Mod_total_63 n P hP v1 v3 v4 v5 r4 σ tl)
      · refine ox_R_to 3 (Y := if r4 = 42 then ox_ev m_Mod_total (ox_zz ox_ms (n + 12)) 63 0 tl [.inr (.inr (10, 0, 0)), .inl (v1), ox_d, .inl (v3), .inl (v4), .inl (v5), ox_d, .inl (r4), ox_d, ox_d] [] σ else ox_ev m_Mod_total (ox_zz ox_ms (n + 12)) 67 0 tl [.inr (.inr (10, 0, 0)), .inl (v1), ox_d, .inl (v3), .inl (v4), .inl (v5), .inl (v6), .inl (r4), ox_d, ox_d] [] σ) rfl ?_
        refine ox_R_if (fun _ => ?_) (fun _ => ?_)
        · exact (L_Mod_total_63 n P hP v1 v3 v4 v5 r4 σ tl)
        · refine ox_R_to 1 (Y := ox_ev m_Mod_total (ox_zz ox_ms (n + 12)) 68 0 tl [.inr (.inr (10, 0, 0)), .inl (v1), ox_d, .inl (v3), .inl (v4), .inl (v5), ox_d, .inl (r4), ox_d, ox_d] [.inl (0)] σ) rfl ?_
          exact (L_Mod_total_68 n P hP v1 v3 v4 v5 r4 0 σ tl)
def F_Mod_total (P : Int → Int → Int → ox_H → Option (Int × ox_H))  (a1 : Int) (a2 : Int) (a3 : Int) (σ : ox_H) : Option (Int × ox_H) := (F_Mod_part P a1 a2 a3 σ).bind fun r5 => ((F_Mod_size a1 a2 r5.2).bind fun r6 => (J_Mod_total_28 P a1 a3 (ox_w (a2 + r6.1)) r5.1 1 r6.2))
theorem L_Mod_total (n : Nat) (P : Int → Int → Int → ox_H → Option (Int × ox_H)) (hP : ∀ (a1 a2 a3 : Int) (σ : ox_H) (tl : Nat), ox_R (fun r => some ((fun r : Int × ox_H => ((.inl (some (.inl r.1)), r.2) : ox_O)) r)) (P a1 a2 a3 σ) (ox_zz ox_ms (n + 10) 120 tl [.inr (.inr (10, 0, 0)), .inl (a1), .inl (a2), .inl (a3)] σ))  (a1 : Int) (a2 : Int) (a3 : Int) (σ : ox_H) (tl : Nat) : ox_R (fun r => some ((fun r : Int × ox_H => ((.inl (some (.inl r.1)), r.2) : ox_O)) r)) (F_Mod_total P a1 a2 a3 σ) (ox_zz ox_ms (n + 13) 120 tl [.inr (.inr (10, 0, 0)), .inl (a1), .inl (a2), .inl (a3)] σ) := by
  unfold F_Mod_total
  refine ox_R_of (Y := ox_ev m_Mod_total (ox_zz ox_ms (n + 12)) 0 0 tl [.inr (.inr (10, 0, 0)), .inl (a1), .inl (a2), .inl (a3), ox_d, ox_d, ox_d, ox_d, ox_d, ox_d] [] σ) rfl ?_
  refine ox_R_to 7 (Y := ox_back m_Mod_total 8 1 [] ((ox_zz ox_ms (n + 12)) 121 tl [.inr (.inr (10, 0, 0)), .inl (a1), .inl (a2), .inl (a3)] σ) (fun pc9 x9 st9 σ9 => ox_ev m_Mod_total (ox_zz ox_ms (n + 12)) pc9 0 tl (ox_kl (m_Mod_total.2.2.1 pc9) (ox_xl x9 [.inr (.inr (10, 0, 0)), .inl (a1), .inl (a2), .inl (a3), .inl (a2), ox_d, ox_d, ox_d, ox_d, ox_d])) st9 σ9)) rfl ?_
  refine ox_R_call (fc := (fun r : Int × ox_H => ((.inl (some (.inl r.1)), r.2) : ox_O))) (L_Mod_part n P hP a1 a2 a3 σ tl) (fun r5 => ?_)
  refine ox_R_of (Y := ox_ev m_Mod_total (ox_zz ox_ms (n + 12)) 11 0 tl [.inr (.inr (10, 0, 0)), .inl (a1), .inl (a2), .inl (a3), .inl (a2), ox_d, ox_d, ox_d, ox_d, ox_d] [.inl (r5.1)] r5.2) rfl ?_
  refine ox_R_to 6 (Y := ox_back m_Mod_total 19 1 [.inl (a2)] ((ox_zz ox_ms (n + 12)) 119 tl [.inr (.inr (10, 0, 0)), .inl (a1), .inl (a2)] r5.2) (fun pc9 x9 st9 σ9 => ox_ev m_Mod_total (ox_zz ox_ms (n + 12)) pc9 0 tl (ox_kl (m_Mod_total.2.2.1 pc9) (ox_xl x9 [.inr (.inr (10, 0, 0)), .inl (a1), .inl (a2), .inl (a3), .inl (a2), .inl (r5.1), ox_d, ox_d, ox_d, ox_d])) st9 σ9)) rfl ?_
  refine ox_R_call (fc := (fun r : Int × ox_H => ((.inl (some (.inl r.1)), r.2) : ox_O))) (L_Mod_size a1 a2 r5.2 (n + 7) tl) (fun r6 => ?_)
  refine ox_R_of (Y := ox_ev m_Mod_total (ox_zz ox_ms (n + 12)) 22 0 tl [.inr (.inr (10, 0, 0)), .inl (a1), .inl (a2), .inl (a3), .inl (a2), .inl (r5.1), ox_d, ox_d, ox_d, ox_d] [.inl (r6.1), .inl (a2)] r6.2) rfl ?_
  refine ox_R_to 4 (Y := ox_ev m_Mod_total (ox_zz ox_ms (n + 12)) 28 0 tl [.inr (.inr (10, 0, 0)), .inl (a1), ox_d, .inl (a3), .inl (ox_w (a2 + r6.1)), .inl (r5.1), .inl (1), ox_d, ox_d, ox_d] [] r6.2) rfl ?_
  exact (L_Mod_total_28 n P hP a1 a3 (ox_w (a2 + r6.1)) r5.1 1 r6.2 tl)
def K_Mod_total (n : Nat) : Int → Int → Int → ox_H → Option (Int × ox_H) := Nat.rec (motive := fun _ => Int → Int → Int → ox_H → Option (Int × ox_H)) (fun _ _ _ _ => none) (fun _ P a1 a2 a3 σ => F_Mod_total P a1 a2 a3 σ) n
theorem KL_Mod_total (n : Nat) : ∀ (q : Nat), ∀ (a1 a2 a3 : Int) (σ : ox_H) (tl : Nat), ox_R (fun r => some ((fun r : Int × ox_H => ((.inl (some (.inl r.1)), r.2) : ox_O)) r)) (K_Mod_total q a1 a2 a3 σ) (ox_zz ox_ms (n + 3 * q + 10) 120 tl [.inr (.inr (10, 0, 0)), .inl (a1), .inl (a2), .inl (a3)] σ)
  | 0, _, _, _, _, _ => ox_R_none
  | q + 1, a1, a2, a3, σ, tl => L_Mod_total (n + 3 * q) (K_Mod_total q) (KL_Mod_total n q) a1 a2 a3 σ tl
def J_Mod_rowOf_104  (σ : ox_H) : Option (Int × ox_H) := some ((-1), σ)
theorem L_Mod_rowOf_104  (σ : ox_H) (n tl : Nat) : ox_R (fun r => some ((fun r : Int × ox_H => ((.inl (some (.inl r.1)), r.2) : ox_O)) r)) (J_Mod_rowOf_104 σ) (ox_ev m_Mod_rowOf (ox_zz ox_ms (n + 7)) 104 0 tl [ox_d, ox_d, ox_d, ox_d, ox_d, ox_d, ox_d] [] σ) := by
  unfold J_Mod_rowOf_104
  refine ox_R_to 2 (Y := some (.inl (some (.inl ((-1)))), σ)) rfl ?_
  exact ox_R_ret rfl
def J_Mod_rowOf_98  (v1 : Int) (v3 : Int) (v4 : Int) (v5 : Int) (σ : ox_H) : Option (((Int × Int × ox_H) ⊕ Int × ox_H)) := some (.inl (v4, ox_w (v5 + 1), σ))
theorem L_Mod_rowOf_98  (v1 : Int) (v3 : Int) (v4 : Int) (v5 : Int) (σ : ox_H) (n tl : Nat) : ox_R (Sum.elim (fun (s : Int × Int × ox_H) => match s with | (v4, v5, σ) => ox_ev m_Mod_rowOf (ox_zz ox_ms (n + 7)) 13 0 tl [.inr (.inr (10, 0, 0)), .inl (v1), ox_d, .inl (v3), .inl (v4), .inl (v5), ox_d] [] σ) (fun r => some ((fun r : Int × ox_H => ((.inl (some (.inl r.1)), r.2) : ox_O)) r))) (J_Mod_rowOf_98 v1 v3 v4 v5 σ) (ox_ev m_Mod_rowOf (ox_zz ox_ms (n + 7)) 98 0 tl [.inr (.inr (10, 0, 0)), .inl (v1), ox_d, .inl (v3), .inl (v4), .inl (v5), ox_d] [] σ) := by
  unfold J_Mod_rowOf_98
  refine ox_R_to 2 (Y := ox_ev m_Mod_rowOf (ox_zz ox_ms (n + 7)) 13 0 tl [.inr (.inr (10, 0, 0)), .inl (v1), ox_d, .inl (v3), .inl (v4), .inl (ox_w (v5 + 1)), ox_d] [] σ) rfl ?_
  exact ox_R_ret rfl
def J_Mod_rowOf_94  (s0 : Int) (σ : ox_H) : Option (Int × ox_H) := some (s0, σ)
theorem L_Mod_rowOf_94  (s0 : Int) (σ : ox_H) (n tl : Nat) : ox_R (fun r => some ((fun r : Int × ox_H => ((.inl (some (.inl r.1)), r.2) : ox_O)) r)) (J_Mod_rowOf_94 s0 σ) (ox_ev m_Mod_rowOf (ox_zz ox_ms (n + 7)) 94 0 tl [ox_d, ox_d, ox_d, ox_d, ox_d, ox_d, ox_d] [.inl (s0)] σ) := by
  unfold J_Mod_rowOf_94
  refine ox_R_to 1 (Y := some (.inl (some (.inl (s0))), σ)) rfl ?_
  exact ox_R_ret rfl
def J_Mod_rowOf_93  (σ : ox_H) : Option (Int × ox_H) := (J_Mod_rowOf_94 (-1) σ)
theorem L_Mod_rowOf_93  (σ : ox_H) (n tl : Nat) : ox_R (fun r => some ((fun r : Int × ox_H => ((.inl (some (.inl r.1)), r.2) : ox_O)) r)) (J_Mod_rowOf_93 σ) (ox_ev m_Mod_rowOf (ox_zz ox_ms (n + 7)) 93 0 tl [ox_d, ox_d, ox_d, ox_d, ox_d, ox_d, ox_d] [] σ) := by
  unfold J_Mod_rowOf_93
  refine ox_R_to 1 (Y := ox_ev m_Mod_rowOf (ox_zz ox_ms (n + 7)) 94 0 tl [ox_d, ox_d, ox_d, ox_d, ox_d, ox_d, ox_d] [.inl ((-1))] σ) rfl ?_
  exact (L_Mod_rowOf_94 (-1) σ n tl)
def J_Mod_rowOf_51  (v1 : Int) (v3 : Int) (v5 : Int) (σ : ox_H) : Option (Int × ox_H) := if v3 < 1 then (J_Mod_rowOf_93 σ) else (if 0 ≤ (ox_w (v1 + 1)) ∧ (ox_w (v1 + 1)).toNat < 61 then (if (σ 10 0 21 ((ox_w (v1 + 1)).toNat)) ≤ (ox_w ((ox_w (v5 + v3)) - 1)) then (J_Mod_rowOf_93 σ) else ((F_Mod_isTable v5 (ox_w ((ox_w (v5 + v3)) - 1)) σ).bind fun r1 => (if r1.1 = 0 then (J_Mod_rowOf_93 r1.2) else (J_Mod_rowOf_94 (ox_w ((ox_w (v5 + v3)) - 1)) r1.2)))) else none)
theorem L_Mod_rowOf_51  (v1 : Int) (v3 : Int) (v5 : Int) (σ : ox_H) (n tl : Nat) : ox_R (fun r => some ((fun r : Int × ox_H => ((.inl (some (.inl r.1)), r.2) : ox_O)) r)) (J_Mod_rowOf_51 v1 v3 v5 σ) (ox_ev m_Mod_rowOf (ox_zz ox_ms (n + 7)) 51 0 tl [.inr (.inr (10, 0, 0)), .inl (v1), ox_d, .inl (v3), ox_d, .inl (v5), ox_d] [] σ) := by
  unfold J_Mod_rowOf_51
  refine ox_R_to 9 (Y := if v3 < 1 then ox_ev m_Mod_rowOf (ox_zz ox_ms (n + 7)) 93 0 tl [ox_d, ox_d, ox_d, ox_d, ox_d, ox_d, ox_d] [] σ else ox_ev m_Mod_rowOf (ox_zz ox_ms (n + 7)) 64 0 tl [.inr (.inr (10, 0, 0)), .inl (v1), ox_d, .inl (v3), ox_d, .inl (v5), .inl (ox_w ((ox_w (v5 + v3)) - 1))] [] σ) rfl ?_
  refine ox_R_if (fun _ => ?_) (fun _ => ?_)
  · exact (L_Mod_rowOf_93 σ n tl)
  · refine ox_R_to 7 (Y := if 0 ≤ (ox_w (v1 + 1)) ∧ (ox_w (v1 + 1)).toNat < 61 then ox_ev m_Mod_rowOf (ox_zz ox_ms (n + 7)) 74 0 tl [.inr (.inr (10, 0, 0)), .inl (v1), ox_d, .inl (v3), ox_d, .inl (v5), .inl (ox_w ((ox_w (v5 + v3)) - 1))] [.inl (σ 10 0 21 ((ox_w (v1 + 1)).toNat)), .inl (ox_w ((ox_w (v5 + v3)) - 1))] σ else none) rfl ?_
    refine ox_R_if (fun _ => ?_) (fun _ => ox_R_none)
    refine ox_R_to 1 (Y := if (σ 10 0 21 ((ox_w (v1 + 1)).toNat)) ≤ (ox_w ((ox_w (v5 + v3)) - 1)) then ox_ev m_Mod_rowOf (ox_zz ox_ms (n + 7)) 93 0 tl [ox_d, ox_d, ox_d, ox_d, ox_d, ox_d, ox_d] [] σ else ox_ev m_Mod_rowOf (ox_zz ox_ms (n + 7)) 77 0 tl [.inr (.inr (10, 0, 0)), .inl (v1), ox_d, .inl (v3), ox_d, .inl (v5), .inl (ox_w ((ox_w (v5 + v3)) - 1))] [] σ) rfl ?_
    refine ox_R_if (fun _ => ?_) (fun _ => ?_)
    · exact (L_Mod_rowOf_93 σ n tl)
    · refine ox_R_to 4 (Y := ox_back m_Mod_rowOf 82 1 [] ((ox_zz ox_ms (n + 7)) 122 tl [.inr (.inr (10, 0, 0)), .inl (v5), .inl (ox_w ((ox_w (v5 + v3)) - 1))] σ) (fun pc9 x9 st9 σ9 => ox_ev m_Mod_rowOf (ox_zz ox_ms (n + 7)) pc9 0 tl (ox_kl (m_Mod_rowOf.2.2.1 pc9) (ox_xl x9 [.inr (.inr (10, 0, 0)), .inl (v1), ox_d, .inl (v3), ox_d, .inl (v5), .inl (ox_w ((ox_w (v5 + v3)) - 1))])) st9 σ9)) rfl ?_
      refine ox_R_call (fc := (fun r : Int × ox_H => ((.inl (some (.inl r.1)), r.2) : ox_O))) (L_Mod_isTable v5 (ox_w ((ox_w (v5 + v3)) - 1)) σ (n + 0) tl) (fun r1 => ?_)
      refine ox_R_of (Y := ox_ev m_Mod_rowOf (ox_zz ox_ms (n + 7)) 85 0 tl [.inr (.inr (10, 0, 0)), .inl (v1), ox_d, .inl (v3), ox_d, .inl (v5), .inl (ox_w ((ox_w (v5 + v3)) - 1))] [.inl (r1.1)] r1.2) rfl ?_
      refine ox_R_to 1 (Y := if r1.1 = 0 then ox_ev m_Mod_rowOf (ox_zz ox_ms (n + 7)) 93 0 tl [ox_d, ox_d, ox_d, ox_d, ox_d, ox_d, ox_d] [] r1.2 else ox_ev m_Mod_rowOf (ox_zz ox_ms (n + 7)) 88 0 tl [.inr (.inr (10, 0, 0)), .inl (v1), ox_d, .inl (v3), ox_d, .inl (v5), .inl (ox_w ((ox_w (v5 + v3)) - 1))] [] r1.2) rfl ?_
      refine ox_R_if (fun _ => ?_) (fun _ => ?_)
      · exact (L_Mod_rowOf_93 r1.2 n tl)
      · refine ox_R_to 2 (Y := ox_ev m_Mod_rowOf (ox_zz ox_ms (n + 7)) 94 0 tl [ox_d, ox_d, ox_d, ox_d, ox_d, ox_d, ox_d] [.inl (ox_w ((ox_w (v5 + v3)) - 1))] r1.2) rfl ?_
        exact (L_Mod_rowOf_94 (ox_w ((ox_w (v5 + v3)) - 1)) r1.2 n tl)
def B_Mod_rowOf_13  (v1 : Int) (v3 : Int) : (Int × Int × ox_H) → Option (((Int × Int × ox_H) ⊕ Int × ox_H)) := fun (v4, v5, σ) => if 0 ≤ (ox_w (v1 + 1)) ∧ (ox_w (v1 + 1)).toNat < 61 then (if (σ 10 0 21 ((ox_w (v1 + 1)).toNat)) ≤ v5 then ((J_Mod_rowOf_104 σ).map .inr) else ((F_Mod_row v5 σ).bind fun r2 => (if r2.1 = 0 then (J_Mod_rowOf_98 v1 v3 v4 v5 r2.2) else ((F_Mod_top v5 r2.2).bind fun r3 => (if r3.1 = v5 then (if v4 = 0 then ((J_Mod_rowOf_51 v1 v3 v5 r3.2).map .inr) else (J_Mod_rowOf_98 v1 v3 (ox_w (v4 + (-1))) v5 r3.2)) else (J_Mod_rowOf_98 v1 v3 v4 v5 r3.2)))))) else none
def J_Mod_rowOf_13  (v1 : Int) (v3 : Int) (v4 : Int) (v5 : Int) (σ : ox_H) : Option (Int × ox_H) := ox_lp (B_Mod_rowOf_13 v1 v3) ox_fu (v4, v5, σ)
theorem L_Mod_rowOf_13  (v1 : Int) (v3 : Int) (v4 : Int) (v5 : Int) (σ : ox_H) (n tl : Nat) : ox_R (fun r => some ((fun r : Int × ox_H => ((.inl (some (.inl r.1)), r.2) : ox_O)) r)) (J_Mod_rowOf_13 v1 v3 v4 v5 σ) (ox_ev m_Mod_rowOf (ox_zz ox_ms (n + 7)) 13 0 tl [.inr (.inr (10, 0, 0)), .inl (v1), ox_d, .inl (v3), .inl (v4), .inl (v5), ox_d] [] σ) := by
  unfold J_Mod_rowOf_13
  refine ox_R_lp (ψ := (fun (s : Int × Int × ox_H) => match s with | (v4, v5, σ) => ox_ev m_Mod_rowOf (ox_zz ox_ms (n + 7)) 13 0 tl [.inr (.inr (10, 0, 0)), .inl (v1), ox_d, .inl (v3), .inl (v4), .inl (v5), ox_d] [] σ)) ?_ ox_fu (v4, v5, σ)
  intro s
  obtain ⟨v4, v5, σ⟩ := s
  unfold B_Mod_rowOf_13
  refine ox_R_to 7 (Y := if 0 ≤ (ox_w (v1 + 1)) ∧ (ox_w (v1 + 1)).toNat < 61 then ox_ev m_Mod_rowOf (ox_zz ox_ms (n + 7)) 23 0 tl [.inr (.inr (10, 0, 0)), .inl (v1), ox_d, .inl (v3), .inl (v4), .inl (v5), ox_d] [.inl (σ 10 0 21 ((ox_w (v1 + 1)).toNat)), .inl (v5)] σ else none) rfl ?_
  refine ox_R_if (fun _ => ?_) (fun _ => ox_R_none)
  refine ox_R_to 1 (Y := if (σ 10 0 21 ((ox_w (v1 + 1)).toNat)) ≤ v5 then ox_ev m_Mod_rowOf (ox_zz ox_ms (n + 7)) 104 0 tl [ox_d, ox_d, ox_d, ox_d, ox_d, ox_d, ox_d] [] σ else ox_ev m_Mod_rowOf (ox_zz ox_ms (n + 7)) 26 0 tl [.inr (.inr (10, 0, 0)), .inl (v1), ox_d, .inl (v3), .inl (v4), .inl (v5), ox_d] [] σ) rfl ?_
  refine ox_R_if (fun _ => ?_) (fun _ => ?_)
  · exact ox_R_map ((L_Mod_rowOf_104 σ n tl))
  · refine ox_R_to 3 (Y := ox_back m_Mod_rowOf 29 1 [] ((ox_zz ox_ms (n + 7)) 61 tl [.inr (.inr (10, 0, 0)), .inl (v5)] σ) (fun pc9 x9 st9 σ9 => ox_ev m_Mod_rowOf (ox_zz ox_ms (n + 7)) pc9 0 tl (ox_kl (m_Mod_rowOf.2.2.1 pc9) (ox_xl x9 [.inr (.inr (10, 0, 0)), .inl (v1), ox_d, .inl (v3), .inl (v4), .inl (v5), ox_d])) st9 σ9)) rfl ?_
    refine ox_R_call (fc := (fun r : Int × ox_H => ((.inl (some (.inl r.1)), r.2) : ox_O))) (L_Mod_row v5 σ (n + 1) tl) (fun r2 => ?_)
    refine ox_R_of (Y := ox_ev m_Mod_rowOf (ox_zz ox_ms (n + 7)) 32 0 tl [.inr (.inr (10, 0, 0)), .inl (v1), ox_d, .inl (v3), .inl (v4), .inl (v5), ox_d] [.inl (r2.1)] r2.2) rfl ?_
    refine ox_R_to 1 (Y := if r2.1 = 0 then ox_ev m_Mod_rowOf (ox_zz ox_ms (n + 7)) 98 0 tl [.inr (.inr (10, 0, 0)), .inl (v1), ox_d, .inl (v3), .inl (v4), .inl (v5), ox_d] [] r2.2 else ox_ev m_Mod_rowOf (ox_zz ox_ms (n + 7)) 35 0 tl [.inr (.inr (10, 0, 0)), .inl (v1), ox_d, .inl (v3), .inl (v4), .inl (v5), ox_d] [] r2.2) rfl ?_
    refine ox_R_if (fun _ => ?_) (fun _ => ?_)
    · exact (L_Mod_rowOf_98 v1 v3 v4 v5 r2.2 n tl)
    · refine ox_R_to 3 (Y := ox_back m_Mod_rowOf 38 1 [] ((ox_zz ox_ms (n + 7)) 114 tl [.inr (.inr (10, 0, 0)), .inl (v5)] r2.2) (fun pc9 x9 st9 σ9 => ox_ev m_Mod_rowOf (ox_zz ox_ms (n + 7)) pc9 0 tl (ox_kl (m_Mod_rowOf.2.2.1 pc9) (ox_xl x9 [.inr (.inr (10, 0, 0)), .inl (v1), ox_d, .inl (v3), .inl (v4), .inl (v5), ox_d])) st9 σ9)) rfl ?_
      refine ox_R_call (fc := (fun r : Int × ox_H => ((.inl (some (.inl r.1)), r.2) : ox_O))) (L_Mod_top v5 r2.2 (n + 0) tl) (fun r3 => ?_)
      refine ox_R_of (Y := ox_ev m_Mod_rowOf (ox_zz ox_ms (n + 7)) 41 0 tl [.inr (.inr (10, 0, 0)), .inl (v1), ox_d, .inl (v3), .inl (v4), .inl (v5), ox_d] [.inl (r3.1)] r3.2) rfl ?_
      refine ox_R_to 2 (Y := if r3.1 = v5 then ox_ev m_Mod_rowOf (ox_zz ox_ms (n + 7)) 46 0 tl [.inr (.inr (10, 0, 0)), .inl (v1), ox_d, .inl (v3), .inl (v4), .inl (v5), ox_d] [] r3.2 else ox_ev m_Mod_rowOf (ox_zz ox_ms (n + 7)) 98 0 tl [.inr (.inr (10, 0, 0)), .inl (v1), ox_d, .inl (v3), .inl (v4), .inl (v5), ox_d] [] r3.2) rfl ?_
      refine ox_R_if (fun _ => ?_) (fun _ => ?_)
      · refine ox_R_to 2 (Y := if v4 = 0 then ox_ev m_Mod_rowOf (ox_zz ox_ms (n + 7)) 51 0 tl [.inr (.inr (10, 0, 0)), .inl (v1), ox_d, .inl (v3), ox_d, .inl (v5), ox_d] [] r3.2 else ox_ev m_Mod_rowOf (ox_zz ox_ms (n + 7)) 95 0 tl [.inr (.inr (10, 0, 0)), .inl (v1), ox_d, .inl (v3), .inl (v4), .inl (v5), ox_d] [] r3.2) rfl ?_
        refine ox_R_if (fun _ => ?_) (fun _ => ?_)
        · exact ox_R_map ((L_Mod_rowOf_51 v1 v3 v5 r3.2 n tl))
        · refine ox_R_to 1 (Y := ox_ev m_Mod_rowOf (ox_zz ox_ms (n + 7)) 98 0 tl [.inr (.inr (10, 0, 0)), .inl (v1), ox_d, .inl (v3), .inl (ox_w (v4 + (-1))), .inl (v5), ox_d] [] r3.2) rfl ?_
          exact (L_Mod_rowOf_98 v1 v3 (ox_w (v4 + (-1))) v5 r3.2 n tl)
      · exact (L_Mod_rowOf_98 v1 v3 v4 v5 r3.2 n tl)
def F_Mod_rowOf  (a1 : Int) (a2 : Int) (a3 : Int) (σ : ox_H) : Option (Int × ox_H) := if 0 ≤ a1 ∧ a1.toNat < 61 then (J_Mod_rowOf_13 a1 a3 a2 (ox_w ((σ 10 0 21 a1.toNat) + 1)) σ) else none
theorem L_Mod_rowOf  (a1 : Int) (a2 : Int) (a3 : Int) (σ : ox_H) (n tl : Nat) : ox_R (fun r => some ((fun r : Int × ox_H => ((.inl (some (.inl r.1)), r.2) : ox_O)) r)) (F_Mod_rowOf a1 a2 a3 σ) (ox_zz ox_ms (n + 8) 125 tl [.inr (.inr (10, 0, 0)), .inl (a1), .inl (a2), .inl (a3)] σ) := by
  unfold F_Mod_rowOf
  refine ox_R_of (Y := ox_ev m_Mod_rowOf (ox_zz ox_ms (n + 7)) 0 0 tl [.inr (.inr (10, 0, 0)), .inl (a1), .inl (a2), .inl (a3), ox_d, ox_d, ox_d] [] σ) rfl ?_
  refine ox_R_to 6 (Y := if 0 ≤ a1 ∧ a1.toNat < 61 then ox_ev m_Mod_rowOf (ox_zz ox_ms (n + 7)) 9 0 tl [.inr (.inr (10, 0, 0)), .inl (a1), .inl (a2), .inl (a3), .inl (a2), ox_d, ox_d] [.inl (σ 10 0 21 a1.toNat)] σ else none) rfl ?_
  refine ox_R_if (fun _ => ?_) (fun _ => ox_R_none)
  refine ox_R_to 3 (Y := ox_ev m_Mod_rowOf (ox_zz ox_ms (n + 7)) 13 0 tl [.inr (.inr (10, 0, 0)), .inl (a1), ox_d, .inl (a3), .inl (a2), .inl (ox_w ((σ 10 0 21 a1.toNat) + 1)), ox_d] [] σ) rfl ?_
  exact (L_Mod_rowOf_13 a1 a3 a2 (ox_w ((σ 10 0 21 a1.toNat) + 1)) σ n tl)
def J_Mod_cell_82  (v4 : Int) (v6 : Int) (s0 : Int) (σ : ox_H) : Option (Int × ox_H) := (F_Mod_holds s0 σ).bind fun r1 => (if r1.1 = 0 then ((F_Mod_value (K_Mod_total 400) v6 v4 (ox_up r1.2 10 0 36 0 (ox_w ((r1.2 10 0 36 0) + 1)))).bind fun r2 => (some (r2.1, r2.2))) else (some ((-1), r1.2)))
theorem L_Mod_cell_82  (v4 : Int) (v6 : Int) (s0 : Int) (σ : ox_H) (n tl : Nat) : ox_R (fun r => some ((fun r : Int × ox_H => ((.inl (some (.inl r.1)), r.2) : ox_O)) r)) (J_Mod_cell_82 v4 v6 s0 σ) (ox_ev m_Mod_cell (ox_zz ox_ms (n + 1211)) 82 0 tl [.inr (.inr (10, 0, 0)), ox_d, ox_d, ox_d, .inl (v4), ox_d, .inl (v6)] [.inl (s0), .inr (.inr (10, 0, 0))] σ) := by
  unfold J_Mod_cell_82
  refine ox_R_to 1 (Y := ox_back m_Mod_cell 82 1 [] ((ox_zz ox_ms (n + 1211)) 43 tl [.inr (.inr (10, 0, 0)), .inl (s0)] σ) (fun pc9 x9 st9 σ9 => ox_ev m_Mod_cell (ox_zz ox_ms (n + 1211)) pc9 0 tl (ox_kl (m_Mod_cell.2.2.1 pc9) (ox_xl x9 [.inr (.inr (10, 0, 0)), ox_d, ox_d, ox_d, .inl (v4), ox_d, .inl (v6)])) st9 σ9)) rfl ?_
  refine ox_R_call (fc := (fun r : Int × ox_H => ((.inl (some (.inl r.1)), r.2) : ox_O))) (L_Mod_holds s0 σ (n + 1210) tl) (fun r1 => ?_)
  refine ox_R_of (Y := ox_ev m_Mod_cell (ox_zz ox_ms (n + 1211)) 85 0 tl [.inr (.inr (10, 0, 0)), ox_d, ox_d, ox_d, .inl (v4), ox_d, .inl (v6)] [.inl (r1.1)] r1.2) rfl ?_
  refine ox_R_to 1 (Y := if r1.1 = 0 then ox_ev m_Mod_cell (ox_zz ox_ms (n + 1211)) 90 0 tl [.inr (.inr (10, 0, 0)), ox_d, ox_d, ox_d, .inl (v4), ox_d, .inl (v6)] [] r1.2 else ox_ev m_Mod_cell (ox_zz ox_ms (n + 1211)) 88 0 tl [.inr (.inr (10, 0, 0)), ox_d, ox_d, ox_d, .inl (v4), ox_d, .inl (v6)] [] r1.2) rfl ?_
  refine ox_R_if (fun _ => ?_) (fun _ => ?_)
  · refine ox_R_to 10 (Y := ox_back m_Mod_cell 105 1 [] ((ox_zz ox_ms (n + 1211)) 117 tl [.inr (.inr (10, 0, 0)), .inl (v6), .inl (v4)] (ox_up r1.2 10 0 36 0 (ox_w ((r1.2 10 0 36 0) + 1)))) (fun pc9 x9 st9 σ9 => ox_ev m_Mod_cell (ox_zz ox_ms (n + 1211)) pc9 0 tl (ox_kl (m_Mod_cell.2.2.1 pc9) (ox_xl x9 [.inr (.inr (10, 0, 0)), ox_d, ox_d, ox_d, .inl (v4), ox_d, .inl (v6)])) st9 σ9)) rfl ?_
    refine ox_R_call (fc := (fun r : Int × ox_H => ((.inl (some (.inl r.1)), r.2) : ox_O))) (L_Mod_value (n + 1200) (K_Mod_total 400) (KL_Mod_total (n + 0) 400) v6 v4 (ox_up r1.2 10 0 36 0 (ox_w ((r1.2 10 0 36 0) + 1))) tl) (fun r2 => ?_)
    refine ox_R_of (Y := ox_ev m_Mod_cell (ox_zz ox_ms (n + 1211)) 108 0 tl [.inr (.inr (10, 0, 0)), ox_d, ox_d, ox_d, .inl (v4), ox_d, .inl (v6)] [.inl (r2.1)] r2.2) rfl ?_
    refine ox_R_to 1 (Y := some (.inl (some (.inl (r2.1))), r2.2)) rfl ?_
    exact ox_R_ret rfl
  · refine ox_R_to 2 (Y := some (.inl (some (.inl ((-1)))), r1.2)) rfl ?_
    exact ox_R_ret rfl
def J_Mod_cell_77  (v4 : Int) (v6 : Int) (σ : ox_H) : Option (Int × ox_H) := (J_Mod_cell_82 v4 v6 1 σ)
theorem L_Mod_cell_77  (v4 : Int) (v6 : Int) (σ : ox_H) (n tl : Nat) : ox_R (fun r => some ((fun r : Int × ox_H => ((.inl (some (.inl r.1)), r.2) : ox_O)) r)) (J_Mod_cell_77 v4 v6 σ) (ox_ev m_Mod_cell (ox_zz ox_ms (n + 1211)) 77 0 tl [.inr (.inr (10, 0, 0)), ox_d, ox_d, ox_d, .inl (v4), ox_d, .inl (v6)] [.inr (.inr (10, 0, 0))] σ) := by
  unfold J_Mod_cell_77
  refine ox_R_to 2 (Y := ox_ev m_Mod_cell (ox_zz ox_ms (n + 1211)) 82 0 tl [.inr (.inr (10, 0, 0)), ox_d, ox_d, ox_d, .inl (v4), ox_d, .inl (v6)] [.inl (1), .inr (.inr (10, 0, 0))] σ) rfl ?_
  exact (L_Mod_cell_82 v4 v6 1 σ n tl)
def J_Mod_cell_58  (v4 : Int) (s0 : Int) (σ : ox_H) : Option (Int × ox_H) := if s0 < 0 then (J_Mod_cell_77 v4 s0 σ) else ((F_Mod_begin s0 v4 σ).bind fun r3 => (if 0 ≤ r3 then (J_Mod_cell_82 v4 s0 0 σ) else (J_Mod_cell_77 v4 s0 σ)))
theorem L_Mod_cell_58  (v4 : Int) (s0 : Int) (σ : ox_H) (n tl : Nat) : ox_R (fun r => some ((fun r : Int × ox_H => ((.inl (some (.inl r.1)), r.2) : ox_O)) r)) (J_Mod_cell_58 v4 s0 σ) (ox_ev m_Mod_cell (ox_zz ox_ms (n + 1211)) 58 0 tl [.inr (.inr (10, 0, 0)), ox_d, ox_d, ox_d, .inl (v4), ox_d, ox_d] [.inl (s0)] σ) := by
  unfold J_Mod_cell_58
  refine ox_R_to 4 (Y := if s0 < 0 then ox_ev m_Mod_cell (ox_zz ox_ms (n + 1211)) 77 0 tl [.inr (.inr (10, 0, 0)), ox_d, ox_d, ox_d, .inl (v4), ox_d, .inl (s0)] [.inr (.inr (10, 0, 0))] σ else ox_ev m_Mod_cell (ox_zz ox_ms (n + 1211)) 66 0 tl [.inr (.inr (10, 0, 0)), ox_d, ox_d, ox_d, .inl (v4), ox_d, .inl (s0)] [.inr (.inr (10, 0, 0))] σ) rfl ?_
  refine ox_R_if (fun _ => ?_) (fun _ => ?_)
  · exact (L_Mod_cell_77 v4 s0 σ n tl)
  · refine ox_R_to 4 (Y := ox_back m_Mod_cell 71 1 [.inr (.inr (10, 0, 0))] ((ox_zz ox_ms (n + 1211)) 115 tl [.inr (.inr (10, 0, 0)), .inl (s0), .inl (v4)] σ) (fun pc9 x9 st9 σ9 => ox_ev m_Mod_cell (ox_zz ox_ms (n + 1211)) pc9 0 tl (ox_kl (m_Mod_cell.2.2.1 pc9) (ox_xl x9 [.inr (.inr (10, 0, 0)), ox_d, ox_d, ox_d, .inl (v4), ox_d, .inl (s0)])) st9 σ9)) rfl ?_
    refine ox_R_call (fc := (fun r : Int => ((.inl (some (.inl r)), σ) : ox_O))) (L_Mod_begin s0 v4 σ (n + 1209) tl) (fun r3 => ?_)
    refine ox_R_of (Y := ox_ev m_Mod_cell (ox_zz ox_ms (n + 1211)) 74 0 tl [.inr (.inr (10, 0, 0)), ox_d, ox_d, ox_d, .inl (v4), ox_d, .inl (s0)] [.inl (r3), .inr (.inr (10, 0, 0))] σ) rfl ?_
    refine ox_R_to 1 (Y := if 0 ≤ r3 then ox_ev m_Mod_cell (ox_zz ox_ms (n + 1211)) 81 0 tl [.inr (.inr (10, 0, 0)), ox_d, ox_d, ox_d, .inl (v4), ox_d, .inl (s0)] [.inr (.inr (10, 0, 0))] σ else ox_ev m_Mod_cell (ox_zz ox_ms (n + 1211)) 77 0 tl [.inr (.inr (10, 0, 0)), ox_d, ox_d, ox_d, .inl (v4), ox_d, .inl (s0)] [.inr (.inr (10, 0, 0))] σ) rfl ?_
    refine ox_R_if (fun _ => ?_) (fun _ => ?_)
    · refine ox_R_to 1 (Y := ox_ev m_Mod_cell (ox_zz ox_ms (n + 1211)) 82 0 tl [.inr (.inr (10, 0, 0)), ox_d, ox_d, ox_d, .inl (v4), ox_d, .inl (s0)] [.inl (0), .inr (.inr (10, 0, 0))] σ) rfl ?_
      exact (L_Mod_cell_82 v4 s0 0 σ n tl)
    · exact (L_Mod_cell_77 v4 s0 σ n tl)
def J_Mod_cell_40  (v1 : Int) (v2 : Int) (v3 : Int) (v4 : Int) (s0 : Int) (σ : ox_H) : Option (Int × ox_H) := if s0 = 0 then (J_Mod_cell_58 v4 (-1) σ) else ((F_Mod_rowOf v1 v2 v3 σ).bind fun r4 => (J_Mod_cell_58 v4 r4.1 r4.2))
theorem L_Mod_cell_40  (v1 : Int) (v2 : Int) (v3 : Int) (v4 : Int) (s0 : Int) (σ : ox_H) (n tl : Nat) : ox_R (fun r => some ((fun r : Int × ox_H => ((.inl (some (.inl r.1)), r.2) : ox_O)) r)) (J_Mod_cell_40 v1 v2 v3 v4 s0 σ) (ox_ev m_Mod_cell (ox_zz ox_ms (n + 1211)) 40 0 tl [.inr (.inr (10, 0, 0)), .inl (v1), .inl (v2), .inl (v3), .inl (v4), ox_d, ox_d] [.inl (s0)] σ) := by
  unfold J_Mod_cell_40
  refine ox_R_to 3 (Y := if s0 = 0 then ox_ev m_Mod_cell (ox_zz ox_ms (n + 1211)) 57 0 tl [.inr (.inr (10, 0, 0)), .inl (v1), .inl (v2), .inl (v3), .inl (v4), .inl (s0), ox_d] [] σ else ox_ev m_Mod_cell (ox_zz ox_ms (n + 1211)) 47 0 tl [.inr (.inr (10, 0, 0)), .inl (v1), .inl (v2), .inl (v3), .inl (v4), .inl (s0), ox_d] [] σ) rfl ?_
  refine ox_R_if (fun _ => ?_) (fun _ => ?_)
  · refine ox_R_to 1 (Y := ox_ev m_Mod_cell (ox_zz ox_ms (n + 1211)) 58 0 tl [.inr (.inr (10, 0, 0)), ox_d, ox_d, ox_d, .inl (v4), ox_d, ox_d] [.inl ((-1))] σ) rfl ?_
    exact (L_Mod_cell_58 v4 (-1) σ n tl)
  · refine ox_R_to 5 (Y := ox_back m_Mod_cell 51 1 [] ((ox_zz ox_ms (n + 1211)) 125 tl [.inr (.inr (10, 0, 0)), .inl (v1), .inl (v2), .inl (v3)] σ) (fun pc9 x9 st9 σ9 => ox_ev m_Mod_cell (ox_zz ox_ms (n + 1211)) pc9 0 tl (ox_kl (m_Mod_cell.2.2.1 pc9) (ox_xl x9 [.inr (.inr (10, 0, 0)), .inl (v1), .inl (v2), .inl (v3), .inl (v4), .inl (s0), ox_d])) st9 σ9)) rfl ?_
    refine ox_R_call (fc := (fun r : Int × ox_H => ((.inl (some (.inl r.1)), r.2) : ox_O))) (L_Mod_rowOf v1 v2 v3 σ (n + 1203) tl) (fun r4 => ?_)
    refine ox_R_of (Y := ox_ev m_Mod_cell (ox_zz ox_ms (n + 1211)) 54 0 tl [.inr (.inr (10, 0, 0)), .inl (v1), .inl (v2), .inl (v3), .inl (v4), .inl (s0), ox_d] [.inl (r4.1)] r4.2) rfl ?_
    refine ox_R_to 1 (Y := ox_ev m_Mod_cell (ox_zz ox_ms (n + 1211)) 58 0 tl [.inr (.inr (10, 0, 0)), ox_d, ox_d, ox_d, .inl (v4), ox_d, ox_d] [.inl (r4.1)] r4.2) rfl ?_
    exact (L_Mod_cell_58 v4 r4.1 r4.2 n tl)
def J_Mod_cell_39  (v1 : Int) (v2 : Int) (v3 : Int) (v4 : Int) (σ : ox_H) : Option (Int × ox_H) := (J_Mod_cell_40 v1 v2 v3 v4 0 σ)
theorem L_Mod_cell_39  (v1 : Int) (v2 : Int) (v3 : Int) (v4 : Int) (σ : ox_H) (n tl : Nat) : ox_R (fun r => some ((fun r : Int × ox_H => ((.inl (some (.inl r.1)), r.2) : ox_O)) r)) (J_Mod_cell_39 v1 v2 v3 v4 σ) (ox_ev m_Mod_cell (ox_zz ox_ms (n + 1211)) 39 0 tl [.inr (.inr (10, 0, 0)), .inl (v1), .inl (v2), .inl (v3), .inl (v4), ox_d, ox_d] [] σ) := by
  unfold J_Mod_cell_39
  refine ox_R_to 1 (Y := ox_ev m_Mod_cell (ox_zz ox_ms (n + 1211)) 40 0 tl [.inr (.inr (10, 0, 0)), .inl (v1), .inl (v2), .inl (v3), .inl (v4), ox_d, ox_d] [.inl (0)] σ) rfl ?_
  exact (L_Mod_cell_40 v1 v2 v3 v4 0 σ n tl)
def F_Mod_cell  (a1 : Int) (a2 : Int) (a3 : Int) (a4 : Int) (σ : ox_H) : Option (Int × ox_H) := (F_Mod_isEntry a1 σ).bind fun r5 => (if r5.1 = 0 then (J_Mod_cell_39 a1 a2 a3 a4 r5.2) else (if a2 < 0 then (J_Mod_cell_39 a1 a2 a3 a4 r5.2) else ((F_Mod_in a3 1 60 r5.2).bind fun r6 => (if r6 = 0 then (J_Mod_cell_39 a1 a2 a3 a4 r5.2) else ((F_Mod_in a4 0 24 r5.2).bind fun r7 => (if r7 = 0 then (J_Mod_cell_39 a1 a2 a3 a4 r5.2) else (J_Mod_cell_40 a1 a2 a3 a4 1 r5.2)))))))
theorem L_Mod_cell  (a1 : Int) (a2 : Int) (a3 : Int) (a4 : Int) (σ : ox_H) (n tl : Nat) : ox_R (fun r => some ((fun r : Int × ox_H => ((.inl (some (.inl r.1)), r.2) : ox_O)) r)) (F_Mod_cell a1 a2 a3 a4 σ) (ox_zz ox_ms (n + 1212) 126 tl [.inr (.inr (10, 0, 0)), .inl (a1), .inl (a2), .inl (a3), .inl (a4)] σ) := by
  unfold F_Mod_cell
  refine ox_R_of (Y := ox_ev m_Mod_cell (ox_zz ox_ms (n + 1211)) 0 0 tl [.inr (.inr (10, 0, 0)), .inl (a1), .inl (a2), .inl (a3), .inl (a4), ox_d, ox_d] [] σ) rfl ?_
  refine ox_R_to 3 (Y := ox_back m_Mod_cell 2 1 [] ((ox_zz ox_ms (n + 1211)) 73 tl [.inr (.inr (10, 0, 0)), .inl (a1)] σ) (fun pc9 x9 st9 σ9 => ox_ev m_Mod_cell (ox_zz ox_ms (n + 1211)) pc9 0 tl (ox_kl (m_Mod_cell.2.2.1 pc9) (ox_xl x9 [.inr (.inr (10, 0, 0)), .inl (a1), .inl (a2), .inl (a3), .inl (a4), ox_d, ox_d])) st9 σ9)) rfl ?_
  refine ox_R_call (fc := (fun r : Int × ox_H => ((.inl (some (.inl r.1)), r.2) : ox_O))) (L_Mod_isEntry a1 σ (n + 1205) tl) (fun r5 => ?_)
  refine ox_R_of (Y := ox_ev m_Mod_cell (ox_zz ox_ms (n + 1211)) 5 0 tl [.inr (.inr (10, 0, 0)), .inl (a1), .inl (a2), .inl (a3), .inl (a4), ox_d, ox_d] [.inl (r5.1)] r5.2) rfl ?_
  refine ox_R_to 1 (Y := if r5.1 = 0 then ox_ev m_Mod_cell (ox_zz ox_ms (n + 1211)) 39 0 tl [.inr (.inr (10, 0, 0)), .inl (a1), .inl (a2), .inl (a3), .inl (a4), ox_d, ox_d] [] r5.2 else ox_ev m_Mod_cell (ox_zz ox_ms (n + 1211)) 8 0 tl [.inr (.inr (10, 0, 0)), .inl (a1), .inl (a2), .inl (a3), .inl (a4), ox_d, ox_d] [] r5.2) rfl ?_
  refine ox_R_if (fun _ => ?_) (fun _ => ?_)
  · exact (L_Mod_cell_39 a1 a2 a3 a4 r5.2 n tl)
  · refine ox_R_to 2 (Y := if a2 < 0 then ox_ev m_Mod_cell (ox_zz ox_ms (n + 1211)) 39 0 tl [.inr (.inr (10, 0, 0)), .inl (a1), .inl (a2), .inl (a3), .inl (a4), ox_d, ox_d] [] r5.2 else ox_ev m_Mod_cell (ox_zz ox_ms (n + 1211)) 12 0 tl [.inr (.inr (10, 0, 0)), .inl (a1), .inl (a2), .inl (a3), .inl (a4), ox_d, ox_d] [] r5.2) rfl ?_
    refine ox_R_if (fun _ => ?_) (fun _ => ?_)
    · exact (L_Mod_cell_39 a1 a2 a3 a4 r5.2 n tl)
    · refine ox_R_to 5 (Y := ox_back m_Mod_cell 17 1 [] ((ox_zz ox_ms (n + 1211)) 44 tl [.inr (.inr (10, 0, 0)), .inl (a3), .inl (1), .inl (60)] r5.2) (fun pc9 x9 st9 σ9 => ox_ev m_Mod_cell (ox_zz ox_ms (n + 1211)) pc9 0 tl (ox_kl (m_Mod_cell.2.2.1 pc9) (ox_xl x9 [.inr (.inr (10, 0, 0)), .inl (a1), .inl (a2), .inl (a3), .inl (a4), ox_d, ox_d])) st9 σ9)) rfl ?_
      refine ox_R_call (fc := (fun r : Int => ((.inl (some (.inl r)), r5.2) : ox_O))) (L_Mod_in a3 1 60 r5.2 (n + 1210) tl) (fun r6 => ?_)
      refine ox_R_of (Y := ox_ev m_Mod_cell (ox_zz ox_ms (n + 1211)) 20 0 tl [.inr (.inr (10, 0, 0)), .inl (a1), .inl (a2), .inl (a3), .inl (a4), ox_d, ox_d] [.inl (r6)] r5.2) rfl ?_
      refine ox_R_to 1 (Y := if r6 = 0 then ox_ev m_Mod_cell (ox_zz ox_ms (n + 1211)) 39 0 tl [.inr (.inr (10, 0, 0)), .inl (a1), .inl (a2), .inl (a3), .inl (a4), ox_d, ox_d] [] r5.2 else ox_ev m_Mod_cell (ox_zz ox_ms (n + 1211)) 23 0 tl [.inr (.inr (10, 0, 0)), .inl (a1), .inl (a2), .inl (a3), .inl (a4), ox_d, ox_d] [] r5.2) rfl ?_
      refine ox_R_if (fun _ => ?_) (fun _ => ?_)
      · exact (L_Mod_cell_39 a1 a2 a3 a4 r5.2 n tl)
      · refine ox_R_to 5 (Y := ox_back m_Mod_cell 29 1 [] ((ox_zz ox_ms (n + 1211)) 44 tl [.inr (.inr (10, 0, 0)), .inl (a4), .inl (0), .inl (24)] r5.2) (fun pc9 x9 st9 σ9 => ox_ev m_Mod_cell (ox_zz ox_ms (n + 1211)) pc9 0 tl (ox_kl (m_Mod_cell.2.2.1 pc9) (ox_xl x9 [.inr (.inr (10, 0, 0)), .inl (a1), .inl (a2), .inl (a3), .inl (a4), ox_d, ox_d])) st9 σ9)) rfl ?_
        refine ox_R_call (fc := (fun r : Int => ((.inl (some (.inl r)), r5.2) : ox_O))) (L_Mod_in a4 0 24 r5.2 (n + 1210) tl) (fun r7 => ?_)
        refine ox_R_of (Y := ox_ev m_Mod_cell (ox_zz ox_ms (n + 1211)) 32 0 tl [.inr (.inr (10, 0, 0)), .inl (a1), .inl (a2), .inl (a3), .inl (a4), ox_d, ox_d] [.inl (r7)] r5.2) rfl ?_
        refine ox_R_to 1 (Y := if r7 = 0 then ox_ev m_Mod_cell (ox_zz ox_ms (n + 1211)) 39 0 tl [.inr (.inr (10, 0, 0)), .inl (a1), .inl (a2), .inl (a3), .inl (a4), ox_d, ox_d] [] r5.2 else ox_ev m_Mod_cell (ox_zz ox_ms (n + 1211)) 35 0 tl [.inr (.inr (10, 0, 0)), .inl (a1), .inl (a2), .inl (a3), .inl (a4), ox_d, ox_d] [] r5.2) rfl ?_
        refine ox_R_if (fun _ => ?_) (fun _ => ?_)
        · exact (L_Mod_cell_39 a1 a2 a3 a4 r5.2 n tl)
        · refine ox_R_to 2 (Y := ox_ev m_Mod_cell (ox_zz ox_ms (n + 1211)) 40 0 tl [.inr (.inr (10, 0, 0)), .inl (a1), .inl (a2), .inl (a3), .inl (a4), ox_d, ox_d] [.inl (1)] r5.2) rfl ?_
          exact (L_Mod_cell_40 a1 a2 a3 a4 1 r5.2 n tl)
def J_Mod_note_139  (σ : ox_H) : Option ox_H := some σ
theorem L_Mod_note_139  (σ : ox_H) (n tl : Nat) : ox_R (fun r => some ((fun r : ox_H => ((.inl none, r) : ox_O)) r)) (J_Mod_note_139 σ) (ox_ev m_Mod_note (ox_zz ox_ms (n + 7)) 139 0 tl [ox_d, ox_d, ox_d, ox_d] [] σ) := by
  unfold J_Mod_note_139
  refine ox_R_to 1 (Y := some (.inl none, σ)) rfl ?_
  exact ox_R_ret rfl
def B_Mod_note_119  : (Int × ox_H) → Option (((Int × ox_H) ⊕ ox_H)) := fun (v1, σ) => if 1500 ≤ v1 then ((J_Mod_note_139 σ).map .inr) else (if 0 ≤ v1 ∧ v1.toNat < 1500 then (some (.inl (ox_w (v1 + 1), (ox_up σ 10 0 28 v1.toNat 0)))) else none)
def J_Mod_note_119  (v1 : Int) (σ : ox_H) : Option (ox_H) := ox_lp (B_Mod_note_119) ox_fu (v1, σ)
theorem L_Mod_note_119  (v1 : Int) (σ : ox_H) (n tl : Nat) : ox_R (fun r => some ((fun r : ox_H => ((.inl none, r) : ox_O)) r)) (J_Mod_note_119 v1 σ) (ox_ev m_Mod_note (ox_zz ox_ms (n + 7)) 119 0 tl [.inr (.inr (10, 0, 0)), .inl (v1), ox_d, ox_d] [] σ) := by
  unfold J_Mod_note_119
  refine ox_R_lp (ψ := (fun (s : Int × ox_H) => match s with | (v1, σ) => ox_ev m_Mod_note (ox_zz ox_ms (n + 7)) 119 0 tl [.inr (.inr (10, 0, 0)), .inl (v1), ox_d, ox_d] [] σ)) ?_ ox_fu (v1, σ)
  intro s
  obtain ⟨v1, σ⟩ := s
  unfold B_Mod_note_119
  refine ox_R_to 3 (Y := if 1500 ≤ v1 then ox_ev m_Mod_note (ox_zz ox_ms (n + 7)) 139 0 tl [ox_d, ox_d, ox_d, ox_d] [] σ else ox_ev m_Mod_note (ox_zz ox_ms (n + 7)) 126 0 tl [.inr (.inr (10, 0, 0)), .inl (v1), ox_d, ox_d] [] σ) rfl ?_
  refine ox_R_if (fun _ => ?_) (fun _ => ?_)
  · exact ox_R_map ((L_Mod_note_139 σ n tl))
  · refine ox_R_to 5 (Y := if 0 ≤ v1 ∧ v1.toNat < 1500 then ox_ev m_Mod_note (ox_zz ox_ms (n + 7)) 133 0 tl [.inr (.inr (10, 0, 0)), .inl (v1), ox_d, ox_d] [] (ox_up σ 10 0 28 v1.toNat 0) else none) rfl ?_
    refine ox_R_if (fun _ => ?_) (fun _ => ox_R_none)
    refine ox_R_to 2 (Y := ox_ev m_Mod_note (ox_zz ox_ms (n + 7)) 119 0 tl [.inr (.inr (10, 0, 0)), .inl (ox_w (v1 + 1)), ox_d, ox_d] [] (ox_up σ 10 0 28 v1.toNat 0)) rfl ?_
    exact ox_R_ret rfl
def J_Mod_note_114  (σ : ox_H) : Option ox_H := (J_Mod_note_119 (σ 10 0 29 0) σ)
theorem L_Mod_note_114  (σ : ox_H) (n tl : Nat) : ox_R (fun r => some ((fun r : ox_H => ((.inl none, r) : ox_O)) r)) (J_Mod_note_114 σ) (ox_ev m_Mod_note (ox_zz ox_ms (n + 7)) 114 0 tl [.inr (.inr (10, 0, 0)), ox_d, ox_d, ox_d] [] σ) := by
  unfold J_Mod_note_114
  refine ox_R_to 3 (Y := ox_ev m_Mod_note (ox_zz ox_ms (n + 7)) 119 0 tl [.inr (.inr (10, 0, 0)), .inl (σ 10 0 29 0), ox_d, ox_d] [] σ) rfl ?_
  exact (L_Mod_note_119 (σ 10 0 29 0) σ n tl)
def J_Mod_note_108  (v1 : Int) (σ : ox_H) : Option (((Int × ox_H) ⊕ ox_H)) := some (.inl (ox_w (v1 + 1), σ))
theorem L_Mod_note_108  (v1 : Int) (σ : ox_H) (n tl : Nat) : ox_R (Sum.elim (fun (s : Int × ox_H) => match s with | (v1, σ) => ox_ev m_Mod_note (ox_zz ox_ms (n + 7)) 7 0 tl [.inr (.inr (10, 0, 0)), .inl (v1), ox_d, ox_d] [] σ) (fun r => some ((fun r : ox_H => ((.inl none, r) : ox_O)) r))) (J_Mod_note_108 v1 σ) (ox_ev m_Mod_note (ox_zz ox_ms (n + 7)) 108 0 tl [.inr (.inr (10, 0, 0)), .inl (v1), ox_d, ox_d] [] σ) := by
  unfold J_Mod_note_108
  refine ox_R_to 2 (Y := ox_ev m_Mod_note (ox_zz ox_ms (n + 7)) 7 0 tl [.inr (.inr (10, 0, 0)), .inl (ox_w (v1 + 1)), ox_d, ox_d] [] σ) rfl ?_
  exact ox_R_ret rfl
def J_Mod_note_91  (v1 : Int) (σ : ox_H) : Option (((Int × ox_H) ⊕ ox_H)) := if 0 ≤ v1 ∧ v1.toNat < 60 then (J_Mod_note_108 v1 (ox_up σ 10 0 29 0 (ox_w ((σ 10 0 29 0) + (ox_w (1 + (σ 10 0 1 v1.toNat))))))) else none
theorem L_Mod_note_91  (v1 : Int) (σ : ox_H) (n tl : Nat) : ox_R (Sum.elim (fun (s : Int × ox_H) => match s with | (v1, σ) => ox_ev m_Mod_note (ox_zz ox_ms (n + 7)) 7 0 tl [.inr (.inr (10, 0, 0)), .inl (v1), ox_d, ox_d] [] σ) (fun r => some ((fun r : ox_H => ((.inl none, r) : ox_O)) r))) (J_Mod_note_91 v1 σ) (ox_ev m_Mod_note (ox_zz ox_ms (n + 7)) 91 0 tl [.inr (.inr (10, 0, 0)), .inl (v1), ox_d, ox_d] [] σ) := by
  unfold J_Mod_note_91
  refine ox_R_to 8 (Y := if 0 ≤ v1 ∧ v1.toNat < 60 then ox_ev m_Mod_note (ox_zz ox_ms (n + 7)) 103 0 tl [.inr (.inr (10, 0, 0)), .inl (v1), ox_d, ox_d] [.inl (σ 10 0 1 v1.toNat), .inl (1), .inl (σ 10 0 29 0), .inr (.inr (10, 0, 0))] σ else none) rfl ?_
  refine ox_R_if (fun _ => ?_) (fun _ => ox_R_none)
  refine ox_R_to 3 (Y := ox_ev m_Mod_note (ox_zz ox_ms (n + 7)) 108 0 tl [.inr (.inr (10, 0, 0)), .inl (v1), ox_d, ox_d] [] (ox_up σ 10 0 29 0 (ox_w ((σ 10 0 29 0) + (ox_w (1 + (σ 10 0 1 v1.toNat))))))) rfl ?_
  exact (L_Mod_note_108 v1 (ox_up σ 10 0 29 0 (ox_w ((σ 10 0 29 0) + (ox_w (1 + (σ 10 0 1 v1.toNat)))))) n tl)
def B_Mod_note_56  (v1 : Int) : (Int × ox_H) → Option (((Int × ox_H) ⊕ ((Int × ox_H) ⊕ ox_H))) := fun (v3, σ) => if 0 ≤ v1 ∧ v1.toNat < 60 then (if (σ 10 0 1 v1.toNat) ≤ v3 then ((J_Mod_note_91 v1 σ).map .inr) else ((F_Mod_look v1 v3 σ).bind fun r1 => (if 0 ≤ (ox_w ((ox_w ((σ 10 0 29 0) + 1)) + v3)) ∧ (ox_w ((ox_w ((σ 10 0 29 0) + 1)) + v3)).toNat < 1500 then (some (.inl (ox_w (v3 + 1), (ox_up σ 10 0 28 ((ox_w ((ox_w ((σ 10 0 29 0) + 1)) + v3)).toNat) r1)))) else none))) else none
def J_Mod_note_56  (v1 : Int) (v3 : Int) (σ : ox_H) : Option (((Int × ox_H) ⊕ ox_H)) := ox_lp (B_Mod_note_56 v1) ox_fu (v3, σ)
theorem L_Mod_note_56  (v1 : Int) (v3 : Int) (σ : ox_H) (n tl : Nat) : ox_R (Sum.elim (fun (s : Int × ox_H) => match s with | (v1, σ) => ox_ev m_Mod_note (ox_zz ox_ms (n + 7)) 7 0 tl [.inr (.inr (10, 0, 0)), .inl (v1), ox_d, ox_d] [] σ) (fun r => some ((fun r : ox_H => ((.inl none, r) : ox_O)) r))) (J_Mod_note_56 v1 v3 σ) (ox_ev m_Mod_note (ox_zz ox_ms (n + 7)) 56 0 tl [.inr (.inr (10, 0, 0)), .inl (v1), ox_d, .inl (v3)] [] σ) := by
  unfold J_Mod_note_56
  refine ox_R_lp (ψ := (fun (s : Int × ox_H) => match s with | (v3, σ) => ox_ev m_Mod_note (ox_zz ox_ms (n + 7)) 56 0 tl [.inr (.inr (10, 0, 0)), .inl (v1), ox_d, .inl (v3)] [] σ)) ?_ ox_fu (v3, σ)
  intro s
  obtain ⟨v3, σ⟩ := s
  unfold B_Mod_note_56
  refine ox_R_to 5 (Y := if 0 ≤ v1 ∧ v1.toNat < 60 then ox_ev m_Mod_note (ox_zz ox_ms (n + 7)) 63 0 tl [.inr (.inr (10, 0, 0)), .inl (v1), ox_d, .inl (v3)] [.inl (σ 10 0 1 v1.toNat), .inl (v3)] σ else none) rfl ?_
  refine ox_R_if (fun _ => ?_) (fun _ => ox_R_none)
  refine ox_R_to 1 (Y := if (σ 10 0 1 v1.toNat) ≤ v3 then ox_ev m_Mod_note (ox_zz ox_ms (n + 7)) 91 0 tl [.inr (.inr (10, 0, 0)), .inl (v1), ox_d, ox_d] [] σ else ox_ev m_Mod_note (ox_zz ox_ms (n + 7)) 66 0 tl [.inr (.inr (10, 0, 0)), .inl (v1), ox_d, .inl (v3)] [] σ) rfl ?_
  refine ox_R_if (fun _ => ?_) (fun _ => ?_)
  · exact ox_R_map ((L_Mod_note_91 v1 σ n tl))
  · refine ox_R_to 12 (Y := ox_back m_Mod_note 81 1 [.inl (ox_w ((ox_w ((σ 10 0 29 0) + 1)) + v3)), .inr (.inr (110, 0, 28))] ((ox_zz ox_ms (n + 7)) 46 tl [.inr (.inr (10, 0, 0)), .inl (v1), .inl (v3)] σ) (fun pc9 x9 st9 σ9 => ox_ev m_Mod_note (ox_zz ox_ms (n + 7)) pc9 0 tl (ox_kl (m_Mod_note.2.2.1 pc9) (ox_xl x9 [.inr (.inr (10, 0, 0)), .inl (v1), ox_d, .inl (v3)])) st9 σ9)) rfl ?_
    refine ox_R_call (fc := (fun r : Int => ((.inl (some (.inl r)), σ) : ox_O))) (L_Mod_look v1 v3 σ (n + 6) tl) (fun r1 => ?_)
    refine ox_R_of (Y := ox_ev m_Mod_note (ox_zz ox_ms (n + 7)) 84 0 tl [.inr (.inr (10, 0, 0)), .inl (v1), ox_d, .inl (v3)] [.inl (r1), .inl (ox_w ((ox_w ((σ 10 0 29 0) + 1)) + v3)), .inr (.inr (110, 0, 28))] σ) rfl ?_
    refine ox_R_to 1 (Y := if 0 ≤ (ox_w ((ox_w ((σ 10 0 29 0) + 1)) + v3)) ∧ (ox_w ((ox_w ((σ 10 0 29 0) + 1)) + v3)).toNat < 1500 then ox_ev m_Mod_note (ox_zz ox_ms (n + 7)) 85 0 tl [.inr (.inr (10, 0, 0)), .inl (v1), ox_d, .inl (v3)] [] (ox_up σ 10 0 28 ((ox_w ((ox_w ((σ 10 0 29 0) + 1)) + v3)).toNat) r1) else none) rfl ?_
    refine ox_R_if (fun _ => ?_) (fun _ => ox_R_none)
    refine ox_R_to 2 (Y := ox_ev m_Mod_note (ox_zz ox_ms (n + 7)) 56 0 tl [.inr (.inr (10, 0, 0)), .inl (v1), ox_d, .inl (ox_w (v3 + 1))] [] (ox_up σ 10 0 28 ((ox_w ((ox_w ((σ 10 0 29 0) + 1)) + v3)).toNat) r1)) rfl ?_
    exact ox_R_ret rfl
def J_Mod_note_35  (v1 : Int) (σ : ox_H) : Option (((Int × ox_H) ⊕ ox_H)) := if 0 ≤ v1 ∧ v1.toNat < 60 then (if 0 ≤ (σ 10 0 29 0) ∧ (σ 10 0 29 0).toNat < 1500 then (J_Mod_note_56 v1 0 (ox_up σ 10 0 28 ((σ 10 0 29 0).toNat) (ox_w (1000 + (σ 10 0 1 v1.toNat))))) else none) else none
theorem L_Mod_note_35  (v1 : Int) (σ : ox_H) (n tl : Nat) : ox_R (Sum.elim (fun (s : Int × ox_H) => match s with | (v1, σ) => ox_ev m_Mod_note (ox_zz ox_ms (n + 7)) 7 0 tl [.inr (.inr (10, 0, 0)), .inl (v1), ox_d, ox_d] [] σ) (fun r => some ((fun r : ox_H => ((.inl none, r) : ox_O)) r))) (J_Mod_note_35 v1 σ) (ox_ev m_Mod_note (ox_zz ox_ms (n + 7)) 35 0 tl [.inr (.inr (10, 0, 0)), .inl (v1), ox_d, ox_d] [] σ) := by
  unfold J_Mod_note_35
  refine ox_R_to 9 (Y := if 0 ≤ v1 ∧ v1.toNat < 60 then ox_ev m_Mod_note (ox_zz ox_ms (n + 7)) 52 0 tl [.inr (.inr (10, 0, 0)), .inl (v1), ox_d, ox_d] [.inl (σ 10 0 1 v1.toNat), .inl (1000), .inl (σ 10 0 29 0), .inr (.inr (110, 0, 28))] σ else none) rfl ?_
  refine ox_R_if (fun _ => ?_) (fun _ => ox_R_none)
  refine ox_R_to 2 (Y := if 0 ≤ (σ 10 0 29 0) ∧ (σ 10 0 29 0).toNat < 1500 then ox_ev m_Mod_note (ox_zz ox_ms (n + 7)) 54 0 tl [.inr (.inr (10, 0, 0)), .inl (v1), ox_d, ox_d] [] (ox_up σ 10 0 28 ((σ 10 0 29 0).toNat) (ox_w (1000 + (σ 10 0 1 v1.toNat)))) else none) rfl ?_
  refine ox_R_if (fun _ => ?_) (fun _ => ox_R_none)
  refine ox_R_to 2 (Y := ox_ev m_Mod_note (ox_zz ox_ms (n + 7)) 56 0 tl [.inr (.inr (10, 0, 0)), .inl (v1), ox_d, .inl (0)] [] (ox_up σ 10 0 28 ((σ 10 0 29 0).toNat) (ox_w (1000 + (σ 10 0 1 v1.toNat))))) rfl ?_
  exact (L_Mod_note_56 v1 0 (ox_up σ 10 0 28 ((σ 10 0 29 0).toNat) (ox_w (1000 + (σ 10 0 1 v1.toNat)))) n tl)
def B_Mod_note_7  : (Int × ox_H) → Option (((Int × ox_H) ⊕ ox_H)) := fun (v1, σ) => if (σ 10 0 2 0) ≤ v1 then ((J_Mod_note_114 σ).map .inr) else ((F_Mod_kindOf v1 σ).bind fun r2 => (if r2.1 = 0 then (J_Mod_note_35 v1 r2.2) else (if r2.1 = 1 then (J_Mod_note_35 v1 r2.2) else (if r2.1 = 5 then (J_Mod_note_35 v1 r2.2) else (J_Mod_note_108 v1 r2.2)))))
def J_Mod_note_7  (v1 : Int) (σ : ox_H) : Option (ox_H) := ox_lp (B_Mod_note_7) ox_fu (v1, σ)
theorem L_Mod_note_7  (v1 : Int) (σ : ox_H) (n tl : Nat) : ox_R (fun r => some ((fun r : ox_H => ((.inl none, r) : ox_O)) r)) (J_Mod_note_7 v1 σ) (ox_ev m_Mod_note (ox_zz ox_ms (n + 7)) 7 0 tl [.inr (.inr (10, 0, 0)), .inl (v1), ox_d, ox_d] [] σ) := by
  unfold J_Mod_note_7
  refine ox_R_lp (ψ := (fun (s : Int × ox_H) => match s with | (v1, σ) => ox_ev m_Mod_note (ox_zz ox_ms (n + 7)) 7 0 tl [.inr (.inr (10, 0, 0)), .inl (v1), ox_d, ox_d] [] σ)) ?_ ox_fu (v1, σ)
  intro s
  obtain ⟨v1, σ⟩ := s
  unfold B_Mod_note_7
  refine ox_R_to 4 (Y := if (σ 10 0 2 0) ≤ v1 then ox_ev m_Mod_note (ox_zz ox_ms (n + 7)) 114 0 tl [.inr (.inr (10, 0, 0)), ox_d, ox_d, ox_d] [] σ else ox_ev m_Mod_note (ox_zz ox_ms (n + 7)) 15 0 tl [.inr (.inr (10, 0, 0)), .inl (v1), ox_d, ox_d] [] σ) rfl ?_
  refine ox_R_if (fun _ => ?_) (fun _ => ?_)
  · exact ox_R_map ((L_Mod_note_114 σ n tl))
  · refine ox_R_to 3 (Y := ox_back m_Mod_note 17 1 [] ((ox_zz ox_ms (n + 7)) 63 tl [.inr (.inr (10, 0, 0)), .inl (v1)] σ) (fun pc9 x9 st9 σ9 => ox_ev m_Mod_note (ox_zz ox_ms (n + 7)) pc9 0 tl (ox_kl (m_Mod_note.2.2.1 pc9) (ox_xl x9 [.inr (.inr (10, 0, 0)), .inl (v1), ox_d, ox_d])) st9 σ9)) rfl ?_
    refine ox_R_call (fc := (fun r : Int × ox_H => ((.inl (some (.inl r.1)), r.2) : ox_O))) (L_Mod_kindOf v1 σ (n + 0) tl) (fun r2 => ?_)
    refine ox_R_of (Y := ox_ev m_Mod_note (ox_zz ox_ms (n + 7)) 20 0 tl [.inr (.inr (10, 0, 0)), .inl (v1), ox_d, ox_d] [.inl (r2.1)] r2.2) rfl ?_
    refine ox_R_to 3 (Y := if r2.1 = 0 then ox_ev m_Mod_note (ox_zz ox_ms (n + 7)) 35 0 tl [.inr (.inr (10, 0, 0)), .inl (v1), ox_d, ox_d] [] r2.2 else ox_ev m_Mod_note (ox_zz ox_ms (n + 7)) 25 0 tl [.inr (.inr (10, 0, 0)), .inl (v1), .inl (r2.1), ox_d] [] r2.2) rfl ?_
    refine ox_R_if (fun _ => ?_) (fun _ => ?_)
    · exact (L_Mod_note_35 v1 r2.2 n tl)
    · refine ox_R_to 3 (Y := if r2.1 = 1 then ox_ev m_Mod_note (ox_zz ox_ms (n + 7)) 35 0 tl [.inr (.inr (10, 0, 0)), .inl (v1), ox_d, ox_d] [] r2.2 else ox_ev m_Mod_note (ox_zz ox_ms (n + 7)) 30 0 tl [.inr (.inr (10, 0, 0)), .inl (v1), .inl (r2.1), ox_d] [] r2.2) rfl ?_
      refine ox_R_if (fun _ => ?_) (fun _ => ?_)
      · exact (L_Mod_note_35 v1 r2.2 n tl)
      · refine ox_R_to 3 (Y := if r2.1 = 5 then ox_ev m_Mod_note (ox_zz ox_ms (n + 7)) 35 0 tl [.inr (.inr (10, 0, 0)), .inl (v1), ox_d, ox_d] [] r2.2 else ox_ev m_Mod_note (ox_zz ox_ms (n + 7)) 108 0 tl [.inr (.inr (10, 0, 0)), .inl (v1), ox_d, ox_d] [] r2.2) rfl ?_
        refine ox_R_if (fun _ => ?_) (fun _ => ?_)
        · exact (L_Mod_note_35 v1 r2.2 n tl)
        · exact (L_Mod_note_108 v1 r2.2 n tl)
def F_Mod_note  (σ : ox_H) : Option (ox_H) := (J_Mod_note_7 0 (ox_up σ 10 0 29 0 0))
theorem L_Mod_note  (σ : ox_H) (n tl : Nat) : ox_R (fun r => some ((fun r : ox_H => ((.inl none, r) : ox_O)) r)) (F_Mod_note σ) (ox_zz ox_ms (n + 8) 127 tl [.inr (.inr (10, 0, 0))] σ) := by
  unfold F_Mod_note
  refine ox_R_of (Y := ox_ev m_Mod_note (ox_zz ox_ms (n + 7)) 0 0 tl [.inr (.inr (10, 0, 0)), ox_d, ox_d, ox_d] [] σ) rfl ?_
  refine ox_R_to 5 (Y := ox_ev m_Mod_note (ox_zz ox_ms (n + 7)) 7 0 tl [.inr (.inr (10, 0, 0)), .inl (0), ox_d, ox_d] [] (ox_up σ 10 0 29 0 0)) rfl ?_
  exact (L_Mod_note_7 0 (ox_up σ 10 0 29 0 0) n tl)
def J_Mod_run_175  (v1 : Int) (σ : ox_H) : Option (Int × ox_H) := if 0 ≤ v1 ∧ v1.toNat < 26 then (some (σ 10 0 25 v1.toNat, σ)) else none
theorem L_Mod_run_175  (v1 : Int) (σ : ox_H) (n tl : Nat) : ox_R (fun r => some ((fun r : Int × ox_H => ((.inl (some (.inl r.1)), r.2) : ox_O)) r)) (J_Mod_run_175 v1 σ) (ox_ev m_Mod_run (ox_zz ox_ms (n + 1211)) 175 0 tl [.inr (.inr (10, 0, 0)), .inl (v1), ox_d, ox_d] [] σ) := by
  unfold J_Mod_run_175
  refine ox_R_to 4 (Y := if 0 ≤ v1 ∧ v1.toNat < 26 then ox_ev m_Mod_run (ox_zz ox_ms (n + 1211)) 181 0 tl [.inr (.inr (10, 0, 0)), .inl (v1), ox_d, ox_d] [.inl (σ 10 0 25 v1.toNat)] σ else none) rfl ?_
  refine ox_R_if (fun _ => ?_) (fun _ => ox_R_none)
  refine ox_R_to 1 (Y := some (.inl (some (.inl (σ 10 0 25 v1.toNat))), σ)) rfl ?_
  exact ox_R_ret rfl
def J_Mod_run_110  (v1 : Int) (σ : ox_H) : Option (Int × ox_H) := (F_Mod_codeOf (ox_w (97 + v1)) σ).bind fun r1 => (if 0 ≤ r1.1 then (if 0 ≤ v1 ∧ v1.toNat < 26 then (if (r1.2 10 0 26 v1.toNat) = 0 then ((F_Mod_blocked (K_Mod_total 400) (ox_w (97 + v1)) (ox_up r1.2 10 0 36 0 (ox_w ((r1.2 10 0 36 0) + 1)))).bind fun r2 => (if 0 ≤ v1 ∧ v1.toNat < 26 then (if 0 ≤ v1 ∧ v1.toNat < 26 then (J_Mod_run_175 v1 (ox_up (ox_up (ox_up r2.2 10 0 25 v1.toNat r2.1) 10 0 26 v1.toNat 1) 10 0 30 0 (ox_w ((r2.2 10 0 30 0) + 1)))) else none) else none)) else (J_Mod_run_175 v1 r1.2)) else none) else (some (ox_c 1000000 0, r1.2)))
theorem L_Mod_run_110  (v1 : Int) (σ : ox_H) (n tl : Nat) : ox_R (fun r => some ((fun r : Int × ox_H => ((.inl (some (.inl r.1)), r.2) : ox_O)) r)) (J_Mod_run_110 v1 σ) (ox_ev m_Mod_run (ox_zz ox_ms (n + 1211)) 110 0 tl [.inr (.inr (10, 0, 0)), .inl (v1), ox_d, ox_d] [] σ) := by
  unfold J_Mod_run_110
  refine ox_R_to 5 (Y := ox_back m_Mod_run 115 1 [] ((ox_zz ox_ms (n + 1211)) 123 tl [.inr (.inr (10, 0, 0)), .inl (ox_w (97 + v1))] σ) (fun pc9 x9 st9 σ9 => ox_ev m_Mod_run (ox_zz ox_ms (n + 1211)) pc9 0 tl (ox_kl (m_Mod_run.2.2.1 pc9) (ox_xl x9 [.inr (.inr (10, 0, 0)), .inl (v1), ox_d, ox_d])) st9 σ9)) rfl ?_
  refine ox_R_call (fc := (fun r : Int × ox_H => ((.inl (some (.inl r.1)), r.2) : ox_O))) (L_Mod_codeOf (ox_w (97 + v1)) σ (n + 1204) tl) (fun r1 => ?_)
  refine ox_R_of (Y := ox_ev m_Mod_run (ox_zz ox_ms (n + 1211)) 118 0 tl [.inr (.inr (10, 0, 0)), .inl (v1), ox_d, ox_d] [.inl (r1.1)] r1.2) rfl ?_
  refine ox_R_to 1 (Y := if 0 ≤ r1.1 then ox_ev m_Mod_run (ox_zz ox_ms (n + 1211)) 125 0 tl [.inr (.inr (10, 0, 0)), .inl (v1), ox_d, ox_d] [] r1.2 else ox_ev m_Mod_run (ox_zz ox_ms (n + 1211)) 121 0 tl [.inr (.inr (10, 0, 0)), .inl (v1), ox_d, ox_d] [] r1.2) rfl ?_
  refine ox_R_if (fun _ => ?_) (fun _ => ?_)
  · refine ox_R_to 4 (Y := if 0 ≤ v1 ∧ v1.toNat < 26 then ox_ev m_Mod_run (ox_zz ox_ms (n + 1211)) 131 0 tl [.inr (.inr (10, 0, 0)), .inl (v1), ox_d, ox_d] [.inl (r1.2 10 0 26 v1.toNat)] r1.2 else none) rfl ?_
    refine ox_R_if (fun _ => ?_) (fun _ => ox_R_none)
    refine ox_R_to 1 (Y := if (r1.2 10 0 26 v1.toNat) = 0 then ox_ev m_Mod_run (ox_zz ox_ms (n + 1211)) 134 0 tl [.inr (.inr (10, 0, 0)), .inl (v1), ox_d, ox_d] [] r1.2 else ox_ev m_Mod_run (ox_zz ox_ms (n + 1211)) 175 0 tl [.inr (.inr (10, 0, 0)), .inl (v1), ox_d, ox_d] [] r1.2) rfl ?_
    refine ox_R_if (fun _ => ?_) (fun _ => ?_)
    · refine ox_R_to 14 (Y := ox_back m_Mod_run 154 1 [.inl (v1), .inr (.inr (110, 0, 25))] ((ox_zz ox_ms (n + 1211)) 124 tl [.inr (.inr (10, 0, 0)), .inl (ox_w (97 + v1))] (ox_up r1.2 10 0 36 0 (ox_w ((r1.2 10 0 36 0) + 1)))) (fun pc9 x9 st9 σ9 => ox_ev m_Mod_run (ox_zz ox_ms (n + 1211)) pc9 0 tl (ox_kl (m_Mod_run.2.2.1 pc9) (ox_xl x9 [.inr (.inr (10, 0, 0)), .inl (v1), ox_d, ox_d])) st9 σ9)) rfl ?_
      refine ox_R_call (fc := (fun r : Int × ox_H => ((.inl (some (.inl r.1)), r.2) : ox_O))) (L_Mod_blocked (n + 1200) (K_Mod_total 400) (KL_Mod_total (n + 0) 400) (ox_w (97 + v1)) (ox_up r1.2 10 0 36 0 (ox_w ((r1.2 10 0 36 0) + 1))) tl) (fun r2 => ?_)
      refine ox_R_of (Y := ox_ev m_Mod_run (ox_zz ox_ms (n + 1211)) 157 0 tl [.inr (.inr (10, 0, 0)), .inl (v1), ox_d, ox_d] [.inl (r2.1), .inl (v1), .inr (.inr (110, 0, 25))] r2.2) rfl ?_
      refine ox_R_to 1 (Y := if 0 ≤ v1 ∧ v1.toNat < 26 then ox_ev m_Mod_run (ox_zz ox_ms (n + 1211)) 158 0 tl [.inr (.inr (10, 0, 0)), .inl (v1), ox_d, ox_d] [] (ox_up r2.2 10 0 25 v1.toNat r2.1) else none) rfl ?_
      refine ox_R_if (fun _ => ?_) (fun _ => ox_R_none)
      refine ox_R_to 5 (Y := if 0 ≤ v1 ∧ v1.toNat < 26 then ox_ev m_Mod_run (ox_zz ox_ms (n + 1211)) 165 0 tl [.inr (.inr (10, 0, 0)), .inl (v1), ox_d, ox_d] [] (ox_up (ox_up r2.2 10 0 25 v1.toNat r2.1) 10 0 26 v1.toNat 1) else none) rfl ?_
      refine ox_R_if (fun _ => ?_) (fun _ => ox_R_none)
      refine ox_R_to 6 (Y := ox_ev m_Mod_run (ox_zz ox_ms (n + 1211)) 175 0 tl [.inr (.inr (10, 0, 0)), .inl (v1), ox_d, ox_d] [] (ox_up (ox_up (ox_up r2.2 10 0 25 v1.toNat r2.1) 10 0 26 v1.toNat 1) 10 0 30 0 (ox_w ((r2.2 10 0 30 0) + 1)))) rfl ?_
      exact (L_Mod_run_175 v1 (ox_up (ox_up (ox_up r2.2 10 0 25 v1.toNat r2.1) 10 0 26 v1.toNat 1) 10 0 30 0 (ox_w ((r2.2 10 0 30 0) + 1))) n tl)
    · exact (L_Mod_run_175 v1 r1.2 n tl)
  · refine ox_R_to 2 (Y := some (.inl (some (.inl (ox_c 1000000 0))), r1.2)) rfl ?_
    exact ox_R_ret rfl
def B_Mod_run_87  (v1 : Int) (v2 : Int) : (Int × ox_H) → Option (((Int × ox_H) ⊕ Int × ox_H)) := fun (v3, σ) => if 26 ≤ v3 then ((J_Mod_run_110 v1 σ).map .inr) else (if v2 = 0 then (if 0 ≤ v3 ∧ v3.toNat < 26 then (some (.inl (ox_w (v3 + 1), (ox_up σ 10 0 26 v3.toNat 0)))) else none) else ((J_Mod_run_110 v1 σ).map .inr))
def J_Mod_run_87  (v1 : Int) (v2 : Int) (v3 : Int) (σ : ox_H) : Option (Int × ox_H) := ox_lp (B_Mod_run_87 v1 v2) ox_fu (v3, σ)
theorem L_Mod_run_87  (v1 : Int) (v2 : Int) (v3 : Int) (σ : ox_H) (n tl : Nat) : ox_R (fun r => some ((fun r : Int × ox_H => ((.inl (some (.inl r.1)), r.2) : ox_O)) r)) (J_Mod_run_87 v1 v2 v3 σ) (ox_ev m_Mod_run (ox_zz ox_ms (n + 1211)) 87 0 tl [.inr (.inr (10, 0, 0)), .inl (v1), .inl (v2), .inl (v3)] [] σ) := by
  unfold J_Mod_run_87
  refine ox_R_lp (ψ := (fun (s : Int × ox_H) => match s with | (v3, σ) => ox_ev m_Mod_run (ox_zz ox_ms (n + 1211)) 87 0 tl [.inr (.inr (10, 0, 0)), .inl (v1), .inl (v2), .inl (v3)] [] σ)) ?_ ox_fu (v3, σ)
  intro s
  obtain ⟨v3, σ⟩ := s
  unfold B_Mod_run_87
  refine ox_R_to 3 (Y := if 26 ≤ v3 then ox_ev m_Mod_run (ox_zz ox_ms (n + 1211)) 110 0 tl [.inr (.inr (10, 0, 0)), .inl (v1), ox_d, ox_d] [] σ else ox_ev m_Mod_run (ox_zz ox_ms (n + 1211)) 93 0 tl [.inr (.inr (10, 0, 0)), .inl (v1), .inl (v2), .inl (v3)] [] σ) rfl ?_
  refine ox_R_if (fun _ => ?_) (fun _ => ?_)
  · exact ox_R_map ((L_Mod_run_110 v1 σ n tl))
  · refine ox_R_to 2 (Y := if v2 = 0 then ox_ev m_Mod_run (ox_zz ox_ms (n + 1211)) 97 0 tl [.inr (.inr (10, 0, 0)), .inl (v1), .inl (v2), .inl (v3)] [] σ else ox_ev m_Mod_run (ox_zz ox_ms (n + 1211)) 110 0 tl [.inr (.inr (10, 0, 0)), .inl (v1), ox_d, ox_d] [] σ) rfl ?_
    refine ox_R_if (fun _ => ?_) (fun _ => ?_)
    · refine ox_R_to 5 (Y := if 0 ≤ v3 ∧ v3.toNat < 26 then ox_ev m_Mod_run (ox_zz ox_ms (n + 1211)) 104 0 tl [.inr (.inr (10, 0, 0)), .inl (v1), .inl (v2), .inl (v3)] [] (ox_up σ 10 0 26 v3.toNat 0) else none) rfl ?_
      refine ox_R_if (fun _ => ?_) (fun _ => ox_R_none)
      refine ox_R_to 2 (Y := ox_ev m_Mod_run (ox_zz ox_ms (n + 1211)) 87 0 tl [.inr (.inr (10, 0, 0)), .inl (v1), .inl (v2), .inl (ox_w (v3 + 1))] [] (ox_up σ 10 0 26 v3.toNat 0)) rfl ?_
      exact ox_R_ret rfl
    · exact ox_R_map ((L_Mod_run_110 v1 σ n tl))
def J_Mod_run_85  (v1 : Int) (v2 : Int) (σ : ox_H) : Option (Int × ox_H) := (J_Mod_run_87 v1 v2 0 σ)
theorem L_Mod_run_85  (v1 : Int) (v2 : Int) (σ : ox_H) (n tl : Nat) : ox_R (fun r => some ((fun r : Int × ox_H => ((.inl (some (.inl r.1)), r.2) : ox_O)) r)) (J_Mod_run_85 v1 v2 σ) (ox_ev m_Mod_run (ox_zz ox_ms (n + 1211)) 85 0 tl [.inr (.inr (10, 0, 0)), .inl (v1), .inl (v2), ox_d] [] σ) := by
  unfold J_Mod_run_85
  refine ox_R_to 2 (Y := ox_ev m_Mod_run (ox_zz ox_ms (n + 1211)) 87 0 tl [.inr (.inr (10, 0, 0)), .inl (v1), .inl (v2), .inl (0)] [] σ) rfl ?_
  exact (L_Mod_run_87 v1 v2 0 σ n tl)
def J_Mod_run_65  (v1 : Int) (v3 : Int) (s0 : Int) (s1 : Int) (σ : ox_H) : Option (((Int × Int × ox_H) ⊕ Int × ox_H)) := if 0 ≤ v3 ∧ v3.toNat < 1500 then (if 0 ≤ v3 ∧ v3.toNat < 1500 then (some (.inl (ox_and s1 s0, ox_w (v3 + 1), (ox_up σ 10 0 27 v3.toNat (σ 10 0 28 v3.toNat))))) else none) else none
theorem L_Mod_run_65  (v1 : Int) (v3 : Int) (s0 : Int) (s1 : Int) (σ : ox_H) (n tl : Nat) : ox_R (Sum.elim (fun (s : Int × Int × ox_H) => match s with | (v2, v3, σ) => ox_ev m_Mod_run (ox_zz ox_ms (n + 1211)) 37 0 tl [.inr (.inr (10, 0, 0)), .inl (v1), .inl (v2), .inl (v3)] [] σ) (fun r => some ((fun r : Int × ox_H => ((.inl (some (.inl r.1)), r.2) : ox_O)) r))) (J_Mod_run_65 v1 v3 s0 s1 σ) (ox_ev m_Mod_run (ox_zz ox_ms (n + 1211)) 65 0 tl [.inr (.inr (10, 0, 0)), .inl (v1), ox_d, .inl (v3)] [.inl (s0), .inl (s1)] σ) := by
  unfold J_Mod_run_65
  refine ox_R_to 9 (Y := if 0 ≤ v3 ∧ v3.toNat < 1500 then ox_ev m_Mod_run (ox_zz ox_ms (n + 1211)) 78 0 tl [.inr (.inr (10, 0, 0)), .inl (v1), .inl (ox_and s1 s0), .inl (v3)] [.inl (σ 10 0 28 v3.toNat), .inl (v3), .inr (.inr (110, 0, 27))] σ else none) rfl ?_
  refine ox_R_if (fun _ => ?_) (fun _ => ox_R_none)
  refine ox_R_to 1 (Y := if 0 ≤ v3 ∧ v3.toNat < 1500 then ox_ev m_Mod_run (ox_zz ox_ms (n + 1211)) 79 0 tl [.inr (.inr (10, 0, 0)), .inl (v1), .inl (ox_and s1 s0), .inl (v3)] [] (ox_up σ 10 0 27 v3.toNat (σ 10 0 28 v3.toNat)) else none) rfl ?_
  refine ox_R_if (fun _ => ?_) (fun _ => ox_R_none)
  refine ox_R_to 2 (Y := ox_ev m_Mod_run (ox_zz ox_ms (n + 1211)) 37 0 tl [.inr (.inr (10, 0, 0)), .inl (v1), .inl (ox_and s1 s0), .inl (ox_w (v3 + 1))] [] (ox_up σ 10 0 27 v3.toNat (σ 10 0 28 v3.toNat))) rfl ?_
  exact ox_R_ret rfl
def B_Mod_run_37  (v1 : Int) : (Int × Int × ox_H) → Option (((Int × Int × ox_H) ⊕ Int × ox_H)) := fun (v2, v3, σ) => if 1500 ≤ v3 then ((J_Mod_run_85 v1 v2 σ).map .inr) else (if 0 ≤ v3 ∧ v3.toNat < 1500 then (if 0 ≤ v3 ∧ v3.toNat < 1500 then (if (σ 10 0 27 v3.toNat) = (σ 10 0 28 v3.toNat) then (J_Mod_run_65 v1 v3 1 v2 σ) else (J_Mod_run_65 v1 v3 0 v2 σ)) else none) else none)
def J_Mod_run_37  (v1 : Int) (v2 : Int) (v3 : Int) (σ : ox_H) : Option (Int × ox_H) := ox_lp (B_Mod_run_37 v1) ox_fu (v2, v3, σ)
theorem L_Mod_run_37  (v1 : Int) (v2 : Int) (v3 : Int) (σ : ox_H) (n tl : Nat) : ox_R (fun r => some ((fun r : Int × ox_H => ((.inl (some (.inl r.1)), r.2) : ox_O)) r)) (J_Mod_run_37 v1 v2 v3 σ) (ox_ev m_Mod_run (ox_zz ox_ms (n + 1211)) 37 0 tl [.inr (.inr (10, 0, 0)), .inl (v1), .inl (v2), .inl (v3)] [] σ) := by
  unfold J_Mod_run_37
  refine ox_R_lp (ψ := (fun (s : Int × Int × ox_H) => match s with | (v2, v3, σ) => ox_ev m_Mod_run (ox_zz ox_ms (n + 1211)) 37 0 tl [.inr (.inr (10, 0, 0)), .inl (v1), .inl (v2), .inl (v3)] [] σ)) ?_ ox_fu (v2, v3, σ)
  intro s
  obtain ⟨v2, v3, σ⟩ := s
  unfold B_Mod_run_37
  refine ox_R_to 3 (Y := if 1500 ≤ v3 then ox_ev m_Mod_run (ox_zz ox_ms (n + 1211)) 85 0 tl [.inr (.inr (10, 0, 0)), .inl (v1), .inl (v2), ox_d] [] σ else ox_ev m_Mod_run (ox_zz ox_ms (n + 1211)) 44 0 tl [.inr (.inr (10, 0, 0)), .inl (v1), .inl (v2), .inl (v3)] [] σ) rfl ?_
  refine ox_R_if (fun _ => ?_) (fun _ => ?_)
  · exact ox_R_map ((L_Mod_run_85 v1 v2 σ n tl))
  · refine ox_R_to 5 (Y := if 0 ≤ v3 ∧ v3.toNat < 1500 then ox_ev m_Mod_run (ox_zz ox_ms (n + 1211)) 51 0 tl [.inr (.inr (10, 0, 0)), .inl (v1), .inl (v2), .inl (v3)] [.inl (σ 10 0 27 v3.toNat), .inl (v2)] σ else none) rfl ?_
    refine ox_R_if (fun _ => ?_) (fun _ => ox_R_none)
    refine ox_R_to 4 (Y := if 0 ≤ v3 ∧ v3.toNat < 1500 then ox_ev m_Mod_run (ox_zz ox_ms (n + 1211)) 57 0 tl [.inr (.inr (10, 0, 0)), .inl (v1), .inl (v2), .inl (v3)] [.inl (σ 10 0 28 v3.toNat), .inl (σ 10 0 27 v3.toNat), .inl (v2)] σ else none) rfl ?_
    refine ox_R_if (fun _ => ?_) (fun _ => ox_R_none)
    refine ox_R_to 1 (Y := if (σ 10 0 27 v3.toNat) = (σ 10 0 28 v3.toNat) then ox_ev m_Mod_run (ox_zz ox_ms (n + 1211)) 60 0 tl [.inr (.inr (10, 0, 0)), .inl (v1), .inl (v2), .inl (v3)] [.inl (v2)] σ else ox_ev m_Mod_run (ox_zz ox_ms (n + 1211)) 64 0 tl [.inr (.inr (10, 0, 0)), .inl (v1), .inl (v2), .inl (v3)] [.inl (v2)] σ) rfl ?_
    refine ox_R_if (fun _ => ?_) (fun _ => ?_)
    · refine ox_R_to 2 (Y := ox_ev m_Mod_run (ox_zz ox_ms (n + 1211)) 65 0 tl [.inr (.inr (10, 0, 0)), .inl (v1), ox_d, .inl (v3)] [.inl (1), .inl (v2)] σ) rfl ?_
      exact (L_Mod_run_65 v1 v3 1 v2 σ n tl)
    · refine ox_R_to 1 (Y := ox_ev m_Mod_run (ox_zz ox_ms (n + 1211)) 65 0 tl [.inr (.inr (10, 0, 0)), .inl (v1), ox_d, .inl (v3)] [.inl (0), .inl (v2)] σ) rfl ?_
      exact (L_Mod_run_65 v1 v3 0 v2 σ n tl)
def J_Mod_run_17  (v1 : Int) (s0 : Int) (σ : ox_H) : Option (Int × ox_H) := (F_Mod_holds s0 σ).bind fun r3 => (if r3.1 = 0 then ((F_Mod_find r3.2).bind fun r4 => ((F_Mod_note r4).bind fun r5 => (J_Mod_run_37 v1 1 0 r5))) else (some ((-1), r3.2)))
theorem L_Mod_run_17  (v1 : Int) (s0 : Int) (σ : ox_H) (n tl : Nat) : ox_R (fun r => some ((fun r : Int × ox_H => ((.inl (some (.inl r.1)), r.2) : ox_O)) r)) (J_Mod_run_17 v1 s0 σ) (ox_ev m_Mod_run (ox_zz ox_ms (n + 1211)) 17 0 tl [.inr (.inr (10, 0, 0)), .inl (v1), ox_d, ox_d] [.inl (s0), .inr (.inr (10, 0, 0))] σ) := by
  unfold J_Mod_run_17
  refine ox_R_to 1 (Y := ox_back m_Mod_run 17 1 [] ((ox_zz ox_ms (n + 1211)) 43 tl [.inr (.inr (10, 0, 0)), .inl (s0)] σ) (fun pc9 x9 st9 σ9 => ox_ev m_Mod_run (ox_zz ox_ms (n + 1211)) pc9 0 tl (ox_kl (m_Mod_run.2.2.1 pc9) (ox_xl x9 [.inr (.inr (10, 0, 0)), .inl (v1), ox_d, ox_d])) st9 σ9)) rfl ?_
  refine ox_R_call (fc := (fun r : Int × ox_H => ((.inl (some (.inl r.1)), r.2) : ox_O))) (L_Mod_holds s0 σ (n + 1210) tl) (fun r3 => ?_)
  refine ox_R_of (Y := ox_ev m_Mod_run (ox_zz ox_ms (n + 1211)) 20 0 tl [.inr (.inr (10, 0, 0)), .inl (v1), ox_d, ox_d] [.inl (r3.1)] r3.2) rfl ?_
  refine ox_R_to 1 (Y := if r3.1 = 0 then ox_ev m_Mod_run (ox_zz ox_ms (n + 1211)) 25 0 tl [.inr (.inr (10, 0, 0)), .inl (v1), ox_d, ox_d] [] r3.2 else ox_ev m_Mod_run (ox_zz ox_ms (n + 1211)) 23 0 tl [.inr (.inr (10, 0, 0)), .inl (v1), ox_d, ox_d] [] r3.2) rfl ?_
  refine ox_R_if (fun _ => ?_) (fun _ => ?_)
  · refine ox_R_to 2 (Y := ox_back m_Mod_run 26 0 [] ((ox_zz ox_ms (n + 1211)) 72 tl [.inr (.inr (10, 0, 0))] r3.2) (fun pc9 x9 st9 σ9 => ox_ev m_Mod_run (ox_zz ox_ms (n + 1211)) pc9 0 tl (ox_kl (m_Mod_run.2.2.1 pc9) (ox_xl x9 [.inr (.inr (10, 0, 0)), .inl (v1), ox_d, ox_d])) st9 σ9)) rfl ?_
    refine ox_R_call (fc := (fun r : ox_H => ((.inl none, r) : ox_O))) (L_Mod_find r3.2 (n + 1206) tl) (fun r4 => ?_)
    refine ox_R_of (Y := ox_ev m_Mod_run (ox_zz ox_ms (n + 1211)) 29 0 tl [.inr (.inr (10, 0, 0)), .inl (v1), ox_d, ox_d] [] r4) rfl ?_
    refine ox_R_to 2 (Y := ox_back m_Mod_run 30 0 [] ((ox_zz ox_ms (n + 1211)) 127 tl [.inr (.inr (10, 0, 0))] r4) (fun pc9 x9 st9 σ9 => ox_ev m_Mod_run (ox_zz ox_ms (n + 1211)) pc9 0 tl (ox_kl (m_Mod_run.2.2.1 pc9) (ox_xl x9 [.inr (.inr (10, 0, 0)), .inl (v1), ox_d, ox_d])) st9 σ9)) rfl ?_
    refine ox_R_call (fc := (fun r : ox_H => ((.inl none, r) : ox_O))) (L_Mod_note r4 (n + 1203) tl) (fun r5 => ?_)
    refine ox_R_of (Y := ox_ev m_Mod_run (ox_zz ox_ms (n + 1211)) 33 0 tl [.inr (.inr (10, 0, 0)), .inl (v1), ox_d, ox_d] [] r5) rfl ?_
    refine ox_R_to 4 (Y := ox_ev m_Mod_run (ox_zz ox_ms (n + 1211)) 37 0 tl [.inr (.inr (10, 0, 0)), .inl (v1), .inl (1), .inl (0)] [] r5) rfl ?_
    exact (L_Mod_run_37 v1 1 0 r5 n tl)
  · refine ox_R_to 2 (Y := some (.inl (some (.inl ((-1)))), r3.2)) rfl ?_
    exact ox_R_ret rfl
def F_Mod_run  (a1 : Int) (σ : ox_H) : Option (Int × ox_H) := (F_Mod_in a1 0 25 σ).bind fun r6 => (if r6 = 0 then (J_Mod_run_17 a1 1 σ) else (J_Mod_run_17 a1 0 σ))
theorem L_Mod_run  (a1 : Int) (σ : ox_H) (n tl : Nat) : ox_R (fun r => some ((fun r : Int × ox_H => ((.inl (some (.inl r.1)), r.2) : ox_O)) r)) (F_Mod_run a1 σ) (ox_zz ox_ms (n + 1212) 128 tl [.inr (.inr (10, 0, 0)), .inl (a1)] σ) := by
  unfold F_Mod_run
  refine ox_R_of (Y := ox_ev m_Mod_run (ox_zz ox_ms (n + 1211)) 0 0 tl [.inr (.inr (10, 0, 0)), .inl (a1), ox_d, ox_d] [] σ) rfl ?_
  refine ox_R_to 6 (Y := ox_back m_Mod_run 6 1 [.inr (.inr (10, 0, 0))] ((ox_zz ox_ms (n + 1211)) 44 tl [.inr (.inr (10, 0, 0)), .inl (a1), .inl (0), .inl (25)] σ) (fun pc9 x9 st9 σ9 => ox_ev m_Mod_run (ox_zz ox_ms (n + 1211)) pc9 0 tl (ox_kl (m_Mod_run.2.2.1 pc9) (ox_xl x9 [.inr (.inr (10, 0, 0)), .inl (a1), ox_d, ox_d])) st9 σ9)) rfl ?_
  refine ox_R_call (fc := (fun r : Int => ((.inl (some (.inl r)), σ) : ox_O))) (L_Mod_in a1 0 25 σ (n + 1210) tl) (fun r6 => ?_)
  refine ox_R_of (Y := ox_ev m_Mod_run (ox_zz ox_ms (n + 1211)) 9 0 tl [.inr (.inr (10, 0, 0)), .inl (a1), ox_d, ox_d] [.inl (r6), .inr (.inr (10, 0, 0))] σ) rfl ?_
  refine ox_R_to 1 (Y := if r6 = 0 then ox_ev m_Mod_run (ox_zz ox_ms (n + 1211)) 16 0 tl [.inr (.inr (10, 0, 0)), .inl (a1), ox_d, ox_d] [.inr (.inr (10, 0, 0))] σ else ox_ev m_Mod_run (ox_zz ox_ms (n + 1211)) 12 0 tl [.inr (.inr (10, 0, 0)), .inl (a1), ox_d, ox_d] [.inr (.inr (10, 0, 0))] σ) rfl ?_
  refine ox_R_if (fun _ => ?_) (fun _ => ?_)
  · refine ox_R_to 1 (Y := ox_ev m_Mod_run (ox_zz ox_ms (n + 1211)) 17 0 tl [.inr (.inr (10, 0, 0)), .inl (a1), ox_d, ox_d] [.inl (1), .inr (.inr (10, 0, 0))] σ) rfl ?_
    exact (L_Mod_run_17 a1 1 σ n tl)
  · refine ox_R_to 2 (Y := ox_ev m_Mod_run (ox_zz ox_ms (n + 1211)) 17 0 tl [.inr (.inr (10, 0, 0)), .inl (a1), ox_d, ox_d] [.inl (0), .inr (.inr (10, 0, 0))] σ) rfl ?_
    exact (L_Mod_run_17 a1 0 σ n tl)
def F_Mod_runs  (σ : ox_H) : Option (Int × ox_H) := (F_Mod_holds 0 σ).bind fun r1 => (some (r1.2 10 0 30 0, r1.2))
theorem L_Mod_runs  (σ : ox_H) (n tl : Nat) : ox_R (fun r => some ((fun r : Int × ox_H => ((.inl (some (.inl r.1)), r.2) : ox_O)) r)) (F_Mod_runs σ) (ox_zz ox_ms (n + 2) 129 tl [.inr (.inr (10, 0, 0))] σ) := by
  unfold F_Mod_runs
  refine ox_R_of (Y := ox_ev m_Mod_runs (ox_zz ox_ms (n + 1)) 0 0 tl [.inr (.inr (10, 0, 0))] [] σ) rfl ?_
  refine ox_R_to 3 (Y := ox_back m_Mod_runs 2 1 [] ((ox_zz ox_ms (n + 1)) 43 tl [.inr (.inr (10, 0, 0)), .inl (0)] σ) (fun pc9 x9 st9 σ9 => ox_ev m_Mod_runs (ox_zz ox_ms (n + 1)) pc9 0 tl (ox_kl (m_Mod_runs.2.2.1 pc9) (ox_xl x9 [.inr (.inr (10, 0, 0))])) st9 σ9)) rfl ?_
  refine ox_R_call (fc := (fun r : Int × ox_H => ((.inl (some (.inl r.1)), r.2) : ox_O))) (L_Mod_holds 0 σ (n + 0) tl) (fun r1 => ?_)
  refine ox_R_of (Y := ox_ev m_Mod_runs (ox_zz ox_ms (n + 1)) 5 0 tl [.inr (.inr (10, 0, 0))] [.inl (r1.1)] r1.2) rfl ?_
  refine ox_R_to 4 (Y := some (.inl (some (.inl (r1.2 10 0 30 0))), r1.2)) rfl ?_
  exact ox_R_ret rfl
def J_Mod_link_139  (σ : ox_H) : Option (Int × ox_H) := some ((-1), σ)
theorem L_Mod_link_139  (σ : ox_H) (n tl : Nat) : ox_R (fun r => some ((fun r : Int × ox_H => ((.inl (some (.inl r.1)), r.2) : ox_O)) r)) (J_Mod_link_139 σ) (ox_ev m_Mod_link (ox_zz ox_ms (n + 7)) 139 0 tl [ox_d, ox_d, ox_d, ox_d, ox_d, ox_d] [] σ) := by
  unfold J_Mod_link_139
  refine ox_R_to 2 (Y := some (.inl (some (.inl ((-1)))), σ)) rfl ?_
  exact ox_R_ret rfl
def J_Mod_link_133  (v1 : Int) (v3 : Int) (v4 : Int) (v5 : Int) (σ : ox_H) : Option (((Int × Int) ⊕ Int × ox_H)) := some (.inl (v3, ox_w (v5 + 1)))
theorem L_Mod_link_133  (v1 : Int) (v3 : Int) (v4 : Int) (v5 : Int) (σ : ox_H) (n tl : Nat) : ox_R (Sum.elim (fun (s : Int × Int) => match s with | (v3, v5) => ox_ev m_Mod_link (ox_zz ox_ms (n + 7)) 52 0 tl [.inr (.inr (10, 0, 0)), .inl (v1), ox_d, .inl (v3), .inl (v4), .inl (v5)] [] σ) (fun r => some ((fun r : Int × ox_H => ((.inl (some (.inl r.1)), r.2) : ox_O)) r))) (J_Mod_link_133 v1 v3 v4 v5 σ) (ox_ev m_Mod_link (ox_zz ox_ms (n + 7)) 133 0 tl [.inr (.inr (10, 0, 0)), .inl (v1), ox_d, .inl (v3), .inl (v4), .inl (v5)] [] σ) := by
  unfold J_Mod_link_133
  refine ox_R_to 2 (Y := ox_ev m_Mod_link (ox_zz ox_ms (n + 7)) 52 0 tl [.inr (.inr (10, 0, 0)), .inl (v1), ox_d, .inl (v3), .inl (v4), .inl (ox_w (v5 + 1))] [] σ) rfl ?_
  exact ox_R_ret rfl
def J_Mod_link_116  (v1 : Int) (v5 : Int) (σ : ox_H) : Option (Int × ox_H) := (F_Mod_look v1 (ox_w (v5 + 1)) σ).bind fun r1 => ((F_Mod_titled r1 σ).bind fun r2 => (some (r2.1, r2.2)))
theorem L_Mod_link_116  (v1 : Int) (v5 : Int) (σ : ox_H) (n tl : Nat) : ox_R (fun r => some ((fun r : Int × ox_H => ((.inl (some (.inl r.1)), r.2) : ox_O)) r)) (J_Mod_link_116 v1 v5 σ) (ox_ev m_Mod_link (ox_zz ox_ms (n + 7)) 116 0 tl [.inr (.inr (10, 0, 0)), .inl (v1), ox_d, ox_d, ox_d, .inl (v5)] [] σ) := by
  unfold J_Mod_link_116
  refine ox_R_to 7 (Y := ox_back m_Mod_link 123 1 [.inr (.inr (10, 0, 0))] ((ox_zz ox_ms (n + 7)) 46 tl [.inr (.inr (10, 0, 0)), .inl (v1), .inl (ox_w (v5 + 1))] σ) (fun pc9 x9 st9 σ9 => ox_ev m_Mod_link (ox_zz ox_ms (n + 7)) pc9 0 tl (ox_kl (m_Mod_link.2.2.1 pc9) (ox_xl x9 [.inr (.inr (10, 0, 0)), .inl (v1), ox_d, ox_d, ox_d, .inl (v5)])) st9 σ9)) rfl ?_
  refine ox_R_call (fc := (fun r : Int => ((.inl (some (.inl r)), σ) : ox_O))) (L_Mod_look v1 (ox_w (v5 + 1)) σ (n + 6) tl) (fun r1 => ?_)
  refine ox_R_of (Y := ox_ev m_Mod_link (ox_zz ox_ms (n + 7)) 126 0 tl [.inr (.inr (10, 0, 0)), .inl (v1), ox_d, ox_d, ox_d, .inl (v5)] [.inl (r1), .inr (.inr (10, 0, 0))] σ) rfl ?_
  refine ox_R_to 1 (Y := ox_back m_Mod_link 126 1 [] ((ox_zz ox_ms (n + 7)) 84 tl [.inr (.inr (10, 0, 0)), .inl (r1)] σ) (fun pc9 x9 st9 σ9 => ox_ev m_Mod_link (ox_zz ox_ms (n + 7)) pc9 0 tl (ox_kl (m_Mod_link.2.2.1 pc9) (ox_xl x9 [.inr (.inr (10, 0, 0)), .inl (v1), ox_d, ox_d, ox_d, .inl (v5)])) st9 σ9)) rfl ?_
  refine ox_R_call (fc := (fun r : Int × ox_H => ((.inl (some (.inl r.1)), r.2) : ox_O))) (L_Mod_titled r1 σ (n + 1) tl) (fun r2 => ?_)
  refine ox_R_of (Y := ox_ev m_Mod_link (ox_zz ox_ms (n + 7)) 129 0 tl [.inr (.inr (10, 0, 0)), .inl (v1), ox_d, ox_d, ox_d, .inl (v5)] [.inl (r2.1)] r2.2) rfl ?_
  refine ox_R_to 1 (Y := some (.inl (some (.inl (r2.1))), r2.2)) rfl ?_
  exact ox_R_ret rfl
def B_Mod_link_52  (v1 : Int) (v4 : Int) (σ : ox_H) : (Int × Int) → Option (((Int × Int) ⊕ Int × ox_H)) := fun (v3, v5) => if 0 ≤ v1 ∧ v1.toNat < 60 then (if (σ 10 0 1 v1.toNat) ≤ (ox_w (v5 + 2)) then ((J_Mod_link_139 σ).map .inr) else (if v4 = 0 then ((J_Mod_link_139 σ).map .inr) else ((F_Mod_look v1 v5 σ).bind fun r3 => (if r3 = 91 then ((F_Mod_look v1 (ox_w (v5 + 1)) σ).bind fun r4 => ((F_Mod_isLetter r4 σ).bind fun r5 => (if r5 = 0 then (J_Mod_link_133 v1 v3 v4 v5 σ) else ((F_Mod_look v1 (ox_w (v5 + 2)) σ).bind fun r6 => (if r6 = 93 then (if v3 = 0 then ((J_Mod_link_116 v1 v5 σ).map .inr) else (J_Mod_link_133 v1 (ox_w (v3 + (-1))) v4 v5 σ)) else (J_Mod_link_133 v1 v3 v4 v5 σ)))))) else (J_Mod_link_133 v1 v3 v4 v5 σ))))) else none
def J_Mod_link_52  (v1 : Int) (v3 : Int) (v4 : Int) (v5 : Int) (σ : ox_H) : Option (Int × ox_H) := ox_lp (B_Mod_link_52 v1 v4 σ) ox_fu (v3, v5)
theorem L_Mod_link_52  (v1 : Int) (v3 : Int) (v4 : Int) (v5 : Int) (σ : ox_H) (n tl : Nat) : ox_R (fun r => some ((fun r : Int × ox_H => ((.inl (some (.inl r.1)), r.2) : ox_O)) r)) (J_Mod_link_52 v1 v3 v4 v5 σ) (ox_ev m_Mod_link (ox_zz ox_ms (n + 7)) 52 0 tl [.inr (.inr (10, 0, 0)), .inl (v1), ox_d, .inl (v3), .inl (v4), .inl (v5)] [] σ) := by
  unfold J_Mod_link_52
  refine ox_R_lp (ψ := (fun (s : Int × Int) => match s with | (v3, v5) => ox_ev m_Mod_link (ox_zz ox_ms (n + 7)) 52 0 tl [.inr (.inr (10, 0, 0)), .inl (v1), ox_d, .inl (v3), .inl (v4), .inl (v5)] [] σ)) ?_ ox_fu (v3, v5)
  intro s
  obtain ⟨v3, v5⟩ := s
  unfold B_Mod_link_52
  refine ox_R_to 7 (Y := if 0 ≤ v1 ∧ v1.toNat < 60 then ox_ev m_Mod_link (ox_zz ox_ms (n + 7)) 62 0 tl [.inr (.inr (10, 0, 0)), .inl (v1), ox_d, .inl (v3), .inl (v4), .inl (v5)] [.inl (σ 10 0 1 v1.toNat), .inl (ox_w (v5 + 2))] σ else none) rfl ?_
  refine ox_R_if (fun _ => ?_) (fun _ => ox_R_none)
  refine ox_R_to 1 (Y := if (σ 10 0 1 v1.toNat) ≤ (ox_w (v5 + 2)) then ox_ev m_Mod_link (ox_zz ox_ms (n + 7)) 139 0 tl [ox_d, ox_d, ox_d, ox_d, ox_d, ox_d] [] σ else ox_ev m_Mod_link (ox_zz ox_ms (n + 7)) 65 0 tl [.inr (.inr (10, 0, 0)), .inl (v1), ox_d, .inl (v3), .inl (v4), .inl (v5)] [] σ) rfl ?_
  refine ox_R_if (fun _ => ?_) (fun _ => ?_)
  · exact ox_R_map ((L_Mod_link_139 σ n tl))
  · refine ox_R_to 2 (Y := if v4 = 0 then ox_ev m_Mod_link (ox_zz ox_ms (n + 7)) 139 0 tl [ox_d, ox_d, ox_d, ox_d, ox_d, ox_d] [] σ else ox_ev m_Mod_link (ox_zz ox_ms (n + 7)) 70 0 tl [.inr (.inr (10, 0, 0)), .inl (v1), ox_d, .inl (v3), .inl (v4), .inl (v5)] [] σ) rfl ?_
    refine ox_R_if (fun _ => ?_) (fun _ => ?_)
    · exact ox_R_map ((L_Mod_link_139 σ n tl))
    · refine ox_R_to 4 (Y := ox_back m_Mod_link 74 1 [] ((ox_zz ox_ms (n + 7)) 46 tl [.inr (.inr (10, 0, 0)), .inl (v1), .inl (v5)] σ) (fun pc9 x9 st9 σ9 => ox_ev m_Mod_link (ox_zz ox_ms (n + 7)) pc9 0 tl (ox_kl (m_Mod_link.2.2.1 pc9) (ox_xl x9 [.inr (.inr (10, 0, 0)), .inl (v1), ox_d, .inl (v3), .inl (v4), .inl (v5)])) st9 σ9)) rfl ?_
      refine ox_R_call (fc := (fun r : Int => ((.inl (some (.inl r)), σ) : ox_O))) (L_Mod_look v1 v5 σ (n + 6) tl) (fun r3 => ?_)
      refine ox_R_of (Y := ox_ev m_Mod_link (ox_zz ox_ms (n + 7)) 77 0 tl [.inr (.inr (10, 0, 0)), .inl (v1), ox_d, .inl (v3), .inl (v4), .inl (v5)] [.inl (r3)] σ) rfl ?_
      refine ox_R_to 2 (Y := if r3 = 91 then ox_ev m_Mod_link (ox_zz ox_ms (n + 7)) 82 0 tl [.inr (.inr (10, 0, 0)), .inl (v1), ox_d, .inl (v3), .inl (v4), .inl (v5)] [] σ else ox_ev m_Mod_link (ox_zz ox_ms (n + 7)) 133 0 tl [.inr (.inr (10, 0, 0)), .inl (v1), ox_d, .inl (v3), .inl (v4), .inl (v5)] [] σ) rfl ?_
      refine ox_R_if (fun _ => ?_) (fun _ => ?_)
      · refine ox_R_to 7 (Y := ox_back m_Mod_link 89 1 [.inr (.inr (10, 0, 0))] ((ox_zz ox_ms (n + 7)) 46 tl [.inr (.inr (10, 0, 0)), .inl (v1), .inl (ox_w (v5 + 1))] σ) (fun pc9 x9 st9 σ9 => ox_ev m_Mod_link (ox_zz ox_ms (n + 7)) pc9 0 tl (ox_kl (m_Mod_link.2.2.1 pc9) (ox_xl x9 [.inr (.inr (10, 0, 0)), .inl (v1), ox_d, .inl (v3), .inl (v4), .inl (v5)])) st9 σ9)) rfl ?_
        refine ox_R_call (fc := (fun r : Int => ((.inl (some (.inl r)), σ) : ox_O))) (L_Mod_look v1 (ox_w (v5 + 1)) σ (n + 6) tl) (fun r4 => ?_)
        refine ox_R_of (Y := ox_ev m_Mod_link (ox_zz ox_ms (n + 7)) 92 0 tl [.inr (.inr (10, 0, 0)), .inl (v1), ox_d, .inl (v3), .inl (v4), .inl (v5)] [.inl (r4), .inr (.inr (10, 0, 0))] σ) rfl ?_
        refine ox_R_to 1 (Y := ox_back m_Mod_link 92 1 [] ((ox_zz ox_ms (n + 7)) 47 tl [.inr (.inr (10, 0, 0)), .inl (r4)] σ) (fun pc9 x9 st9 σ9 => ox_ev m_Mod_link (ox_zz ox_ms (n + 7)) pc9 0 tl (ox_kl (m_Mod_link.2.2.1 pc9) (ox_xl x9 [.inr (.inr (10, 0, 0)), .inl (v1), ox_d, .inl (v3), .inl (v4), .inl (v5)])) st9 σ9)) rfl ?_
        refine ox_R_call (fc := (fun r : Int => ((.inl (some (.inl r)), σ) : ox_O))) (L_Mod_isLetter r4 σ (n + 5) tl) (fun r5 => ?_)
        refine ox_R_of (Y := ox_ev m_Mod_link (ox_zz ox_ms (n + 7)) 95 0 tl [.inr (.inr (10, 0, 0)), .inl (v1), ox_d, .inl (v3), .inl (v4), .inl (v5)] [.inl (r5)] σ) rfl ?_
        refine ox_R_to 1 (Y := if r5 = 0 then ox_ev m_Mod_link (ox_zz ox_ms (n + 7)) 133 0 tl [.inr (.inr (10, 0, 0)), .inl (v1), ox_d, .inl (v3), .inl (v4), .inl (v5)] [] σ else ox_ev m_Mod_link (ox_zz ox_ms (n + 7)) 98 0 tl [.inr (.inr (10, 0, 0)), .inl (v1), ox_d, .inl (v3), .inl (v4), .inl (v5)] [] σ) rfl ?_
        refine ox_R_if (fun _ => ?_) (fun _ => ?_)
        · exact (L_Mod_link_133 v1 v3 v4 v5 σ n tl)
        · refine ox_R_to 6 (Y := ox_back m_Mod_link 104 1 [] ((ox_zz ox_ms (n + 7)) 46 tl [.inr (.inr (10, 0, 0)), .inl (v1), .inl (ox_w (v5 + 2))] σ) (fun pc9 x9 st9 σ9 => ox_ev m_Mod_link (ox_zz ox_ms (n + 7)) pc9 0 tl (ox_kl (m_Mod_link.2.2.1 pc9) (ox_xl x9 [.inr (.inr (10, 0, 0)), .inl (v1), ox_d, .inl (v3), .inl (v4), .inl (v5)])) st9 σ9)) rfl ?_
          refine ox_R_call (fc := (fun r : Int => ((.inl (some (.inl r)), σ) : ox_O))) (L_Mod_look v1 (ox_w (v5 + 2)) σ (n + 6) tl) (fun r6 => ?_)
          refine ox_R_of (Y := ox_ev m_Mod_link (ox_zz ox_ms (n + 7)) 107 0 tl [.inr (.inr (10, 0, 0)), .inl (v1), ox_d, .inl (v3), .inl (v4), .inl (v5)] [.inl (r6)] σ) rfl ?_
          refine ox_R_to 2 (Y := if r6 = 93 then ox_ev m_Mod_link (ox_zz ox_ms (n + 7)) 112 0 tl [.inr (.inr (10, 0, 0)), .inl (v1), ox_d, .inl (v3), .inl (v4), .inl (v5)] [] σ else ox_ev m_Mod_link (ox_zz ox_ms (n + 7)) 133 0 tl [.inr (.inr (10, 0, 0)), .inl (v1), ox_d, .inl (v3), .inl (v4), .inl (v5)] [] σ) rfl ?_
          refine ox_R_if (fun _ => ?_) (fun _ => ?_)
          · refine ox_R_to 2 (Y := if v3 = 0 then ox_ev m_Mod_link (ox_zz ox_ms (n + 7)) 116 0 tl [.inr (.inr (10, 0, 0)), .inl (v1), ox_d, ox_d, ox_d, .inl (v5)] [] σ else ox_ev m_Mod_link (ox_zz ox_ms (n + 7)) 130 0 tl [.inr (.inr (10, 0, 0)), .inl (v1), ox_d, .inl (v3), .inl (v4), .inl (v5)] [] σ) rfl ?_
            refine ox_R_if (fun _ => ?_) (fun _ => ?_)
            · exact ox_R_map ((L_Mod_link_116 v1 v5 σ n tl))
            · refine ox_R_to 1 (Y := ox_ev m_Mod_link (ox_zz ox_ms (n + 7)) 133 0 tl [.inr (.inr (10, 0, 0)), .inl (v1), ox_d, .inl (ox_w (v3 + (-1))), .inl (v4), .inl (v5)] [] σ) rfl ?_
              exact (L_Mod_link_133 v1 (ox_w (v3 + (-1))) v4 v5 σ n tl)
          · exact (L_Mod_link_133 v1 v3 v4 v5 σ n tl)
      · exact (L_Mod_link_133 v1 v3 v4 v5 σ n tl)
def J_Mod_link_47  (v1 : Int) (v3 : Int) (s0 : Int) (σ : ox_H) : Option (Int × ox_H) := (J_Mod_link_52 v1 v3 s0 0 σ)
theorem L_Mod_link_47  (v1 : Int) (v3 : Int) (s0 : Int) (σ : ox_H) (n tl : Nat) : ox_R (fun r => some ((fun r : Int × ox_H => ((.inl (some (.inl r.1)), r.2) : ox_O)) r)) (J_Mod_link_47 v1 v3 s0 σ) (ox_ev m_Mod_link (ox_zz ox_ms (n + 7)) 47 0 tl [.inr (.inr (10, 0, 0)), .inl (v1), ox_d, .inl (v3), ox_d, ox_d] [.inl (s0)] σ) := by
  unfold J_Mod_link_47
  refine ox_R_to 3 (Y := ox_ev m_Mod_link (ox_zz ox_ms (n + 7)) 52 0 tl [.inr (.inr (10, 0, 0)), .inl (v1), ox_d, .inl (v3), .inl (s0), .inl (0)] [] σ) rfl ?_
  exact (L_Mod_link_52 v1 v3 s0 0 σ n tl)
def J_Mod_link_18  (v1 : Int) (v2 : Int) (s0 : Int) (σ : ox_H) : Option (Int × ox_H) := (F_Mod_holds s0 σ).bind fun r7 => (if r7.1 = 0 then ((F_Mod_find r7.2).bind fun r8 => ((F_Mod_kindOf v1 r8).bind fun r9 => (if r9.1 = 7 then (J_Mod_link_47 v1 v2 1 r9.2) else (J_Mod_link_47 v1 v2 0 r9.2)))) else (some ((-1), r7.2)))
theorem L_Mod_link_18  (v1 : Int) (v2 : Int) (s0 : Int) (σ : ox_H) (n tl : Nat) : ox_R (fun r => some ((fun r : Int × ox_H => ((.inl (some (.inl r.1)), r.2) : ox_O)) r)) (J_Mod_link_18 v1 v2 s0 σ) (ox_ev m_Mod_link (ox_zz ox_ms (n + 7)) 18 0 tl [.inr (.inr (10, 0, 0)), .inl (v1), .inl (v2), ox_d, ox_d, ox_d] [.inl (s0), .inr (.inr (10, 0, 0))] σ) := by
  unfold J_Mod_link_18
  refine ox_R_to 1 (Y := ox_back m_Mod_link 18 1 [] ((ox_zz ox_ms (n + 7)) 43 tl [.inr (.inr (10, 0, 0)), .inl (s0)] σ) (fun pc9 x9 st9 σ9 => ox_ev m_Mod_link (ox_zz ox_ms (n + 7)) pc9 0 tl (ox_kl (m_Mod_link.2.2.1 pc9) (ox_xl x9 [.inr (.inr (10, 0, 0)), .inl (v1), .inl (v2), ox_d, ox_d, ox_d])) st9 σ9)) rfl ?_
  refine ox_R_call (fc := (fun r : Int × ox_H => ((.inl (some (.inl r.1)), r.2) : ox_O))) (L_Mod_holds s0 σ (n + 6) tl) (fun r7 => ?_)
  refine ox_R_of (Y := ox_ev m_Mod_link (ox_zz ox_ms (n + 7)) 21 0 tl [.inr (.inr (10, 0, 0)), .inl (v1), .inl (v2), ox_d, ox_d, ox_d] [.inl (r7.1)] r7.2) rfl ?_
  refine ox_R_to 1 (Y := if r7.1 = 0 then ox_ev m_Mod_link (ox_zz ox_ms (n + 7)) 26 0 tl [.inr (.inr (10, 0, 0)), .inl (v1), .inl (v2), ox_d, ox_d, ox_d] [] r7.2 else ox_ev m_Mod_link (ox_zz ox_ms (n + 7)) 24 0 tl [.inr (.inr (10, 0, 0)), .inl (v1), .inl (v2), ox_d, ox_d, ox_d] [] r7.2) rfl ?_
  refine ox_R_if (fun _ => ?_) (fun _ => ?_)
  · refine ox_R_to 2 (Y := ox_back m_Mod_link 27 0 [] ((ox_zz ox_ms (n + 7)) 72 tl [.inr (.inr (10, 0, 0))] r7.2) (fun pc9 x9 st9 σ9 => ox_ev m_Mod_link (ox_zz ox_ms (n + 7)) pc9 0 tl (ox_kl (m_Mod_link.2.2.1 pc9) (ox_xl x9 [.inr (.inr (10, 0, 0)), .inl (v1), .inl (v2), ox_d, ox_d, ox_d])) st9 σ9)) rfl ?_
    refine ox_R_call (fc := (fun r : ox_H => ((.inl none, r) : ox_O))) (L_Mod_find r7.2 (n + 2) tl) (fun r8 => ?_)
    refine ox_R_of (Y := ox_ev m_Mod_link (ox_zz ox_ms (n + 7)) 30 0 tl [.inr (.inr (10, 0, 0)), .inl (v1), .inl (v2), ox_d, ox_d, ox_d] [] r8) rfl ?_
    refine ox_R_to 5 (Y := ox_back m_Mod_link 34 1 [] ((ox_zz ox_ms (n + 7)) 63 tl [.inr (.inr (10, 0, 0)), .inl (v1)] r8) (fun pc9 x9 st9 σ9 => ox_ev m_Mod_link (ox_zz ox_ms (n + 7)) pc9 0 tl (ox_kl (m_Mod_link.2.2.1 pc9) (ox_xl x9 [.inr (.inr (10, 0, 0)), .inl (v1), .inl (v2), .inl (v2), ox_d, ox_d])) st9 σ9)) rfl ?_
    refine ox_R_call (fc := (fun r : Int × ox_H => ((.inl (some (.inl r.1)), r.2) : ox_O))) (L_Mod_kindOf v1 r8 (n + 0) tl) (fun r9 => ?_)
    refine ox_R_of (Y := ox_ev m_Mod_link (ox_zz ox_ms (n + 7)) 37 0 tl [.inr (.inr (10, 0, 0)), .inl (v1), .inl (v2), .inl (v2), ox_d, ox_d] [.inl (r9.1)] r9.2) rfl ?_
    refine ox_R_to 2 (Y := if r9.1 = 7 then ox_ev m_Mod_link (ox_zz ox_ms (n + 7)) 42 0 tl [.inr (.inr (10, 0, 0)), .inl (v1), .inl (v2), .inl (v2), ox_d, ox_d] [] r9.2 else ox_ev m_Mod_link (ox_zz ox_ms (n + 7)) 46 0 tl [.inr (.inr (10, 0, 0)), .inl (v1), .inl (v2), .inl (v2), ox_d, ox_d] [] r9.2) rfl ?_
    refine ox_R_if (fun _ => ?_) (fun _ => ?_)
    · refine ox_R_to 2 (Y := ox_ev m_Mod_link (ox_zz ox_ms (n + 7)) 47 0 tl [.inr (.inr (10, 0, 0)), .inl (v1), ox_d, .inl (v2), ox_d, ox_d] [.inl (1)] r9.2) rfl ?_
      exact (L_Mod_link_47 v1 v2 1 r9.2 n tl)
    · refine ox_R_to 1 (Y := ox_ev m_Mod_link (ox_zz ox_ms (n + 7)) 47 0 tl [.inr (.inr (10, 0, 0)), .inl (v1), ox_d, .inl (v2), ox_d, ox_d] [.inl (0)] r9.2) rfl ?_
      exact (L_Mod_link_47 v1 v2 0 r9.2 n tl)
  · refine ox_R_to 2 (Y := some (.inl (some (.inl ((-1)))), r7.2)) rfl ?_
    exact ox_R_ret rfl
def J_Mod_link_17  (v1 : Int) (v2 : Int) (σ : ox_H) : Option (Int × ox_H) := (J_Mod_link_18 v1 v2 1 σ)
theorem L_Mod_link_17  (v1 : Int) (v2 : Int) (σ : ox_H) (n tl : Nat) : ox_R (fun r => some ((fun r : Int × ox_H => ((.inl (some (.inl r.1)), r.2) : ox_O)) r)) (J_Mod_link_17 v1 v2 σ) (ox_ev m_Mod_link (ox_zz ox_ms (n + 7)) 17 0 tl [.inr (.inr (10, 0, 0)), .inl (v1), .inl (v2), ox_d, ox_d, ox_d] [.inr (.inr (10, 0, 0))] σ) := by
  unfold J_Mod_link_17
  refine ox_R_to 1 (Y := ox_ev m_Mod_link (ox_zz ox_ms (n + 7)) 18 0 tl [.inr (.inr (10, 0, 0)), .inl (v1), .inl (v2), ox_d, ox_d, ox_d] [.inl (1), .inr (.inr (10, 0, 0))] σ) rfl ?_
  exact (L_Mod_link_18 v1 v2 1 σ n tl)
def F_Mod_link  (a1 : Int) (a2 : Int) (σ : ox_H) : Option (Int × ox_H) := (F_Mod_isLine a1 σ).bind fun r10 => (if r10 = 0 then (J_Mod_link_17 a1 a2 σ) else (if a2 < 0 then (J_Mod_link_17 a1 a2 σ) else (J_Mod_link_18 a1 a2 0 σ)))
theorem L_Mod_link  (a1 : Int) (a2 : Int) (σ : ox_H) (n tl : Nat) : ox_R (fun r => some ((fun r : Int × ox_H => ((.inl (some (.inl r.1)), r.2) : ox_O)) r)) (F_Mod_link a1 a2 σ) (ox_zz ox_ms (n + 8) 130 tl [.inr (.inr (10, 0, 0)), .inl (a1), .inl (a2)] σ) := by
  unfold F_Mod_link
  refine ox_R_of (Y := ox_ev m_Mod_link (ox_zz ox_ms (n + 7)) 0 0 tl [.inr (.inr (10, 0, 0)), .inl (a1), .inl (a2), ox_d, ox_d, ox_d] [] σ) rfl ?_
  refine ox_R_to 4 (Y := ox_back m_Mod_link 3 1 [.inr (.inr (10, 0, 0))] ((ox_zz ox_ms (n + 7)) 45 tl [.inr (.inr (10, 0, 0)), .inl (a1)] σ) (fun pc9 x9 st9 σ9 => ox_ev m_Mod_link (ox_zz ox_ms (n + 7)) pc9 0 tl (ox_kl (m_Mod_link.2.2.1 pc9) (ox_xl x9 [.inr (.inr (10, 0, 0)), .inl (a1), .inl (a2), ox_d, ox_d, ox_d])) st9 σ9)) rfl ?_
  refine ox_R_call (fc := (fun r : Int => ((.inl (some (.inl r)), σ) : ox_O))) (L_Mod_isLine a1 σ (n + 5) tl) (fun r10 => ?_)
  refine ox_R_of (Y := ox_ev m_Mod_link (ox_zz ox_ms (n + 7)) 6 0 tl [.inr (.inr (10, 0, 0)), .inl (a1), .inl (a2), ox_d, ox_d, ox_d] [.inl (r10), .inr (.inr (10, 0, 0))] σ) rfl ?_
  refine ox_R_to 1 (Y := if r10 = 0 then ox_ev m_Mod_link (ox_zz ox_ms (n + 7)) 17 0 tl [.inr (.inr (10, 0, 0)), .inl (a1), .inl (a2), ox_d, ox_d, ox_d] [.inr (.inr (10, 0, 0))] σ else ox_ev m_Mod_link (ox_zz ox_ms (n + 7)) 9 0 tl [.inr (.inr (10, 0, 0)), .inl (a1), .inl (a2), ox_d, ox_d, ox_d] [.inr (.inr (10, 0, 0))] σ) rfl ?_
  refine ox_R_if (fun _ => ?_) (fun _ => ?_)
  · exact (L_Mod_link_17 a1 a2 σ n tl)
  · refine ox_R_to 2 (Y := if a2 < 0 then ox_ev m_Mod_link (ox_zz ox_ms (n + 7)) 17 0 tl [.inr (.inr (10, 0, 0)), .inl (a1), .inl (a2), ox_d, ox_d, ox_d] [.inr (.inr (10, 0, 0))] σ else ox_ev m_Mod_link (ox_zz ox_ms (n + 7)) 13 0 tl [.inr (.inr (10, 0, 0)), .inl (a1), .inl (a2), ox_d, ox_d, ox_d] [.inr (.inr (10, 0, 0))] σ) rfl ?_
    refine ox_R_if (fun _ => ?_) (fun _ => ?_)
    · exact (L_Mod_link_17 a1 a2 σ n tl)
    · refine ox_R_to 2 (Y := ox_ev m_Mod_link (ox_zz ox_ms (n + 7)) 18 0 tl [.inr (.inr (10, 0, 0)), .inl (a1), .inl (a2), ox_d, ox_d, ox_d] [.inl (0), .inr (.inr (10, 0, 0))] σ) rfl ?_
      exact (L_Mod_link_18 a1 a2 0 σ n tl)
def J_Mod_renumber_180  (v1 : Int) (σ : ox_H) : Option (Int × ox_H) := some (v1, σ)
theorem L_Mod_renumber_180  (v1 : Int) (σ : ox_H) (n tl : Nat) : ox_R (fun r => some ((fun r : Int × ox_H => ((.inl (some (.inl r.1)), r.2) : ox_O)) r)) (J_Mod_renumber_180 v1 σ) (ox_ev m_Mod_renumber (ox_zz ox_ms (n + 7)) 180 0 tl [ox_d, .inl (v1), ox_d, ox_d, ox_d] [] σ) := by
  unfold J_Mod_renumber_180
  refine ox_R_to 2 (Y := some (.inl (some (.inl (v1))), σ)) rfl ?_
  exact ox_R_ret rfl
def J_Mod_renumber_174  (v1 : Int) (v2 : Int) (σ : ox_H) : Option (((Int × Int × ox_H) ⊕ Int × ox_H)) := some (.inl (v1, ox_w (v2 + 1), σ))
theorem L_Mod_renumber_174  (v1 : Int) (v2 : Int) (σ : ox_H) (n tl : Nat) : ox_R (Sum.elim (fun (s : Int × Int × ox_H) => match s with | (v1, v2, σ) => ox_ev m_Mod_renumber (ox_zz ox_ms (n + 7)) 31 0 tl [.inr (.inr (10, 0, 0)), .inl (v1), .inl (v2), ox_d, ox_d] [] σ) (fun r => some ((fun r : Int × ox_H => ((.inl (some (.inl r.1)), r.2) : ox_O)) r))) (J_Mod_renumber_174 v1 v2 σ) (ox_ev m_Mod_renumber (ox_zz ox_ms (n + 7)) 174 0 tl [.inr (.inr (10, 0, 0)), .inl (v1), .inl (v2), ox_d, ox_d] [] σ) := by
  unfold J_Mod_renumber_174
  refine ox_R_to 2 (Y := ox_ev m_Mod_renumber (ox_zz ox_ms (n + 7)) 31 0 tl [.inr (.inr (10, 0, 0)), .inl (v1), .inl (ox_w (v2 + 1)), ox_d, ox_d] [] σ) rfl ?_
  exact ox_R_ret rfl
def J_Mod_renumber_168  (v1 : Int) (v2 : Int) (v3 : Int) (σ : ox_H) : Option (((Int × Int × ox_H) ⊕ ((Int × Int × ox_H) ⊕ Int × ox_H))) := some (.inl (v1, ox_w (v3 + 1), σ))
theorem L_Mod_renumber_168  (v1 : Int) (v2 : Int) (v3 : Int) (σ : ox_H) (n tl : Nat) : ox_R (Sum.elim (fun (s : Int × Int × ox_H) => match s with | (v1, v3, σ) => ox_ev m_Mod_renumber (ox_zz ox_ms (n + 7)) 51 0 tl [.inr (.inr (10, 0, 0)), .inl (v1), .inl (v2), .inl (v3), ox_d] [] σ) (Sum.elim (fun (s : Int × Int × ox_H) => match s with | (v1, v2, σ) => ox_ev m_Mod_renumber (ox_zz ox_ms (n + 7)) 31 0 tl [.inr (.inr (10, 0, 0)), .inl (v1), .inl (v2), ox_d, ox_d] [] σ) (fun r => some ((fun r : Int × ox_H => ((.inl (some (.inl r.1)), r.2) : ox_O)) r)))) (J_Mod_renumber_168 v1 v2 v3 σ) (ox_ev m_Mod_renumber (ox_zz ox_ms (n + 7)) 168 0 tl [.inr (.inr (10, 0, 0)), .inl (v1), .inl (v2), .inl (v3), ox_d] [] σ) := by
  unfold J_Mod_renumber_168
  refine ox_R_to 2 (Y := ox_ev m_Mod_renumber (ox_zz ox_ms (n + 7)) 51 0 tl [.inr (.inr (10, 0, 0)), .inl (v1), .inl (v2), .inl (ox_w (v3 + 1)), ox_d] [] σ) rfl ?_
  exact ox_R_ret rfl
def J_Mod_renumber_144  (v1 : Int) (v2 : Int) (v3 : Int) (v4 : Int) (s0 : Int) (s1 : Int) (σ : ox_H) : Option (((Int × Int × ox_H) ⊕ ((Int × Int × ox_H) ⊕ Int × ox_H))) := if 0 ≤ s1 ∧ s1.toNat < 10 then (if 0 ≤ v4 ∧ v4.toNat < 10 then (if 0 ≤ (ox_w ((ox_w ((ox_w (24 * v2)) + v3)) + 1)) ∧ (ox_w ((ox_w ((ox_w (24 * v2)) + v3)) + 1)).toNat < 1440 then (J_Mod_renumber_168 v1 v2 v3 (ox_up (ox_up σ 10 0 35 s1.toNat s0) 10 0 0 ((ox_w ((ox_w ((ox_w (24 * v2)) + v3)) + 1)).toNat) (ox_w (48 + ((ox_up σ 10 0 35 s1.toNat s0) 10 0 35 v4.toNat))))) else none) else none) else none
theorem L_Mod_renumber_144  (v1 : Int) (v2 : Int) (v3 : Int) (v4 : Int) (s0 : Int) (s1 : Int) (σ : ox_H) (n tl : Nat) : ox_R (Sum.elim (fun (s : Int × Int × ox_H) => match s with | (v1, v3, σ) => ox_ev m_Mod_renumber (ox_zz ox_ms (n + 7)) 51 0 tl [.inr (.inr (10, 0, 0)), .inl (v1), .inl (v2), .inl (v3), ox_d] [] σ) (Sum.elim (fun (s : Int × Int × ox_H) => match s with | (v1, v2, σ) => ox_ev m_Mod_renumber (ox_zz ox_ms (n + 7)) 31 0 tl [.inr (.inr (10, 0, 0)), .inl (v1), .inl (v2), ox_d, ox_d] [] σ) (fun r => some ((fun r : Int × ox_H => ((.inl (some (.inl r.1)), r.2) : ox_O)) r)))) (J_Mod_renumber_144 v1 v2 v3 v4 s0 s1 σ) (ox_ev m_Mod_renumber (ox_zz ox_ms (n + 7)) 144 0 tl [.inr (.inr (10, 0, 0)), .inl (v1), .inl (v2), .inl (v3), .inl (v4)] [.inl (s0), .inl (s1), .inr (.inr (110, 0, 35))] σ) := by
  unfold J_Mod_renumber_144
  refine ox_R_to 1 (Y := if 0 ≤ s1 ∧ s1.toNat < 10 then ox_ev m_Mod_renumber (ox_zz ox_ms (n + 7)) 145 0 tl [.inr (.inr (10, 0, 0)), .inl (v1), .inl (v2), .inl (v3), .inl (v4)] [] (ox_up σ 10 0 35 s1.toNat s0) else none) rfl ?_
  refine ox_R_if (fun _ => ?_) (fun _ => ox_R_none)
  refine ox_R_to 14 (Y := if 0 ≤ v4 ∧ v4.toNat < 10 then ox_ev m_Mod_renumber (ox_zz ox_ms (n + 7)) 166 0 tl [.inr (.inr (10, 0, 0)), .inl (v1), .inl (v2), .inl (v3), .inl (v4)] [.inl ((ox_up σ 10 0 35 s1.toNat s0) 10 0 35 v4.toNat), .inl (48), .inl (ox_w ((ox_w ((ox_w (24 * v2)) + v3)) + 1)), .inr (.inr (110, 0, 0))] (ox_up σ 10 0 35 s1.toNat s0) else none) rfl ?_
  refine ox_R_if (fun _ => ?_) (fun _ => ox_R_none)
  refine ox_R_to 2 (Y := if 0 ≤ (ox_w ((ox_w ((ox_w (24 * v2)) + v3)) + 1)) ∧ (ox_w ((ox_w ((ox_w (24 * v2)) + v3)) + 1)).toNat < 1440 then ox_ev m_Mod_renumber (ox_zz ox_ms (n + 7)) 168 0 tl [.inr (.inr (10, 0, 0)), .inl (v1), .inl (v2), .inl (v3), ox_d] [] (ox_up (ox_up σ 10 0 35 s1.toNat s0) 10 0 0 ((ox_w ((ox_w ((ox_w (24 * v2)) + v3)) + 1)).toNat) (ox_w (48 + ((ox_up σ 10 0 35 s1.toNat s0) 10 0 35 v4.toNat)))) else none) rfl ?_
  refine ox_R_if (fun _ => ?_) (fun _ => ox_R_none)
  exact (L_Mod_renumber_168 v1 v2 v3 (ox_up (ox_up σ 10 0 35 s1.toNat s0) 10 0 0 ((ox_w ((ox_w ((ox_w (24 * v2)) + v3)) + 1)).toNat) (ox_w (48 + ((ox_up σ 10 0 35 s1.toNat s0) 10 0 35 v4.toNat)))) n tl)
def J_Mod_renumber_115  (v2 : Int) (v3 : Int) (v4 : Int) (s0 : Int) (s1 : Int) (σ : ox_H) : Option (((Int × Int × ox_H) ⊕ ((Int × Int × ox_H) ⊕ Int × ox_H))) := if 0 ≤ v4 ∧ v4.toNat < 10 then (if (σ 10 0 35 v4.toNat) = 0 then (J_Mod_renumber_144 (ox_w (s1 + s0)) v2 v3 v4 (ox_w (s1 + s0)) v4 σ) else (if 0 ≤ v4 ∧ v4.toNat < 10 then (J_Mod_renumber_144 (ox_w (s1 + s0)) v2 v3 v4 (σ 10 0 35 v4.toNat) v4 σ) else none)) else none
theorem L_Mod_renumber_115  (v2 : Int) (v3 : Int) (v4 : Int) (s0 : Int) (s1 : Int) (σ : ox_H) (n tl : Nat) : ox_R (Sum.elim (fun (s : Int × Int × ox_H) => match s with | (v1, v3, σ) => ox_ev m_Mod_renumber (ox_zz ox_ms (n + 7)) 51 0 tl [.inr (.inr (10, 0, 0)), .inl (v1), .inl (v2), .inl (v3), ox_d] [] σ) (Sum.elim (fun (s : Int × Int × ox_H) => match s with | (v1, v2, σ) => ox_ev m_Mod_renumber (ox_zz ox_ms (n + 7)) 31 0 tl [.inr (.inr (10, 0, 0)), .inl (v1), .inl (v2), ox_d, ox_d] [] σ) (fun r => some ((fun r : Int × ox_H => ((.inl (some (.inl r.1)), r.2) : ox_O)) r)))) (J_Mod_renumber_115 v2 v3 v4 s0 s1 σ) (ox_ev m_Mod_renumber (ox_zz ox_ms (n + 7)) 115 0 tl [.inr (.inr (10, 0, 0)), ox_d, .inl (v2), .inl (v3), .inl (v4)] [.inl (s0), .inl (s1)] σ) := by
  unfold J_Mod_renumber_115
  refine ox_R_to 9 (Y := if 0 ≤ v4 ∧ v4.toNat < 10 then ox_ev m_Mod_renumber (ox_zz ox_ms (n + 7)) 130 0 tl [.inr (.inr (10, 0, 0)), .inl (ox_w (s1 + s0)), .inl (v2), .inl (v3), .inl (v4)] [.inl (σ 10 0 35 v4.toNat), .inl (v4), .inr (.inr (110, 0, 35))] σ else none) rfl ?_
  refine ox_R_if (fun _ => ?_) (fun _ => ox_R_none)
  refine ox_R_to 1 (Y := if (σ 10 0 35 v4.toNat) = 0 then ox_ev m_Mod_renumber (ox_zz ox_ms (n + 7)) 133 0 tl [.inr (.inr (10, 0, 0)), .inl (ox_w (s1 + s0)), .inl (v2), .inl (v3), .inl (v4)] [.inl (v4), .inr (.inr (110, 0, 35))] σ else ox_ev m_Mod_renumber (ox_zz ox_ms (n + 7)) 137 0 tl [.inr (.inr (10, 0, 0)), .inl (ox_w (s1 + s0)), .inl (v2), .inl (v3), .inl (v4)] [.inl (v4), .inr (.inr (110, 0, 35))] σ) rfl ?_
  refine ox_R_if (fun _ => ?_) (fun _ => ?_)
  · refine ox_R_to 2 (Y := ox_ev m_Mod_renumber (ox_zz ox_ms (n + 7)) 144 0 tl [.inr (.inr (10, 0, 0)), .inl (ox_w (s1 + s0)), .inl (v2), .inl (v3), .inl (v4)] [.inl (ox_w (s1 + s0)), .inl (v4), .inr (.inr (110, 0, 35))] σ) rfl ?_
    exact (L_Mod_renumber_144 (ox_w (s1 + s0)) v2 v3 v4 (ox_w (s1 + s0)) v4 σ n tl)
  · refine ox_R_to 4 (Y := if 0 ≤ v4 ∧ v4.toNat < 10 then ox_ev m_Mod_renumber (ox_zz ox_ms (n + 7)) 144 0 tl [.inr (.inr (10, 0, 0)), .inl (ox_w (s1 + s0)), .inl (v2), .inl (v3), .inl (v4)] [.inl (σ 10 0 35 v4.toNat), .inl (v4), .inr (.inr (110, 0, 35))] σ else none) rfl ?_
    refine ox_R_if (fun _ => ?_) (fun _ => ox_R_none)
    exact (L_Mod_renumber_144 (ox_w (s1 + s0)) v2 v3 v4 (σ 10 0 35 v4.toNat) v4 σ n tl)
def B_Mod_renumber_51  (v2 : Int) : (Int × Int × ox_H) → Option (((Int × Int × ox_H) ⊕ ((Int × Int × ox_H) ⊕ Int × ox_H))) := fun (v1, v3, σ) => if 0 ≤ v2 ∧ v2.toNat < 60 then (if (σ 10 0 1 v2.toNat) ≤ (ox_w (v3 + 1)) then ((J_Mod_renumber_174 v1 v2 σ).map .inr) else ((F_Mod_look v2 (ox_w (v3 + 1)) σ).bind fun r1 => ((F_Mod_look v2 v3 σ).bind fun r2 => (if r2 = 94 then ((F_Mod_in (ox_w (r1 - 48)) 1 9 σ).bind fun r3 => (if r3 = 0 then (J_Mod_renumber_168 v1 v2 v3 σ) else (if 0 ≤ (ox_w (r1 - 48)) ∧ (ox_w (r1 - 48)).toNat < 10 then (if (σ 10 0 35 ((ox_w (r1 - 48)).toNat)) = 0 then (J_Mod_renumber_115 v2 v3 (ox_w (r1 - 48)) 1 v1 σ) else (J_Mod_renumber_115 v2 v3 (ox_w (r1 - 48)) 0 v1 σ)) else none))) else (J_Mod_renumber_168 v1 v2 v3 σ))))) else none
def J_Mod_renumber_51  (v1 : Int) (v2 : Int) (v3 : Int) (σ : ox_H) : Option (((Int × Int × ox_H) ⊕ Int × ox_H)) := ox_lp (B_Mod_renumber_51 v2) ox_fu (v1, v3, σ)
theorem L_Mod_renumber_51  (v1 : Int) (v2 : Int) (v3 : Int) (σ : ox_H) (n tl : Nat) : ox_R (Sum.elim (fun (s : Int × Int × ox_H) => match s with | (v1, v2, σ) => ox_ev m_Mod_renumber (ox_zz ox_ms (n + 7)) 31 0 tl [.inr (.inr (10, 0, 0)), .inl (v1), .inl (v2), ox_d, ox_d] [] σ) (fun r => some ((fun r : Int × ox_H => ((.inl (some (.inl r.1)), r.2) : ox_O)) r))) (J_Mod_renumber_51 v1 v2 v3 σ) (ox_ev m_Mod_renumber (ox_zz ox_ms (n + 7)) 51 0 tl [.inr (.inr (10, 0, 0)), .inl (v1), .inl (v2), .inl (v3), ox_d] [] σ) := by
  unfold J_Mod_renumber_51
  refine ox_R_lp (ψ := (fun (s : Int × Int × ox_H) => match s with | (v1, v3, σ) => ox_ev m_Mod_renumber (ox_zz ox_ms (n + 7)) 51 0 tl [.inr (.inr (10, 0, 0)), .inl (v1), .inl (v2), .inl (v3), ox_d] [] σ)) ?_ ox_fu (v1, v3, σ)
  intro s
  obtain ⟨v1, v3, σ⟩ := s
  unfold B_Mod_renumber_51
  refine ox_R_to 7 (Y := if 0 ≤ v2 ∧ v2.toNat < 60 then ox_ev m_Mod_renumber (ox_zz ox_ms (n + 7)) 60 0 tl [.inr (.inr (10, 0, 0)), .inl (v1), .inl (v2), .inl (v3), ox_d] [.inl (σ 10 0 1 v2.toNat), .inl (ox_w (v3 + 1))] σ else none) rfl ?_
  refine ox_R_if (fun _ => ?_) (fun _ => ox_R_none)
  refine ox_R_to 1 (Y := if (σ 10 0 1 v2.toNat) ≤ (ox_w (v3 + 1)) then ox_ev m_Mod_renumber (ox_zz ox_ms (n + 7)) 174 0 tl [.inr (.inr (10, 0, 0)), .inl (v1), .inl (v2), ox_d, ox_d] [] σ else ox_ev m_Mod_renumber (ox_zz ox_ms (n + 7)) 63 0 tl [.inr (.inr (10, 0, 0)), .inl (v1), .inl (v2), .inl (v3), ox_d] [] σ) rfl ?_
  refine ox_R_if (fun _ => ?_) (fun _ => ?_)
  · exact ox_R_map ((L_Mod_renumber_174 v1 v2 σ n tl))
  · refine ox_R_to 6 (Y := ox_back m_Mod_renumber 68 1 [] ((ox_zz ox_ms (n + 7)) 46 tl [.inr (.inr (10, 0, 0)), .inl (v2), .inl (ox_w (v3 + 1))] σ) (fun pc9 x9 st9 σ9 => ox_ev m_Mod_renumber (ox_zz ox_ms (n + 7)) pc9 0 tl (ox_kl (m_Mod_renumber.2.2.1 pc9) (ox_xl x9 [.inr (.inr (10, 0, 0)), .inl (v1), .inl (v2), .inl (v3), ox_d])) st9 σ9)) rfl ?_
    refine ox_R_call (fc := (fun r : Int => ((.inl (some (.inl r)), σ) : ox_O))) (L_Mod_look v2 (ox_w (v3 + 1)) σ (n + 6) tl) (fun r1 => ?_)
    refine ox_R_of (Y := ox_ev m_Mod_renumber (ox_zz ox_ms (n + 7)) 71 0 tl [.inr (.inr (10, 0, 0)), .inl (v1), .inl (v2), .inl (v3), ox_d] [.inl (r1)] σ) rfl ?_
    refine ox_R_to 7 (Y := ox_back m_Mod_renumber 79 1 [] ((ox_zz ox_ms (n + 7)) 46 tl [.inr (.inr (10, 0, 0)), .inl (v2), .inl (v3)] σ) (fun pc9 x9 st9 σ9 => ox_ev m_Mod_renumber (ox_zz ox_ms (n + 7)) pc9 0 tl (ox_kl (m_Mod_renumber.2.2.1 pc9) (ox_xl x9 [.inr (.inr (10, 0, 0)), .inl (v1), .inl (v2), .inl (v3), .inl (ox_w (r1 - 48))])) st9 σ9)) rfl ?_
    refine ox_R_call (fc := (fun r : Int => ((.inl (some (.inl r)), σ) : ox_O))) (L_Mod_look v2 v3 σ (n + 6) tl) (fun r2 => ?_)
    refine ox_R_of (Y := ox_ev m_Mod_renumber (ox_zz ox_ms (n + 7)) 82 0 tl [.inr (.inr (10, 0, 0)), .inl (v1), .inl (v2), .inl (v3), .inl (ox_w (r1 - 48))] [.inl (r2)] σ) rfl ?_
    refine ox_R_to 2 (Y := if r2 = 94 then ox_ev m_Mod_renumber (ox_zz ox_ms (n + 7)) 87 0 tl [.inr (.inr (10, 0, 0)), .inl (v1), .inl (v2), .inl (v3), .inl (ox_w (r1 - 48))] [] σ else ox_ev m_Mod_renumber (ox_zz ox_ms (n + 7)) 168 0 tl [.inr (.inr (10, 0, 0)), .inl (v1), .inl (v2), .inl (v3), ox_d] [] σ) rfl ?_
    refine ox_R_if (fun _ => ?_) (fun _ => ?_)
    · refine ox_R_to 5 (Y := ox_back m_Mod_renumber 93 1 [] ((ox_zz ox_ms (n + 7)) 44 tl [.inr (.inr (10, 0, 0)), .inl (ox_w (r1 - 48)), .inl (1), .inl (9)] σ) (fun pc9 x9 st9 σ9 => ox_ev m_Mod_renumber (ox_zz ox_ms (n + 7)) pc9 0 tl (ox_kl (m_Mod_renumber.2.2.1 pc9) (ox_xl x9 [.inr (.inr (10, 0, 0)), .inl (v1), .inl (v2), .inl (v3), .inl (ox_w (r1 - 48))])) st9 σ9)) rfl ?_
      refine ox_R_call (fc := (fun r : Int => ((.inl (some (.inl r)), σ) : ox_O))) (L_Mod_in (ox_w (r1 - 48)) 1 9 σ (n + 6) tl) (fun r3 => ?_)
      refine ox_R_of (Y := ox_ev m_Mod_renumber (ox_zz ox_ms (n + 7)) 96 0 tl [.inr (.inr (10, 0, 0)), .inl (v1), .inl (v2), .inl (v3), .inl (ox_w (r1 - 48))] [.inl (r3)] σ) rfl ?_
      refine ox_R_to 1 (Y := if r3 = 0 then ox_ev m_Mod_renumber (ox_zz ox_ms (n + 7)) 168 0 tl [.inr (.inr (10, 0, 0)), .inl (v1), .inl (v2), .inl (v3), ox_d] [] σ else ox_ev m_Mod_renumber (ox_zz ox_ms (n + 7)) 99 0 tl [.inr (.inr (10, 0, 0)), .inl (v1), .inl (v2), .inl (v3), .inl (ox_w (r1 - 48))] [] σ) rfl ?_
      refine ox_R_if (fun _ => ?_) (fun _ => ?_)
      · exact (L_Mod_renumber_168 v1 v2 v3 σ n tl)
      · refine ox_R_to 5 (Y := if 0 ≤ (ox_w (r1 - 48)) ∧ (ox_w (r1 - 48)).toNat < 10 then ox_ev m_Mod_renumber (ox_zz ox_ms (n + 7)) 107 0 tl [.inr (.inr (10, 0, 0)), .inl (v1), .inl (v2), .inl (v3), .inl (ox_w (r1 - 48))] [.inl (σ 10 0 35 ((ox_w (r1 - 48)).toNat)), .inl (v1)] σ else none) rfl ?_
        refine ox_R_if (fun _ => ?_) (fun _ => ox_R_none)
        refine ox_R_to 1 (Y := if (σ 10 0 35 ((ox_w (r1 - 48)).toNat)) = 0 then ox_ev m_Mod_renumber (ox_zz ox_ms (n + 7)) 110 0 tl [.inr (.inr (10, 0, 0)), .inl (v1), .inl (v2), .inl (v3), .inl (ox_w (r1 - 48))] [.inl (v1)] σ else ox_ev m_Mod_renumber (ox_zz ox_ms (n + 7)) 114 0 tl [.inr (.inr (10, 0, 0)), .inl (v1), .inl (v2), .inl (v3), .inl (ox_w (r1 - 48))] [.inl (v1)] σ) rfl ?_
        refine ox_R_if (fun _ => ?_) (fun _ => ?_)
        · refine ox_R_to 2 (Y := ox_ev m_Mod_renumber (ox_zz ox_ms (n + 7)) 115 0 tl [.inr (.inr (10, 0, 0)), ox_d, .inl (v2), .inl (v3), .inl (ox_w (r1 - 48))] [.inl (1), .inl (v1)] σ) rfl ?_
          exact (L_Mod_renumber_115 v2 v3 (ox_w (r1 - 48)) 1 v1 σ n tl)
        · refine ox_R_to 1 (Y := ox_ev m_Mod_renumber (ox_zz ox_ms (n + 7)) 115 0 tl [.inr (.inr (10, 0, 0)), ox_d, .inl (v2), .inl (v3), .inl (ox_w (r1 - 48))] [.inl (0), .inl (v1)] σ) rfl ?_
          exact (L_Mod_renumber_115 v2 v3 (ox_w (r1 - 48)) 0 v1 σ n tl)
    · exact (L_Mod_renumber_168 v1 v2 v3 σ n tl)
def B_Mod_renumber_31  : (Int × Int × ox_H) → Option (((Int × Int × ox_H) ⊕ Int × ox_H)) := fun (v1, v2, σ) => if (σ 10 0 2 0) ≤ v2 then ((J_Mod_renumber_180 v1 σ).map .inr) else ((F_Mod_kindOf v2 σ).bind fun r4 => (if r4.1 = 7 then (J_Mod_renumber_51 v1 v2 0 r4.2) else (J_Mod_renumber_174 v1 v2 r4.2)))
def J_Mod_renumber_31  (v1 : Int) (v2 : Int) (σ : ox_H) : Option (Int × ox_H) := ox_lp (B_Mod_renumber_31) ox_fu (v1, v2, σ)
theorem L_Mod_renumber_31  (v1 : Int) (v2 : Int) (σ : ox_H) (n tl : Nat) : ox_R (fun r => some ((fun r : Int × ox_H => ((.inl (some (.inl r.1)), r.2) : ox_O)) r)) (J_Mod_renumber_31 v1 v2 σ) (ox_ev m_Mod_renumber (ox_zz ox_ms (n + 7)) 31 0 tl [.inr (.inr (10, 0, 0)), .inl (v1), .inl (v2), ox_d, ox_d] [] σ) := by
  unfold J_Mod_renumber_31
  refine ox_R_lp (ψ := (fun (s : Int × Int × ox_H) => match s with | (v1, v2, σ) => ox_ev m_Mod_renumber (ox_zz ox_ms (n + 7)) 31 0 tl [.inr (.inr (10, 0, 0)), .inl (v1), .inl (v2), ox_d, ox_d] [] σ)) ?_ ox_fu (v1, v2, σ)
  intro s
  obtain ⟨v1, v2, σ⟩ := s
  unfold B_Mod_renumber_31
  refine ox_R_to 4 (Y := if (σ 10 0 2 0) ≤ v2 then ox_ev m_Mod_renumber (ox_zz ox_ms (n + 7)) 180 0 tl [ox_d, .inl (v1), ox_d, ox_d, ox_d] [] σ else ox_ev m_Mod_renumber (ox_zz ox_ms (n + 7)) 39 0 tl [.inr (.inr (10, 0, 0)), .inl (v1), .inl (v2), ox_d, ox_d] [] σ) rfl ?_
  refine ox_R_if (fun _ => ?_) (fun _ => ?_)
  · exact ox_R_map ((L_Mod_renumber_180 v1 σ n tl))
  · refine ox_R_to 3 (Y := ox_back m_Mod_renumber 41 1 [] ((ox_zz ox_ms (n + 7)) 63 tl [.inr (.inr (10, 0, 0)), .inl (v2)] σ) (fun pc9 x9 st9 σ9 => ox_ev m_Mod_renumber (ox_zz ox_ms (n + 7)) pc9 0 tl (ox_kl (m_Mod_renumber.2.2.1 pc9) (ox_xl x9 [.inr (.inr (10, 0, 0)), .inl (v1), .inl (v2), ox_d, ox_d])) st9 σ9)) rfl ?_
    refine ox_R_call (fc := (fun r : Int × ox_H => ((.inl (some (.inl r.1)), r.2) : ox_O))) (L_Mod_kindOf v2 σ (n + 0) tl) (fun r4 => ?_)
    refine ox_R_of (Y := ox_ev m_Mod_renumber (ox_zz ox_ms (n + 7)) 44 0 tl [.inr (.inr (10, 0, 0)), .inl (v1), .inl (v2), ox_d, ox_d] [.inl (r4.1)] r4.2) rfl ?_
    refine ox_R_to 2 (Y := if r4.1 = 7 then ox_ev m_Mod_renumber (ox_zz ox_ms (n + 7)) 49 0 tl [.inr (.inr (10, 0, 0)), .inl (v1), .inl (v2), ox_d, ox_d] [] r4.2 else ox_ev m_Mod_renumber (ox_zz ox_ms (n + 7)) 174 0 tl [.inr (.inr (10, 0, 0)), .inl (v1), .inl (v2), ox_d, ox_d] [] r4.2) rfl ?_
    refine ox_R_if (fun _ => ?_) (fun _ => ?_)
    · refine ox_R_to 2 (Y := ox_ev m_Mod_renumber (ox_zz ox_ms (n + 7)) 51 0 tl [.inr (.inr (10, 0, 0)), .inl (v1), .inl (v2), .inl (0), ox_d] [] r4.2) rfl ?_
      exact (L_Mod_renumber_51 v1 v2 0 r4.2 n tl)
    · exact (L_Mod_renumber_174 v1 v2 r4.2 n tl)
def J_Mod_renumber_29  (v1 : Int) (σ : ox_H) : Option (Int × ox_H) := (J_Mod_renumber_31 v1 0 σ)
theorem L_Mod_renumber_29  (v1 : Int) (σ : ox_H) (n tl : Nat) : ox_R (fun r => some ((fun r : Int × ox_H => ((.inl (some (.inl r.1)), r.2) : ox_O)) r)) (J_Mod_renumber_29 v1 σ) (ox_ev m_Mod_renumber (ox_zz ox_ms (n + 7)) 29 0 tl [.inr (.inr (10, 0, 0)), .inl (v1), ox_d, ox_d, ox_d] [] σ) := by
  unfold J_Mod_renumber_29
  refine ox_R_to 2 (Y := ox_ev m_Mod_renumber (ox_zz ox_ms (n + 7)) 31 0 tl [.inr (.inr (10, 0, 0)), .inl (v1), .inl (0), ox_d, ox_d] [] σ) rfl ?_
  exact (L_Mod_renumber_31 v1 0 σ n tl)
def B_Mod_renumber_10  (v1 : Int) : (Int × ox_H) → Option (((Int × ox_H) ⊕ Int × ox_H)) := fun (v2, σ) => if 10 ≤ v2 then ((J_Mod_renumber_29 v1 σ).map .inr) else (if 0 ≤ v2 ∧ v2.toNat < 10 then (some (.inl (ox_w (v2 + 1), (ox_up σ 10 0 35 v2.toNat 0)))) else none)
def J_Mod_renumber_10  (v1 : Int) (v2 : Int) (σ : ox_H) : Option (Int × ox_H) := ox_lp (B_Mod_renumber_10 v1) ox_fu (v2, σ)
theorem L_Mod_renumber_10  (v1 : Int) (v2 : Int) (σ : ox_H) (n tl : Nat) : ox_R (fun r => some ((fun r : Int × ox_H => ((.inl (some (.inl r.1)), r.2) : ox_O)) r)) (J_Mod_renumber_10 v1 v2 σ) (ox_ev m_Mod_renumber (ox_zz ox_ms (n + 7)) 10 0 tl [.inr (.inr (10, 0, 0)), .inl (v1), .inl (v2), ox_d, ox_d] [] σ) := by
  unfold J_Mod_renumber_10
  refine ox_R_lp (ψ := (fun (s : Int × ox_H) => match s with | (v2, σ) => ox_ev m_Mod_renumber (ox_zz ox_ms (n + 7)) 10 0 tl [.inr (.inr (10, 0, 0)), .inl (v1), .inl (v2), ox_d, ox_d] [] σ)) ?_ ox_fu (v2, σ)
  intro s
  obtain ⟨v2, σ⟩ := s
  unfold B_Mod_renumber_10
  refine ox_R_to 3 (Y := if 10 ≤ v2 then ox_ev m_Mod_renumber (ox_zz ox_ms (n + 7)) 29 0 tl [.inr (.inr (10, 0, 0)), .inl (v1), ox_d, ox_d, ox_d] [] σ else ox_ev m_Mod_renumber (ox_zz ox_ms (n + 7)) 16 0 tl [.inr (.inr (10, 0, 0)), .inl (v1), .inl (v2), ox_d, ox_d] [] σ) rfl ?_
  refine ox_R_if (fun _ => ?_) (fun _ => ?_)
  · exact ox_R_map ((L_Mod_renumber_29 v1 σ n tl))
  · refine ox_R_to 5 (Y := if 0 ≤ v2 ∧ v2.toNat < 10 then ox_ev m_Mod_renumber (ox_zz ox_ms (n + 7)) 23 0 tl [.inr (.inr (10, 0, 0)), .inl (v1), .inl (v2), ox_d, ox_d] [] (ox_up σ 10 0 35 v2.toNat 0) else none) rfl ?_
    refine ox_R_if (fun _ => ?_) (fun _ => ox_R_none)
    refine ox_R_to 2 (Y := ox_ev m_Mod_renumber (ox_zz ox_ms (n + 7)) 10 0 tl [.inr (.inr (10, 0, 0)), .inl (v1), .inl (ox_w (v2 + 1)), ox_d, ox_d] [] (ox_up σ 10 0 35 v2.toNat 0)) rfl ?_
    exact ox_R_ret rfl
def F_Mod_renumber  (σ : ox_H) : Option (Int × ox_H) := (F_Mod_holds 0 σ).bind fun r5 => (J_Mod_renumber_10 0 0 r5.2)
theorem L_Mod_renumber  (σ : ox_H) (n tl : Nat) : ox_R (fun r => some ((fun r : Int × ox_H => ((.inl (some (.inl r.1)), r.2) : ox_O)) r)) (F_Mod_renumber σ) (ox_zz ox_ms (n + 8) 131 tl [.inr (.inr (10, 0, 0))] σ) := by
  unfold F_Mod_renumber
  refine ox_R_of (Y := ox_ev m_Mod_renumber (ox_zz ox_ms (n + 7)) 0 0 tl [.inr (.inr (10, 0, 0)), ox_d, ox_d, ox_d, ox_d] [] σ) rfl ?_
  refine ox_R_to 3 (Y := ox_back m_Mod_renumber 2 1 [] ((ox_zz ox_ms (n + 7)) 43 tl [.inr (.inr (10, 0, 0)), .inl (0)] σ) (fun pc9 x9 st9 σ9 => ox_ev m_Mod_renumber (ox_zz ox_ms (n + 7)) pc9 0 tl (ox_kl (m_Mod_renumber.2.2.1 pc9) (ox_xl x9 [.inr (.inr (10, 0, 0)), ox_d, ox_d, ox_d, ox_d])) st9 σ9)) rfl ?_
  refine ox_R_call (fc := (fun r : Int × ox_H => ((.inl (some (.inl r.1)), r.2) : ox_O))) (L_Mod_holds 0 σ (n + 6) tl) (fun r5 => ?_)
  refine ox_R_of (Y := ox_ev m_Mod_renumber (ox_zz ox_ms (n + 7)) 5 0 tl [.inr (.inr (10, 0, 0)), ox_d, ox_d, ox_d, ox_d] [.inl (r5.1)] r5.2) rfl ?_
  refine ox_R_to 5 (Y := ox_ev m_Mod_renumber (ox_zz ox_ms (n + 7)) 10 0 tl [.inr (.inr (10, 0, 0)), .inl (0), .inl (0), ox_d, ox_d] [] r5.2) rfl ?_
  exact (L_Mod_renumber_10 0 0 r5.2 n tl)
def F_Mod_out  (a1 : Int) (σ : ox_H) : Option (ox_H) := if 0 ≤ (σ 10 0 45 0) ∧ (σ 10 0 45 0).toNat < 100 then (if 0 ≤ (ox_w ((ox_w (120 * (σ 10 0 45 0))) + (σ 10 0 44 ((σ 10 0 45 0).toNat)))) ∧ (ox_w ((ox_w (120 * (σ 10 0 45 0))) + (σ 10 0 44 ((σ 10 0 45 0).toNat)))).toNat < 12000 then (if 0 ≤ (σ 10 0 45 0) ∧ (σ 10 0 45 0).toNat < 100 then (if 0 ≤ (σ 10 0 45 0) ∧ (σ 10 0 45 0).toNat < 100 then (some (ox_up (ox_up σ 10 0 43 ((ox_w ((ox_w (120 * (σ 10 0 45 0))) + (σ 10 0 44 ((σ 10 0 45 0).toNat)))).toNat) a1) 10 0 44 ((σ 10 0 45 0).toNat) (ox_w ((σ 10 0 44 ((σ 10 0 45 0).toNat)) + 1)))) else none) else none) else none) else none
theorem L_Mod_out  (a1 : Int) (σ : ox_H) (n tl : Nat) : ox_R (fun r => some ((fun r : ox_H => ((.inl none, r) : ox_O)) r)) (F_Mod_out a1 σ) (ox_zz ox_ms (n + 1) 132 tl [.inr (.inr (10, 0, 0)), .inl (a1)] σ) := by
  unfold F_Mod_out
  refine ox_R_of (Y := ox_ev m_Mod_out (ox_zz ox_ms (n + 0)) 0 0 tl [.inr (.inr (10, 0, 0)), .inl (a1)] [] σ) rfl ?_
  refine ox_R_to 11 (Y := if 0 ≤ (σ 10 0 45 0) ∧ (σ 10 0 45 0).toNat < 100 then ox_ev m_Mod_out (ox_zz ox_ms (n + 0)) 20 0 tl [.inr (.inr (10, 0, 0)), .inl (a1)] [.inl (σ 10 0 44 ((σ 10 0 45 0).toNat)), .inl (ox_w (120 * (σ 10 0 45 0))), .inr (.inr (110, 0, 43))] σ else none) rfl ?_
  refine ox_R_if (fun _ => ?_) (fun _ => ox_R_none)
  refine ox_R_to 3 (Y := if 0 ≤ (ox_w ((ox_w (120 * (σ 10 0 45 0))) + (σ 10 0 44 ((σ 10 0 45 0).toNat)))) ∧ (ox_w ((ox_w (120 * (σ 10 0 45 0))) + (σ 10 0 44 ((σ 10 0 45 0).toNat)))).toNat < 12000 then ox_ev m_Mod_out (ox_zz ox_ms (n + 0)) 23 0 tl [.inr (.inr (10, 0, 0)), .inl (a1)] [] (ox_up σ 10 0 43 ((ox_w ((ox_w (120 * (σ 10 0 45 0))) + (σ 10 0 44 ((σ 10 0 45 0).toNat)))).toNat) a1) else none) rfl ?_
  refine ox_R_if (fun _ => ?_) (fun _ => ox_R_none)
  refine ox_R_to 6 (Y := if 0 ≤ (σ 10 0 45 0) ∧ (σ 10 0 45 0).toNat < 100 then ox_ev m_Mod_out (ox_zz ox_ms (n + 0)) 33 0 tl [.inr (.inr (10, 0, 0)), .inl (a1)] [.inl (σ 10 0 44 ((σ 10 0 45 0).toNat)), .inl (σ 10 0 45 0), .inr (.inr (110, 0, 44))] (ox_up σ 10 0 43 ((ox_w ((ox_w (120 * (σ 10 0 45 0))) + (σ 10 0 44 ((σ 10 0 45 0).toNat)))).toNat) a1) else none) rfl ?_
  refine ox_R_if (fun _ => ?_) (fun _ => ox_R_none)
  refine ox_R_to 3 (Y := if 0 ≤ (σ 10 0 45 0) ∧ (σ 10 0 45 0).toNat < 100 then ox_ev m_Mod_out (ox_zz ox_ms (n + 0)) 36 0 tl [.inr (.inr (10, 0, 0)), .inl (a1)] [] (ox_up (ox_up σ 10 0 43 ((ox_w ((ox_w (120 * (σ 10 0 45 0))) + (σ 10 0 44 ((σ 10 0 45 0).toNat)))).toNat) a1) 10 0 44 ((σ 10 0 45 0).toNat) (ox_w ((σ 10 0 44 ((σ 10 0 45 0).toNat)) + 1))) else none) rfl ?_
  refine ox_R_if (fun _ => ?_) (fun _ => ox_R_none)
  refine ox_R_to 1 (Y := some (.inl none, (ox_up (ox_up σ 10 0 43 ((ox_w ((ox_w (120 * (σ 10 0 45 0))) + (σ 10 0 44 ((σ 10 0 45 0).toNat)))).toNat) a1) 10 0 44 ((σ 10 0 45 0).toNat) (ox_w ((σ 10 0 44 ((σ 10 0 45 0).toNat)) + 1))))) rfl ?_
  exact ox_R_ret rfl
def J_Mod_outNumber_68  (σ : ox_H) : Option ox_H := some σ
theorem L_Mod_outNumber_68  (σ : ox_H) (n tl : Nat) : ox_R (fun r => some ((fun r : ox_H => ((.inl none, r) : ox_O)) r)) (J_Mod_outNumber_68 σ) (ox_ev m_Mod_outNumber (ox_zz ox_ms (n + 1)) 68 0 tl [ox_d, ox_d, ox_d, ox_d] [] σ) := by
  unfold J_Mod_outNumber_68
  refine ox_R_to 1 (Y := some (.inl none, σ)) rfl ?_
  exact ox_R_ret rfl
def B_Mod_outNumber_43  (v2 : Int) : (Int × ox_H) → Option (((Int × ox_H) ⊕ ox_H)) := fun (v3, σ) => if v3 ≤ 0 then ((J_Mod_outNumber_68 σ).map .inr) else (if v3 = 0 then none else ((F_Mod_out (ox_w (48 + (Int.tmod (ox_w (Int.tdiv v2 v3)) 10))) σ).bind fun r1 => (some (.inl (ox_w (Int.tdiv v3 10), r1)))))
def J_Mod_outNumber_43  (v2 : Int) (v3 : Int) (σ : ox_H) : Option (ox_H) := ox_lp (B_Mod_outNumber_43 v2) ox_fu (v3, σ)
theorem L_Mod_outNumber_43  (v2 : Int) (v3 : Int) (σ : ox_H) (n tl : Nat) : ox_R (fun r => some ((fun r : ox_H => ((.inl none, r) : ox_O)) r)) (J_Mod_outNumber_43 v2 v3 σ) (ox_ev m_Mod_outNumber (ox_zz ox_ms (n + 1)) 43 0 tl [.inr (.inr (10, 0, 0)), ox_d, .inl (v2), .inl (v3)] [] σ) := by
  unfold J_Mod_outNumber_43
  refine ox_R_lp (ψ := (fun (s : Int × ox_H) => match s with | (v3, σ) => ox_ev m_Mod_outNumber (ox_zz ox_ms (n + 1)) 43 0 tl [.inr (.inr (10, 0, 0)), ox_d, .inl (v2), .inl (v3)] [] σ)) ?_ ox_fu (v3, σ)
  intro s
  obtain ⟨v3, σ⟩ := s
  unfold B_Mod_outNumber_43
  refine ox_R_to 2 (Y := if v3 ≤ 0 then ox_ev m_Mod_outNumber (ox_zz ox_ms (n + 1)) 68 0 tl [ox_d, ox_d, ox_d, ox_d] [] σ else ox_ev m_Mod_outNumber (ox_zz ox_ms (n + 1)) 47 0 tl [.inr (.inr (10, 0, 0)), ox_d, .inl (v2), .inl (v3)] [] σ) rfl ?_
  refine ox_R_if (fun _ => ?_) (fun _ => ?_)
  · exact ox_R_map ((L_Mod_outNumber_68 σ n tl))
  · refine ox_R_to 5 (Y := if v3 = 0 then none else ox_ev m_Mod_outNumber (ox_zz ox_ms (n + 1)) 53 0 tl [.inr (.inr (10, 0, 0)), ox_d, .inl (v2), .inl (v3)] [.inl (ox_w (Int.tdiv v2 v3)), .inl (48), .inr (.inr (10, 0, 0))] σ) rfl ?_
    refine ox_R_if (fun _ => ox_R_none) (fun _ => ?_)
    refine ox_R_to 4 (Y := ox_back m_Mod_outNumber 57 0 [] ((ox_zz ox_ms (n + 1)) 132 tl [.inr (.inr (10, 0, 0)), .inl (ox_w (48 + (Int.tmod (ox_w (Int.tdiv v2 v3)) 10)))] σ) (fun pc9 x9 st9 σ9 => ox_ev m_Mod_outNumber (ox_zz ox_ms (n + 1)) pc9 0 tl (ox_kl (m_Mod_outNumber.2.2.1 pc9) (ox_xl x9 [.inr (.inr (10, 0, 0)), ox_d, .inl (v2), .inl (v3)])) st9 σ9)) rfl ?_
    refine ox_R_call (fc := (fun r : ox_H => ((.inl none, r) : ox_O))) (L_Mod_out (ox_w (48 + (Int.tmod (ox_w (Int.tdiv v2 v3)) 10))) σ (n + 0) tl) (fun r1 => ?_)
    refine ox_R_of (Y := ox_ev m_Mod_outNumber (ox_zz ox_ms (n + 1)) 60 0 tl [.inr (.inr (10, 0, 0)), ox_d, .inl (v2), .inl (v3)] [] r1) rfl ?_
    refine ox_R_to 5 (Y := ox_ev m_Mod_outNumber (ox_zz ox_ms (n + 1)) 43 0 tl [.inr (.inr (10, 0, 0)), ox_d, .inl (v2), .inl (ox_w (Int.tdiv v3 10))] [] r1) rfl ?_
    exact ox_R_ret rfl
def B_Mod_outNumber_25  (v2 : Int) (σ : ox_H) : (Int) → Option (((Int) ⊕ ox_H)) := fun v3 => if v3 ≤ 1 then ((J_Mod_outNumber_43 v2 v3 σ).map .inr) else (if v3 ≤ v2 then ((J_Mod_outNumber_43 v2 v3 σ).map .inr) else (some (.inl (ox_w (Int.tdiv v3 10)))))
def J_Mod_outNumber_25  (v2 : Int) (v3 : Int) (σ : ox_H) : Option (ox_H) := ox_lp (B_Mod_outNumber_25 v2 σ) ox_fu v3
theorem L_Mod_outNumber_25  (v2 : Int) (v3 : Int) (σ : ox_H) (n tl : Nat) : ox_R (fun r => some ((fun r : ox_H => ((.inl none, r) : ox_O)) r)) (J_Mod_outNumber_25 v2 v3 σ) (ox_ev m_Mod_outNumber (ox_zz ox_ms (n + 1)) 25 0 tl [.inr (.inr (10, 0, 0)), ox_d, .inl (v2), .inl (v3)] [] σ) := by
  unfold J_Mod_outNumber_25
  refine ox_R_lp (ψ := (fun (v3 : Int) => ox_ev m_Mod_outNumber (ox_zz ox_ms (n + 1)) 25 0 tl [.inr (.inr (10, 0, 0)), ox_d, .inl (v2), .inl (v3)] [] σ)) ?_ ox_fu v3
  intro s
  revert s; intro v3
  unfold B_Mod_outNumber_25
  refine ox_R_to 3 (Y := if v3 ≤ 1 then ox_ev m_Mod_outNumber (ox_zz ox_ms (n + 1)) 43 0 tl [.inr (.inr (10, 0, 0)), ox_d, .inl (v2), .inl (v3)] [] σ else ox_ev m_Mod_outNumber (ox_zz ox_ms (n + 1)) 30 0 tl [.inr (.inr (10, 0, 0)), ox_d, .inl (v2), .inl (v3)] [] σ) rfl ?_
  refine ox_R_if (fun _ => ?_) (fun _ => ?_)
  · exact ox_R_map ((L_Mod_outNumber_43 v2 v3 σ n tl))
  · refine ox_R_to 3 (Y := if v3 ≤ v2 then ox_ev m_Mod_outNumber (ox_zz ox_ms (n + 1)) 43 0 tl [.inr (.inr (10, 0, 0)), ox_d, .inl (v2), .inl (v3)] [] σ else ox_ev m_Mod_outNumber (ox_zz ox_ms (n + 1)) 35 0 tl [.inr (.inr (10, 0, 0)), ox_d, .inl (v2), .inl (v3)] [] σ) rfl ?_
    refine ox_R_if (fun _ => ?_) (fun _ => ?_)
    · exact ox_R_map ((L_Mod_outNumber_43 v2 v3 σ n tl))
    · refine ox_R_to 5 (Y := ox_ev m_Mod_outNumber (ox_zz ox_ms (n + 1)) 25 0 tl [.inr (.inr (10, 0, 0)), ox_d, .inl (v2), .inl (ox_w (Int.tdiv v3 10))] [] σ) rfl ?_
      exact ox_R_ret rfl
def J_Mod_outNumber_21  (v2 : Int) (σ : ox_H) : Option ox_H := (J_Mod_outNumber_25 v2 (ox_c 100000 0) σ)
theorem L_Mod_outNumber_21  (v2 : Int) (σ : ox_H) (n tl : Nat) : ox_R (fun r => some ((fun r : ox_H => ((.inl none, r) : ox_O)) r)) (J_Mod_outNumber_21 v2 σ) (ox_ev m_Mod_outNumber (ox_zz ox_ms (n + 1)) 21 0 tl [.inr (.inr (10, 0, 0)), ox_d, .inl (v2), ox_d] [] σ) := by
  unfold J_Mod_outNumber_21
  refine ox_R_to 2 (Y := ox_ev m_Mod_outNumber (ox_zz ox_ms (n + 1)) 25 0 tl [.inr (.inr (10, 0, 0)), ox_d, .inl (v2), .inl (ox_c 100000 0)] [] σ) rfl ?_
  exact (L_Mod_outNumber_25 v2 (ox_c 100000 0) σ n tl)
def J_Mod_outNumber_10  (v1 : Int) (s0 : Int) (σ : ox_H) : Option ox_H := if 0 ≤ v1 then (J_Mod_outNumber_21 s0 σ) else ((F_Mod_out 45 σ).bind fun r2 => (J_Mod_outNumber_21 s0 r2))
theorem L_Mod_outNumber_10  (v1 : Int) (s0 : Int) (σ : ox_H) (n tl : Nat) : ox_R (fun r => some ((fun r : ox_H => ((.inl none, r) : ox_O)) r)) (J_Mod_outNumber_10 v1 s0 σ) (ox_ev m_Mod_outNumber (ox_zz ox_ms (n + 1)) 10 0 tl [.inr (.inr (10, 0, 0)), .inl (v1), ox_d, ox_d] [.inl (s0)] σ) := by
  unfold J_Mod_outNumber_10
  refine ox_R_to 3 (Y := if 0 ≤ v1 then ox_ev m_Mod_outNumber (ox_zz ox_ms (n + 1)) 21 0 tl [.inr (.inr (10, 0, 0)), ox_d, .inl (s0), ox_d] [] σ else ox_ev m_Mod_outNumber (ox_zz ox_ms (n + 1)) 15 0 tl [.inr (.inr (10, 0, 0)), .inl (v1), .inl (s0), ox_d] [] σ) rfl ?_
  refine ox_R_if (fun _ => ?_) (fun _ => ?_)
  · exact (L_Mod_outNumber_21 s0 σ n tl)
  · refine ox_R_to 3 (Y := ox_back m_Mod_outNumber 18 0 [] ((ox_zz ox_ms (n + 1)) 132 tl [.inr (.inr (10, 0, 0)), .inl (45)] σ) (fun pc9 x9 st9 σ9 => ox_ev m_Mod_outNumber (ox_zz ox_ms (n + 1)) pc9 0 tl (ox_kl (m_Mod_outNumber.2.2.1 pc9) (ox_xl x9 [.inr (.inr (10, 0, 0)), .inl (v1), .inl (s0), ox_d])) st9 σ9)) rfl ?_
    refine ox_R_call (fc := (fun r : ox_H => ((.inl none, r) : ox_O))) (L_Mod_out 45 σ (n + 0) tl) (fun r2 => ?_)
    refine ox_R_of (Y := ox_ev m_Mod_outNumber (ox_zz ox_ms (n + 1)) 21 0 tl [.inr (.inr (10, 0, 0)), ox_d, .inl (s0), ox_d] [] r2) rfl ?_
    exact (L_Mod_outNumber_21 s0 r2 n tl)
def F_Mod_outNumber  (a1 : Int) (σ : ox_H) : Option (ox_H) := if 0 ≤ a1 then (J_Mod_outNumber_10 a1 a1 σ) else (J_Mod_outNumber_10 a1 (ox_w (-a1)) σ)
theorem L_Mod_outNumber  (a1 : Int) (σ : ox_H) (n tl : Nat) : ox_R (fun r => some ((fun r : ox_H => ((.inl none, r) : ox_O)) r)) (F_Mod_outNumber a1 σ) (ox_zz ox_ms (n + 2) 133 tl [.inr (.inr (10, 0, 0)), .inl (a1)] σ) := by
  unfold F_Mod_outNumber
  refine ox_R_of (Y := ox_ev m_Mod_outNumber (ox_zz ox_ms (n + 1)) 0 0 tl [.inr (.inr (10, 0, 0)), .inl (a1), ox_d, ox_d] [] σ) rfl ?_
  refine ox_R_to 2 (Y := if 0 ≤ a1 then ox_ev m_Mod_outNumber (ox_zz ox_ms (n + 1)) 9 0 tl [.inr (.inr (10, 0, 0)), .inl (a1), ox_d, ox_d] [] σ else ox_ev m_Mod_outNumber (ox_zz ox_ms (n + 1)) 4 0 tl [.inr (.inr (10, 0, 0)), .inl (a1), ox_d, ox_d] [] σ) rfl ?_
  refine ox_R_if (fun _ => ?_) (fun _ => ?_)
  · refine ox_R_to 1 (Y := ox_ev m_Mod_outNumber (ox_zz ox_ms (n + 1)) 10 0 tl [.inr (.inr (10, 0, 0)), .inl (a1), ox_d, ox_d] [.inl (a1)] σ) rfl ?_
    exact (L_Mod_outNumber_10 a1 a1 σ n tl)
  · refine ox_R_to 3 (Y := ox_ev m_Mod_outNumber (ox_zz ox_ms (n + 1)) 10 0 tl [.inr (.inr (10, 0, 0)), .inl (a1), ox_d, ox_d] [.inl (ox_w (-a1))] σ) rfl ?_
    exact (L_Mod_outNumber_10 a1 (ox_w (-a1)) σ n tl)
def J_Mod_show_202  (σ : ox_H) : Option ox_H := some (ox_up σ 10 0 45 0 (ox_w ((σ 10 0 45 0) + 1)))
theorem L_Mod_show_202  (σ : ox_H) (n tl : Nat) : ox_R (fun r => some ((fun r : ox_H => ((.inl none, r) : ox_O)) r)) (J_Mod_show_202 σ) (ox_ev m_Mod_show (ox_zz ox_ms (n + 1211)) 202 0 tl [.inr (.inr (10, 0, 0)), ox_d, ox_d, ox_d, ox_d, ox_d] [] σ) := by
  unfold J_Mod_show_202
  refine ox_R_to 7 (Y := some (.inl none, (ox_up σ 10 0 45 0 (ox_w ((σ 10 0 45 0) + 1))))) rfl ?_
  exact ox_R_ret rfl
def J_Mod_show_102  (σ : ox_H) : Option ox_H := (J_Mod_show_202 σ)
theorem L_Mod_show_102  (σ : ox_H) (n tl : Nat) : ox_R (fun r => some ((fun r : ox_H => ((.inl none, r) : ox_O)) r)) (J_Mod_show_102 σ) (ox_ev m_Mod_show (ox_zz ox_ms (n + 1211)) 102 0 tl [.inr (.inr (10, 0, 0)), ox_d, ox_d, ox_d, ox_d, ox_d] [] σ) := by
  unfold J_Mod_show_102
  refine ox_R_to 1 (Y := ox_ev m_Mod_show (ox_zz ox_ms (n + 1211)) 202 0 tl [.inr (.inr (10, 0, 0)), ox_d, ox_d, ox_d, ox_d, ox_d] [] σ) rfl ?_
  exact (L_Mod_show_202 σ n tl)
def B_Mod_show_76  (v1 : Int) : (Int × ox_H) → Option (((Int × ox_H) ⊕ ox_H)) := fun (v5, σ) => if (σ 10 0 15 0) ≤ v5 then ((J_Mod_show_102 σ).map .inr) else ((F_Mod_look v1 v5 σ).bind fun r1 => ((F_Mod_out r1 σ).bind fun r2 => (some (.inl (ox_w (v5 + 1), r2)))))
def J_Mod_show_76  (v1 : Int) (v5 : Int) (σ : ox_H) : Option (ox_H) := ox_lp (B_Mod_show_76 v1) ox_fu (v5, σ)
theorem L_Mod_show_76  (v1 : Int) (v5 : Int) (σ : ox_H) (n tl : Nat) : ox_R (fun r => some ((fun r : ox_H => ((.inl none, r) : ox_O)) r)) (J_Mod_show_76 v1 v5 σ) (ox_ev m_Mod_show (ox_zz ox_ms (n + 1211)) 76 0 tl [.inr (.inr (10, 0, 0)), .inl (v1), ox_d, ox_d, ox_d, .inl (v5)] [] σ) := by
  unfold J_Mod_show_76
  refine ox_R_lp (ψ := (fun (s : Int × ox_H) => match s with | (v5, σ) => ox_ev m_Mod_show (ox_zz ox_ms (n + 1211)) 76 0 tl [.inr (.inr (10, 0, 0)), .inl (v1), ox_d, ox_d, ox_d, .inl (v5)] [] σ)) ?_ ox_fu (v5, σ)
  intro s
  obtain ⟨v5, σ⟩ := s
  unfold B_Mod_show_76
  refine ox_R_to 4 (Y := if (σ 10 0 15 0) ≤ v5 then ox_ev m_Mod_show (ox_zz ox_ms (n + 1211)) 102 0 tl [.inr (.inr (10, 0, 0)), ox_d, ox_d, ox_d, ox_d, ox_d] [] σ else ox_ev m_Mod_show (ox_zz ox_ms (n + 1211)) 85 0 tl [.inr (.inr (10, 0, 0)), .inl (v1), ox_d, ox_d, ox_d, .inl (v5)] [] σ) rfl ?_
  refine ox_R_if (fun _ => ?_) (fun _ => ?_)
  · exact ox_R_map ((L_Mod_show_102 σ n tl))
  · refine ox_R_to 5 (Y := ox_back m_Mod_show 90 1 [.inr (.inr (10, 0, 0))] ((ox_zz ox_ms (n + 1211)) 46 tl [.inr (.inr (10, 0, 0)), .inl (v1), .inl (v5)] σ) (fun pc9 x9 st9 σ9 => ox_ev m_Mod_show (ox_zz ox_ms (n + 1211)) pc9 0 tl (ox_kl (m_Mod_show.2.2.1 pc9) (ox_xl x9 [.inr (.inr (10, 0, 0)), .inl (v1), ox_d, ox_d, ox_d, .inl (v5)])) st9 σ9)) rfl ?_
    refine ox_R_call (fc := (fun r : Int => ((.inl (some (.inl r)), σ) : ox_O))) (L_Mod_look v1 v5 σ (n + 1210) tl) (fun r1 => ?_)
    refine ox_R_of (Y := ox_ev m_Mod_show (ox_zz ox_ms (n + 1211)) 93 0 tl [.inr (.inr (10, 0, 0)), .inl (v1), ox_d, ox_d, ox_d, .inl (v5)] [.inl (r1), .inr (.inr (10, 0, 0))] σ) rfl ?_
    refine ox_R_to 1 (Y := ox_back m_Mod_show 93 0 [] ((ox_zz ox_ms (n + 1211)) 132 tl [.inr (.inr (10, 0, 0)), .inl (r1)] σ) (fun pc9 x9 st9 σ9 => ox_ev m_Mod_show (ox_zz ox_ms (n + 1211)) pc9 0 tl (ox_kl (m_Mod_show.2.2.1 pc9) (ox_xl x9 [.inr (.inr (10, 0, 0)), .inl (v1), ox_d, ox_d, ox_d, .inl (v5)])) st9 σ9)) rfl ?_
    refine ox_R_call (fc := (fun r : ox_H => ((.inl none, r) : ox_O))) (L_Mod_out r1 σ (n + 1210) tl) (fun r2 => ?_)
    refine ox_R_of (Y := ox_ev m_Mod_show (ox_zz ox_ms (n + 1211)) 96 0 tl [.inr (.inr (10, 0, 0)), .inl (v1), ox_d, ox_d, ox_d, .inl (v5)] [] r2) rfl ?_
    refine ox_R_to 2 (Y := ox_ev m_Mod_show (ox_zz ox_ms (n + 1211)) 76 0 tl [.inr (.inr (10, 0, 0)), .inl (v1), ox_d, ox_d, ox_d, .inl (ox_w (v5 + 1))] [] r2) rfl ?_
    exact ox_R_ret rfl
def J_Mod_show_64  (v1 : Int) (σ : ox_H) : Option ox_H := (F_Mod_out 32 σ).bind fun r3 => (J_Mod_show_76 v1 (r3 10 0 14 0) r3)
theorem L_Mod_show_64  (v1 : Int) (σ : ox_H) (n tl : Nat) : ox_R (fun r => some ((fun r : ox_H => ((.inl none, r) : ox_O)) r)) (J_Mod_show_64 v1 σ) (ox_ev m_Mod_show (ox_zz ox_ms (n + 1211)) 64 0 tl [.inr (.inr (10, 0, 0)), .inl (v1), ox_d, ox_d, ox_d, ox_d] [] σ) := by
  unfold J_Mod_show_64
  refine ox_R_to 3 (Y := ox_back m_Mod_show 67 0 [] ((ox_zz ox_ms (n + 1211)) 132 tl [.inr (.inr (10, 0, 0)), .inl (32)] σ) (fun pc9 x9 st9 σ9 => ox_ev m_Mod_show (ox_zz ox_ms (n + 1211)) pc9 0 tl (ox_kl (m_Mod_show.2.2.1 pc9) (ox_xl x9 [.inr (.inr (10, 0, 0)), .inl (v1), ox_d, ox_d, ox_d, ox_d])) st9 σ9)) rfl ?_
  refine ox_R_call (fc := (fun r : ox_H => ((.inl none, r) : ox_O))) (L_Mod_out 32 σ (n + 1210) tl) (fun r3 => ?_)
  refine ox_R_of (Y := ox_ev m_Mod_show (ox_zz ox_ms (n + 1211)) 70 0 tl [.inr (.inr (10, 0, 0)), .inl (v1), ox_d, ox_d, ox_d, ox_d] [] r3) rfl ?_
  refine ox_R_to 3 (Y := ox_ev m_Mod_show (ox_zz ox_ms (n + 1211)) 76 0 tl [.inr (.inr (10, 0, 0)), .inl (v1), ox_d, ox_d, ox_d, .inl (r3 10 0 14 0)] [] r3) rfl ?_
  exact (L_Mod_show_76 v1 (r3 10 0 14 0) r3 n tl)
def B_Mod_show_45  (v1 : Int) (v4 : Int) : (Int × ox_H) → Option (((Int × ox_H) ⊕ ox_H)) := fun (v5, σ) => if v4 ≤ v5 then ((J_Mod_show_64 v1 σ).map .inr) else ((F_Mod_out 42 σ).bind fun r4 => (some (.inl (ox_w (v5 + 1), r4))))
def J_Mod_show_45  (v1 : Int) (v4 : Int) (v5 : Int) (σ : ox_H) : Option (ox_H) := ox_lp (B_Mod_show_45 v1 v4) ox_fu (v5, σ)
theorem L_Mod_show_45  (v1 : Int) (v4 : Int) (v5 : Int) (σ : ox_H) (n tl : Nat) : ox_R (fun r => some ((fun r : ox_H => ((.inl none, r) : ox_O)) r)) (J_Mod_show_45 v1 v4 v5 σ) (ox_ev m_Mod_show (ox_zz ox_ms (n + 1211)) 45 0 tl [.inr (.inr (10, 0, 0)), .inl (v1), ox_d, ox_d, .inl (v4), .inl (v5)] [] σ) := by
  unfold J_Mod_show_45
  refine ox_R_lp (ψ := (fun (s : Int × ox_H) => match s with | (v5, σ) => ox_ev m_Mod_show (ox_zz ox_ms (n + 1211)) 45 0 tl [.inr (.inr (10, 0, 0)), .inl (v1), ox_d, ox_d, .inl (v4), .inl (v5)] [] σ)) ?_ ox_fu (v5, σ)
  intro s
  obtain ⟨v5, σ⟩ := s
  unfold B_Mod_show_45
  refine ox_R_to 3 (Y := if v4 ≤ v5 then ox_ev m_Mod_show (ox_zz ox_ms (n + 1211)) 64 0 tl [.inr (.inr (10, 0, 0)), .inl (v1), ox_d, ox_d, ox_d, ox_d] [] σ else ox_ev m_Mod_show (ox_zz ox_ms (n + 1211)) 52 0 tl [.inr (.inr (10, 0, 0)), .inl (v1), ox_d, ox_d, .inl (v4), .inl (v5)] [] σ) rfl ?_
  refine ox_R_if (fun _ => ?_) (fun _ => ?_)
  · exact ox_R_map ((L_Mod_show_64 v1 σ n tl))
  · refine ox_R_to 3 (Y := ox_back m_Mod_show 55 0 [] ((ox_zz ox_ms (n + 1211)) 132 tl [.inr (.inr (10, 0, 0)), .inl (42)] σ) (fun pc9 x9 st9 σ9 => ox_ev m_Mod_show (ox_zz ox_ms (n + 1211)) pc9 0 tl (ox_kl (m_Mod_show.2.2.1 pc9) (ox_xl x9 [.inr (.inr (10, 0, 0)), .inl (v1), ox_d, ox_d, .inl (v4), .inl (v5)])) st9 σ9)) rfl ?_
    refine ox_R_call (fc := (fun r : ox_H => ((.inl none, r) : ox_O))) (L_Mod_out 42 σ (n + 1210) tl) (fun r4 => ?_)
    refine ox_R_of (Y := ox_ev m_Mod_show (ox_zz ox_ms (n + 1211)) 58 0 tl [.inr (.inr (10, 0, 0)), .inl (v1), ox_d, ox_d, .inl (v4), .inl (v5)] [] r4) rfl ?_
    refine ox_R_to 2 (Y := ox_ev m_Mod_show (ox_zz ox_ms (n + 1211)) 45 0 tl [.inr (.inr (10, 0, 0)), .inl (v1), ox_d, ox_d, .inl (v4), .inl (ox_w (v5 + 1))] [] r4) rfl ?_
    exact ox_R_ret rfl
def J_Mod_show_40  (v1 : Int) (s0 : Int) (σ : ox_H) : Option ox_H := (J_Mod_show_45 v1 s0 0 σ)
theorem L_Mod_show_40  (v1 : Int) (s0 : Int) (σ : ox_H) (n tl : Nat) : ox_R (fun r => some ((fun r : ox_H => ((.inl none, r) : ox_O)) r)) (J_Mod_show_40 v1 s0 σ) (ox_ev m_Mod_show (ox_zz ox_ms (n + 1211)) 40 0 tl [.inr (.inr (10, 0, 0)), .inl (v1), ox_d, ox_d, ox_d, ox_d] [.inl (s0)] σ) := by
  unfold J_Mod_show_40
  refine ox_R_to 3 (Y := ox_ev m_Mod_show (ox_zz ox_ms (n + 1211)) 45 0 tl [.inr (.inr (10, 0, 0)), .inl (v1), ox_d, ox_d, .inl (s0), .inl (0)] [] σ) rfl ?_
  exact (L_Mod_show_45 v1 s0 0 σ n tl)
def J_Mod_show_142  (σ : ox_H) : Option ox_H := (J_Mod_show_202 σ)
theorem L_Mod_show_142  (σ : ox_H) (n tl : Nat) : ox_R (fun r => some ((fun r : ox_H => ((.inl none, r) : ox_O)) r)) (J_Mod_show_142 σ) (ox_ev m_Mod_show (ox_zz ox_ms (n + 1211)) 142 0 tl [.inr (.inr (10, 0, 0)), ox_d, ox_d, ox_d, ox_d, ox_d] [] σ) := by
  unfold J_Mod_show_142
  refine ox_R_to 1 (Y := ox_ev m_Mod_show (ox_zz ox_ms (n + 1211)) 202 0 tl [.inr (.inr (10, 0, 0)), ox_d, ox_d, ox_d, ox_d, ox_d] [] σ) rfl ?_
  exact (L_Mod_show_202 σ n tl)
def B_Mod_show_114  (v1 : Int) : (Int × ox_H) → Option (((Int × ox_H) ⊕ ox_H)) := fun (v4, σ) => if 0 ≤ v1 ∧ v1.toNat < 60 then (if (σ 10 0 1 v1.toNat) ≤ v4 then ((J_Mod_show_142 σ).map .inr) else ((F_Mod_look v1 v4 σ).bind fun r5 => ((F_Mod_out r5 σ).bind fun r6 => (some (.inl (ox_w (v4 + 1), r6)))))) else none
def J_Mod_show_114  (v1 : Int) (v4 : Int) (σ : ox_H) : Option (ox_H) := ox_lp (B_Mod_show_114 v1) ox_fu (v4, σ)
theorem L_Mod_show_114  (v1 : Int) (v4 : Int) (σ : ox_H) (n tl : Nat) : ox_R (fun r => some ((fun r : ox_H => ((.inl none, r) : ox_O)) r)) (J_Mod_show_114 v1 v4 σ) (ox_ev m_Mod_show (ox_zz ox_ms (n + 1211)) 114 0 tl [.inr (.inr (10, 0, 0)), .inl (v1), ox_d, ox_d, .inl (v4), ox_d] [] σ) := by
  unfold J_Mod_show_114
  refine ox_R_lp (ψ := (fun (s : Int × ox_H) => match s with | (v4, σ) => ox_ev m_Mod_show (ox_zz ox_ms (n + 1211)) 114 0 tl [.inr (.inr (10, 0, 0)), .inl (v1), ox_d, ox_d, .inl (v4), ox_d] [] σ)) ?_ ox_fu (v4, σ)
  intro s
  obtain ⟨v4, σ⟩ := s
  unfold B_Mod_show_114
  refine ox_R_to 5 (Y := if 0 ≤ v1 ∧ v1.toNat < 60 then ox_ev m_Mod_show (ox_zz ox_ms (n + 1211)) 122 0 tl [.inr (.inr (10, 0, 0)), .inl (v1), ox_d, ox_d, .inl (v4), ox_d] [.inl (σ 10 0 1 v1.toNat), .inl (v4)] σ else none) rfl ?_
  refine ox_R_if (fun _ => ?_) (fun _ => ox_R_none)
  refine ox_R_to 1 (Y := if (σ 10 0 1 v1.toNat) ≤ v4 then ox_ev m_Mod_show (ox_zz ox_ms (n + 1211)) 142 0 tl [.inr (.inr (10, 0, 0)), ox_d, ox_d, ox_d, ox_d, ox_d] [] σ else ox_ev m_Mod_show (ox_zz ox_ms (n + 1211)) 125 0 tl [.inr (.inr (10, 0, 0)), .inl (v1), ox_d, ox_d, .inl (v4), ox_d] [] σ) rfl ?_
  refine ox_R_if (fun _ => ?_) (fun _ => ?_)
  · exact ox_R_map ((L_Mod_show_142 σ n tl))
  · refine ox_R_to 5 (Y := ox_back m_Mod_show 130 1 [.inr (.inr (10, 0, 0))] ((ox_zz ox_ms (n + 1211)) 46 tl [.inr (.inr (10, 0, 0)), .inl (v1), .inl (v4)] σ) (fun pc9 x9 st9 σ9 => ox_ev m_Mod_show (ox_zz ox_ms (n + 1211)) pc9 0 tl (ox_kl (m_Mod_show.2.2.1 pc9) (ox_xl x9 [.inr (.inr (10, 0, 0)), .inl (v1), ox_d, ox_d, .inl (v4), ox_d])) st9 σ9)) rfl ?_
    refine ox_R_call (fc := (fun r : Int => ((.inl (some (.inl r)), σ) : ox_O))) (L_Mod_look v1 v4 σ (n + 1210) tl) (fun r5 => ?_)
    refine ox_R_of (Y := ox_ev m_Mod_show (ox_zz ox_ms (n + 1211)) 133 0 tl [.inr (.inr (10, 0, 0)), .inl (v1), ox_d, ox_d, .inl (v4), ox_d] [.inl (r5), .inr (.inr (10, 0, 0))] σ) rfl ?_
    refine ox_R_to 1 (Y := ox_back m_Mod_show 133 0 [] ((ox_zz ox_ms (n + 1211)) 132 tl [.inr (.inr (10, 0, 0)), .inl (r5)] σ) (fun pc9 x9 st9 σ9 => ox_ev m_Mod_show (ox_zz ox_ms (n + 1211)) pc9 0 tl (ox_kl (m_Mod_show.2.2.1 pc9) (ox_xl x9 [.inr (.inr (10, 0, 0)), .inl (v1), ox_d, ox_d, .inl (v4), ox_d])) st9 σ9)) rfl ?_
    refine ox_R_call (fc := (fun r : ox_H => ((.inl none, r) : ox_O))) (L_Mod_out r5 σ (n + 1210) tl) (fun r6 => ?_)
    refine ox_R_of (Y := ox_ev m_Mod_show (ox_zz ox_ms (n + 1211)) 136 0 tl [.inr (.inr (10, 0, 0)), .inl (v1), ox_d, ox_d, .inl (v4), ox_d] [] r6) rfl ?_
    refine ox_R_to 2 (Y := ox_ev m_Mod_show (ox_zz ox_ms (n + 1211)) 114 0 tl [.inr (.inr (10, 0, 0)), .inl (v1), ox_d, ox_d, .inl (ox_w (v4 + 1)), ox_d] [] r6) rfl ?_
    exact ox_R_ret rfl
def J_Mod_show_196  (v1 : Int) (v4 : Int) (σ : ox_H) : Option (((Int × ox_H) ⊕ ox_H)) := some (.inl (ox_w (v4 + 1), σ))
theorem L_Mod_show_196  (v1 : Int) (v4 : Int) (σ : ox_H) (n tl : Nat) : ox_R (Sum.elim (fun (s : Int × ox_H) => match s with | (v4, σ) => ox_ev m_Mod_show (ox_zz ox_ms (n + 1211)) 148 0 tl [.inr (.inr (10, 0, 0)), .inl (v1), ox_d, ox_d, .inl (v4), ox_d] [] σ) (fun r => some ((fun r : ox_H => ((.inl none, r) : ox_O)) r))) (J_Mod_show_196 v1 v4 σ) (ox_ev m_Mod_show (ox_zz ox_ms (n + 1211)) 196 0 tl [.inr (.inr (10, 0, 0)), .inl (v1), ox_d, ox_d, .inl (v4), ox_d] [] σ) := by
  unfold J_Mod_show_196
  refine ox_R_to 2 (Y := ox_ev m_Mod_show (ox_zz ox_ms (n + 1211)) 148 0 tl [.inr (.inr (10, 0, 0)), .inl (v1), ox_d, ox_d, .inl (ox_w (v4 + 1)), ox_d] [] σ) rfl ?_
  exact ox_R_ret rfl
def B_Mod_show_148  (v1 : Int) : (Int × ox_H) → Option (((Int × ox_H) ⊕ ox_H)) := fun (v4, σ) => (F_Mod_begin v1 v4 σ).bind fun r7 => (if r7 < 0 then ((J_Mod_show_202 σ).map .inr) else ((F_Mod_out 124 σ).bind fun r8 => ((F_Mod_value (K_Mod_total 400) v1 v4 r8).bind fun r9 => (if r9.1 = (ox_c 1000000 0) then ((F_Mod_out 35 r9.2).bind fun r10 => (J_Mod_show_196 v1 v4 r10)) else ((F_Mod_outNumber r9.1 r9.2).bind fun r11 => (J_Mod_show_196 v1 v4 r11))))))
def J_Mod_show_148  (v1 : Int) (v4 : Int) (σ : ox_H) : Option (ox_H) := ox_lp (B_Mod_show_148 v1) ox_fu (v4, σ)
theorem L_Mod_show_148  (v1 : Int) (v4 : Int) (σ : ox_H) (n tl : Nat) : ox_R (fun r => some ((fun r : ox_H => ((.inl none, r) : ox_O)) r)) (J_Mod_show_148 v1 v4 σ) (ox_ev m_Mod_show (ox_zz ox_ms (n + 1211)) 148 0 tl [.inr (.inr (10, 0, 0)), .inl (v1), ox_d, ox_d, .inl (v4), ox_d] [] σ) := by
  unfold J_Mod_show_148
  refine ox_R_lp (ψ := (fun (s : Int × ox_H) => match s with | (v4, σ) => ox_ev m_Mod_show (ox_zz ox_ms (n + 1211)) 148 0 tl [.inr (.inr (10, 0, 0)), .inl (v1), ox_d, ox_d, .inl (v4), ox_d] [] σ)) ?_ ox_fu (v4, σ)
  intro s
  obtain ⟨v4, σ⟩ := s
  unfold B_Mod_show_148
  refine ox_R_to 4 (Y := ox_back m_Mod_show 152 1 [] ((ox_zz ox_ms (n + 1211)) 115 tl [.inr (.inr (10, 0, 0)), .inl (v1), .inl (v4)] σ) (fun pc9 x9 st9 σ9 => ox_ev m_Mod_show (ox_zz ox_ms (n + 1211)) pc9 0 tl (ox_kl (m_Mod_show.2.2.1 pc9) (ox_xl x9 [.inr (.inr (10, 0, 0)), .inl (v1), ox_d, ox_d, .inl (v4), ox_d])) st9 σ9)) rfl ?_
  refine ox_R_call (fc := (fun r : Int => ((.inl (some (.inl r)), σ) : ox_O))) (L_Mod_begin v1 v4 σ (n + 1209) tl) (fun r7 => ?_)
  refine ox_R_of (Y := ox_ev m_Mod_show (ox_zz ox_ms (n + 1211)) 155 0 tl [.inr (.inr (10, 0, 0)), .inl (v1), ox_d, ox_d, .inl (v4), ox_d] [.inl (r7)] σ) rfl ?_
  refine ox_R_to 1 (Y := if r7 < 0 then ox_ev m_Mod_show (ox_zz ox_ms (n + 1211)) 202 0 tl [.inr (.inr (10, 0, 0)), ox_d, ox_d, ox_d, ox_d, ox_d] [] σ else ox_ev m_Mod_show (ox_zz ox_ms (n + 1211)) 158 0 tl [.inr (.inr (10, 0, 0)), .inl (v1), ox_d, ox_d, .inl (v4), ox_d] [] σ) rfl ?_
  refine ox_R_if (fun _ => ?_) (fun _ => ?_)
  · exact ox_R_map ((L_Mod_show_202 σ n tl))
  · refine ox_R_to 3 (Y := ox_back m_Mod_show 161 0 [] ((ox_zz ox_ms (n + 1211)) 132 tl [.inr (.inr (10, 0, 0)), .inl (124)] σ) (fun pc9 x9 st9 σ9 => ox_ev m_Mod_show (ox_zz ox_ms (n + 1211)) pc9 0 tl (ox_kl (m_Mod_show.2.2.1 pc9) (ox_xl x9 [.inr (.inr (10, 0, 0)), .inl (v1), ox_d, ox_d, .inl (v4), ox_d])) st9 σ9)) rfl ?_
    refine ox_R_call (fc := (fun r : ox_H => ((.inl none, r) : ox_O))) (L_Mod_out 124 σ (n + 1210) tl) (fun r8 => ?_)
    refine ox_R_of (Y := ox_ev m_Mod_show (ox_zz ox_ms (n + 1211)) 164 0 tl [.inr (.inr (10, 0, 0)), .inl (v1), ox_d, ox_d, .inl (v4), ox_d] [] r8) rfl ?_
    refine ox_R_to 4 (Y := ox_back m_Mod_show 168 1 [] ((ox_zz ox_ms (n + 1211)) 117 tl [.inr (.inr (10, 0, 0)), .inl (v1), .inl (v4)] r8) (fun pc9 x9 st9 σ9 => ox_ev m_Mod_show (ox_zz ox_ms (n + 1211)) pc9 0 tl (ox_kl (m_Mod_show.2.2.1 pc9) (ox_xl x9 [.inr (.inr (10, 0, 0)), .inl (v1), ox_d, ox_d, .inl (v4), ox_d])) st9 σ9)) rfl ?_
    refine ox_R_call (fc := (fun r : Int × ox_H => ((.inl (some (.inl r.1)), r.2) : ox_O))) (L_Mod_value (n + 1200) (K_Mod_total 400) (KL_Mod_total (n + 0) 400) v1 v4 r8 tl) (fun r9 => ?_)
    refine ox_R_of (Y := ox_ev m_Mod_show (ox_zz ox_ms (n + 1211)) 171 0 tl [.inr (.inr (10, 0, 0)), .inl (v1), ox_d, ox_d, .inl (v4), ox_d] [.inl (r9.1)] r9.2) rfl ?_
    refine ox_R_to 4 (Y := if r9.1 = (ox_c 1000000 0) then ox_ev m_Mod_show (ox_zz ox_ms (n + 1211)) 181 0 tl [.inr (.inr (10, 0, 0)), .inl (v1), ox_d, ox_d, .inl (v4), .inl (r9.1)] [] r9.2 else ox_ev m_Mod_show (ox_zz ox_ms (n + 1211)) 190 0 tl [.inr (.inr (10, 0, 0)), .inl (v1), ox_d, ox_d, .inl (v4), .inl (r9.1)] [] r9.2) rfl ?_
    refine ox_R_if (fun _ => ?_) (fun _ => ?_)
    · refine ox_R_to 3 (Y := ox_back m_Mod_show 184 0 [] ((ox_zz ox_ms (n + 1211)) 132 tl [.inr (.inr (10, 0, 0)), .inl (35)] r9.2) (fun pc9 x9 st9 σ9 => ox_ev m_Mod_show (ox_zz ox_ms (n + 1211)) pc9 0 tl (ox_kl (m_Mod_show.2.2.1 pc9) (ox_xl x9 [.inr (.inr (10, 0, 0)), .inl (v1), ox_d, ox_d, .inl (v4), .inl (r9.1)])) st9 σ9)) rfl ?_
      refine ox_R_call (fc := (fun r : ox_H => ((.inl none, r) : ox_O))) (L_Mod_out 35 r9.2 (n + 1210) tl) (fun r10 => ?_)
      refine ox_R_of (Y := ox_ev m_Mod_show (ox_zz ox_ms (n + 1211)) 187 0 tl [.inr (.inr (10, 0, 0)), .inl (v1), ox_d, ox_d, .inl (v4), .inl (r9.1)] [] r10) rfl ?_
      refine ox_R_to 1 (Y := ox_ev m_Mod_show (ox_zz ox_ms (n + 1211)) 196 0 tl [.inr (.inr (10, 0, 0)), .inl (v1), ox_d, ox_d, .inl (v4), ox_d] [] r10) rfl ?_
      exact (L_Mod_show_196 v1 v4 r10 n tl)
    · refine ox_R_to 3 (Y := ox_back m_Mod_show 193 0 [] ((ox_zz ox_ms (n + 1211)) 133 tl [.inr (.inr (10, 0, 0)), .inl (r9.1)] r9.2) (fun pc9 x9 st9 σ9 => ox_ev m_Mod_show (ox_zz ox_ms (n + 1211)) pc9 0 tl (ox_kl (m_Mod_show.2.2.1 pc9) (ox_xl x9 [.inr (.inr (10, 0, 0)), .inl (v1), ox_d, ox_d, .inl (v4), .inl (r9.1)])) st9 σ9)) rfl ?_
      refine ox_R_call (fc := (fun r : ox_H => ((.inl none, r) : ox_O))) (L_Mod_outNumber r9.1 r9.2 (n + 1209) tl) (fun r11 => ?_)
      refine ox_R_of (Y := ox_ev m_Mod_show (ox_zz ox_ms (n + 1211)) 196 0 tl [.inr (.inr (10, 0, 0)), .inl (v1), ox_d, ox_d, .inl (v4), ox_d] [] r11) rfl ?_
      exact (L_Mod_show_196 v1 v4 r11 n tl)
def F_Mod_show  (a1 : Int) (a2 : Int) (a3 : Int) (σ : ox_H) : Option (ox_H) := if 0 ≤ (σ 10 0 45 0) ∧ (σ 10 0 45 0).toNat < 100 then (if a2 = 0 then ((F_Mod_heading a1 (ox_up σ 10 0 44 ((σ 10 0 45 0).toNat) 0)).bind fun r12 => (if (ox_w ((r12.2 10 0 12 0) + a3)) ≤ 5 then (J_Mod_show_40 a1 (ox_w ((r12.2 10 0 12 0) + a3)) r12.2) else (J_Mod_show_40 a1 5 r12.2))) else (if a2 = 7 then (J_Mod_show_114 a1 0 (ox_up σ 10 0 44 ((σ 10 0 45 0).toNat) 0)) else (J_Mod_show_148 a1 0 (ox_up σ 10 0 44 ((σ 10 0 45 0).toNat) 0)))) else none
theorem L_Mod_show  (a1 : Int) (a2 : Int) (a3 : Int) (σ : ox_H) (n tl : Nat) : ox_R (fun r => some ((fun r : ox_H => ((.inl none, r) : ox_O)) r)) (F_Mod_show a1 a2 a3 σ) (ox_zz ox_ms (n + 1212) 134 tl [.inr (.inr (10, 0, 0)), .inl (a1), .inl (a2), .inl (a3)] σ) := by
  unfold F_Mod_show
  refine ox_R_of (Y := ox_ev m_Mod_show (ox_zz ox_ms (n + 1211)) 0 0 tl [.inr (.inr (10, 0, 0)), .inl (a1), .inl (a2), .inl (a3), ox_d, ox_d] [] σ) rfl ?_
  refine ox_R_to 6 (Y := if 0 ≤ (σ 10 0 45 0) ∧ (σ 10 0 45 0).toNat < 100 then ox_ev m_Mod_show (ox_zz ox_ms (n + 1211)) 10 0 tl [.inr (.inr (10, 0, 0)), .inl (a1), .inl (a2), .inl (a3), ox_d, ox_d] [] (ox_up σ 10 0 44 ((σ 10 0 45 0).toNat) 0) else none) rfl ?_
  refine ox_R_if (fun _ => ?_) (fun _ => ox_R_none)
  refine ox_R_to 2 (Y := if a2 = 0 then ox_ev m_Mod_show (ox_zz ox_ms (n + 1211)) 14 0 tl [.inr (.inr (10, 0, 0)), .inl (a1), .inl (a2), .inl (a3), ox_d, ox_d] [] (ox_up σ 10 0 44 ((σ 10 0 45 0).toNat) 0) else ox_ev m_Mod_show (ox_zz ox_ms (n + 1211)) 105 0 tl [.inr (.inr (10, 0, 0)), .inl (a1), .inl (a2), .inl (a3), ox_d, ox_d] [] (ox_up σ 10 0 44 ((σ 10 0 45 0).toNat) 0)) rfl ?_
  refine ox_R_if (fun _ => ?_) (fun _ => ?_)
  · refine ox_R_to 3 (Y := ox_back m_Mod_show 16 1 [] ((ox_zz ox_ms (n + 1211)) 55 tl [.inr (.inr (10, 0, 0)), .inl (a1)] (ox_up σ 10 0 44 ((σ 10 0 45 0).toNat) 0)) (fun pc9 x9 st9 σ9 => ox_ev m_Mod_show (ox_zz ox_ms (n + 1211)) pc9 0 tl (ox_kl (m_Mod_show.2.2.1 pc9) (ox_xl x9 [.inr (.inr (10, 0, 0)), .inl (a1), .inl (a2), .inl (a3), ox_d, ox_d])) st9 σ9)) rfl ?_
    refine ox_R_call (fc := (fun r : Int × ox_H => ((.inl (some (.inl r.1)), r.2) : ox_O))) (L_Mod_heading a1 (ox_up σ 10 0 44 ((σ 10 0 45 0).toNat) 0) (n + 1207) tl) (fun r12 => ?_)
    refine ox_R_of (Y := ox_ev m_Mod_show (ox_zz ox_ms (n + 1211)) 19 0 tl [.inr (.inr (10, 0, 0)), .inl (a1), .inl (a2), .inl (a3), ox_d, ox_d] [.inl (r12.1)] r12.2) rfl ?_
    refine ox_R_to 7 (Y := if (ox_w ((r12.2 10 0 12 0) + a3)) ≤ 5 then ox_ev m_Mod_show (ox_zz ox_ms (n + 1211)) 34 0 tl [.inr (.inr (10, 0, 0)), .inl (a1), .inl (a2), .inl (a3), ox_d, ox_d] [] r12.2 else ox_ev m_Mod_show (ox_zz ox_ms (n + 1211)) 30 0 tl [.inr (.inr (10, 0, 0)), .inl (a1), .inl (a2), .inl (a3), ox_d, ox_d] [] r12.2) rfl ?_
    refine ox_R_if (fun _ => ?_) (fun _ => ?_)
    · refine ox_R_to 4 (Y := ox_ev m_Mod_show (ox_zz ox_ms (n + 1211)) 40 0 tl [.inr (.inr (10, 0, 0)), .inl (a1), ox_d, ox_d, ox_d, ox_d] [.inl (ox_w ((r12.2 10 0 12 0) + a3))] r12.2) rfl ?_
      exact (L_Mod_show_40 a1 (ox_w ((r12.2 10 0 12 0) + a3)) r12.2 n tl)
    · refine ox_R_to 2 (Y := ox_ev m_Mod_show (ox_zz ox_ms (n + 1211)) 40 0 tl [.inr (.inr (10, 0, 0)), .inl (a1), ox_d, ox_d, ox_d, ox_d] [.inl (5)] r12.2) rfl ?_
      exact (L_Mod_show_40 a1 5 r12.2 n tl)
  · refine ox_R_to 3 (Y := if a2 = 7 then ox_ev m_Mod_show (ox_zz ox_ms (n + 1211)) 111 0 tl [.inr (.inr (10, 0, 0)), .inl (a1), .inl (a2), .inl (a3), ox_d, ox_d] [] (ox_up σ 10 0 44 ((σ 10 0 45 0).toNat) 0) else ox_ev m_Mod_show (ox_zz ox_ms (n + 1211)) 145 0 tl [.inr (.inr (10, 0, 0)), .inl (a1), .inl (a2), .inl (a3), ox_d, ox_d] [] (ox_up σ 10 0 44 ((σ 10 0 45 0).toNat) 0)) rfl ?_
    refine ox_R_if (fun _ => ?_) (fun _ => ?_)
    · refine ox_R_to 2 (Y := ox_ev m_Mod_show (ox_zz ox_ms (n + 1211)) 114 0 tl [.inr (.inr (10, 0, 0)), .inl (a1), ox_d, ox_d, .inl (0), ox_d] [] (ox_up σ 10 0 44 ((σ 10 0 45 0).toNat) 0)) rfl ?_
      exact (L_Mod_show_114 a1 0 (ox_up σ 10 0 44 ((σ 10 0 45 0).toNat) 0) n tl)
    · refine ox_R_to 2 (Y := ox_ev m_Mod_show (ox_zz ox_ms (n + 1211)) 148 0 tl [.inr (.inr (10, 0, 0)), .inl (a1), ox_d, ox_d, .inl (0), ox_d] [] (ox_up σ 10 0 44 ((σ 10 0 45 0).toNat) 0)) rfl ?_
      exact (L_Mod_show_148 a1 0 (ox_up σ 10 0 44 ((σ 10 0 45 0).toNat) 0) n tl)
def J_Mod_include_106  (σ : ox_H) : Option ox_H := some σ
theorem L_Mod_include_106  (σ : ox_H) (n tl : Nat) : ox_R (fun r => some ((fun r : ox_H => ((.inl none, r) : ox_O)) r)) (J_Mod_include_106 σ) (ox_ev m_Mod_include (ox_zz ox_ms (n + 7)) 106 0 tl [ox_d, ox_d, ox_d, ox_d, ox_d] [] σ) := by
  unfold J_Mod_include_106
  refine ox_R_to 1 (Y := some (.inl none, σ)) rfl ?_
  exact ox_R_ret rfl
def J_Mod_include_105  (s0 : Int) (s1 : Int) (σ : ox_H) : Option ox_H := if 0 ≤ s1 ∧ s1.toNat < 4 then (J_Mod_include_106 (ox_up σ 10 0 34 s1.toNat s0)) else none
theorem L_Mod_include_105  (s0 : Int) (s1 : Int) (σ : ox_H) (n tl : Nat) : ox_R (fun r => some ((fun r : ox_H => ((.inl none, r) : ox_O)) r)) (J_Mod_include_105 s0 s1 σ) (ox_ev m_Mod_include (ox_zz ox_ms (n + 7)) 105 0 tl [ox_d, ox_d, ox_d, ox_d, ox_d] [.inl (s0), .inl (s1), .inr (.inr (110, 0, 34))] σ) := by
  unfold J_Mod_include_105
  refine ox_R_to 1 (Y := if 0 ≤ s1 ∧ s1.toNat < 4 then ox_ev m_Mod_include (ox_zz ox_ms (n + 7)) 106 0 tl [ox_d, ox_d, ox_d, ox_d, ox_d] [] (ox_up σ 10 0 34 s1.toNat s0) else none) rfl ?_
  refine ox_R_if (fun _ => ?_) (fun _ => ox_R_none)
  exact (L_Mod_include_106 (ox_up σ 10 0 34 s1.toNat s0) n tl)
def J_Mod_include_44  (v2 : Int) (s0 : Int) (σ : ox_H) : Option ox_H := if 0 ≤ v2 ∧ v2.toNat < 61 then (if 0 ≤ (ox_w ((σ 10 0 31 0) + 1)) ∧ (ox_w ((σ 10 0 31 0) + 1)).toNat < 4 then ((F_Mod_end v2 (ox_up (ox_up σ 10 0 31 0 (ox_w ((σ 10 0 31 0) + 1))) 10 0 32 ((ox_w ((σ 10 0 31 0) + 1)).toNat) (σ 10 0 21 v2.toNat))).bind fun r1 => (if 0 ≤ (ox_w ((σ 10 0 31 0) + 1)) ∧ (ox_w ((σ 10 0 31 0) + 1)).toNat < 4 then (if s0 ≤ 5 then (J_Mod_include_105 s0 (r1.2 10 0 31 0) (ox_up r1.2 10 0 33 ((ox_w ((σ 10 0 31 0) + 1)).toNat) r1.1)) else (J_Mod_include_105 5 (r1.2 10 0 31 0) (ox_up r1.2 10 0 33 ((ox_w ((σ 10 0 31 0) + 1)).toNat) r1.1))) else none)) else none) else none
theorem L_Mod_include_44  (v2 : Int) (s0 : Int) (σ : ox_H) (n tl : Nat) : ox_R (fun r => some ((fun r : ox_H => ((.inl none, r) : ox_O)) r)) (J_Mod_include_44 v2 s0 σ) (ox_ev m_Mod_include (ox_zz ox_ms (n + 7)) 44 0 tl [.inr (.inr (10, 0, 0)), ox_d, .inl (v2), ox_d, ox_d] [.inl (s0)] σ) := by
  unfold J_Mod_include_44
  refine ox_R_to 15 (Y := if 0 ≤ v2 ∧ v2.toNat < 61 then ox_ev m_Mod_include (ox_zz ox_ms (n + 7)) 70 0 tl [.inr (.inr (10, 0, 0)), ox_d, .inl (v2), ox_d, .inl (s0)] [.inl (σ 10 0 21 v2.toNat), .inl (ox_w ((σ 10 0 31 0) + 1)), .inr (.inr (110, 0, 32))] (ox_up σ 10 0 31 0 (ox_w ((σ 10 0 31 0) + 1))) else none) rfl ?_
  refine ox_R_if (fun _ => ?_) (fun _ => ox_R_none)
  refine ox_R_to 1 (Y := if 0 ≤ (ox_w ((σ 10 0 31 0) + 1)) ∧ (ox_w ((σ 10 0 31 0) + 1)).toNat < 4 then ox_ev m_Mod_include (ox_zz ox_ms (n + 7)) 71 0 tl [.inr (.inr (10, 0, 0)), ox_d, .inl (v2), ox_d, .inl (s0)] [] (ox_up (ox_up σ 10 0 31 0 (ox_w ((σ 10 0 31 0) + 1))) 10 0 32 ((ox_w ((σ 10 0 31 0) + 1)).toNat) (σ 10 0 21 v2.toNat)) else none) rfl ?_
  refine ox_R_if (fun _ => ?_) (fun _ => ox_R_none)
  refine ox_R_to 7 (Y := ox_back m_Mod_include 81 1 [.inl (ox_w ((σ 10 0 31 0) + 1)), .inr (.inr (110, 0, 33))] ((ox_zz ox_ms (n + 7)) 78 tl [.inr (.inr (10, 0, 0)), .inl (v2)] (ox_up (ox_up σ 10 0 31 0 (ox_w ((σ 10 0 31 0) + 1))) 10 0 32 ((ox_w ((σ 10 0 31 0) + 1)).toNat) (σ 10 0 21 v2.toNat))) (fun pc9 x9 st9 σ9 => ox_ev m_Mod_include (ox_zz ox_ms (n + 7)) pc9 0 tl (ox_kl (m_Mod_include.2.2.1 pc9) (ox_xl x9 [.inr (.inr (10, 0, 0)), ox_d, .inl (v2), ox_d, .inl (s0)])) st9 σ9)) rfl ?_
  refine ox_R_call (fc := (fun r : Int × ox_H => ((.inl (some (.inl r.1)), r.2) : ox_O))) (L_Mod_end v2 (ox_up (ox_up σ 10 0 31 0 (ox_w ((σ 10 0 31 0) + 1))) 10 0 32 ((ox_w ((σ 10 0 31 0) + 1)).toNat) (σ 10 0 21 v2.toNat)) (n + 0) tl) (fun r1 => ?_)
  refine ox_R_of (Y := ox_ev m_Mod_include (ox_zz ox_ms (n + 7)) 84 0 tl [.inr (.inr (10, 0, 0)), ox_d, .inl (v2), ox_d, .inl (s0)] [.inl (r1.1), .inl (ox_w ((σ 10 0 31 0) + 1)), .inr (.inr (110, 0, 33))] r1.2) rfl ?_
  refine ox_R_to 1 (Y := if 0 ≤ (ox_w ((σ 10 0 31 0) + 1)) ∧ (ox_w ((σ 10 0 31 0) + 1)).toNat < 4 then ox_ev m_Mod_include (ox_zz ox_ms (n + 7)) 85 0 tl [.inr (.inr (10, 0, 0)), ox_d, .inl (v2), ox_d, .inl (s0)] [] (ox_up r1.2 10 0 33 ((ox_w ((σ 10 0 31 0) + 1)).toNat) r1.1) else none) rfl ?_
  refine ox_R_if (fun _ => ?_) (fun _ => ox_R_none)
  refine ox_R_to 7 (Y := if s0 ≤ 5 then ox_ev m_Mod_include (ox_zz ox_ms (n + 7)) 103 0 tl [.inr (.inr (10, 0, 0)), ox_d, .inl (v2), ox_d, .inl (s0)] [.inl (r1.2 10 0 31 0), .inr (.inr (110, 0, 34))] (ox_up r1.2 10 0 33 ((ox_w ((σ 10 0 31 0) + 1)).toNat) r1.1) else ox_ev m_Mod_include (ox_zz ox_ms (n + 7)) 99 0 tl [.inr (.inr (10, 0, 0)), ox_d, .inl (v2), ox_d, .inl (s0)] [.inl (r1.2 10 0 31 0), .inr (.inr (110, 0, 34))] (ox_up r1.2 10 0 33 ((ox_w ((σ 10 0 31 0) + 1)).toNat) r1.1)) rfl ?_
  refine ox_R_if (fun _ => ?_) (fun _ => ?_)
  · refine ox_R_to 1 (Y := ox_ev m_Mod_include (ox_zz ox_ms (n + 7)) 105 0 tl [ox_d, ox_d, ox_d, ox_d, ox_d] [.inl (s0), .inl (r1.2 10 0 31 0), .inr (.inr (110, 0, 34))] (ox_up r1.2 10 0 33 ((ox_w ((σ 10 0 31 0) + 1)).toNat) r1.1)) rfl ?_
    exact (L_Mod_include_105 s0 (r1.2 10 0 31 0) (ox_up r1.2 10 0 33 ((ox_w ((σ 10 0 31 0) + 1)).toNat) r1.1) n tl)
  · refine ox_R_to 2 (Y := ox_ev m_Mod_include (ox_zz ox_ms (n + 7)) 105 0 tl [ox_d, ox_d, ox_d, ox_d, ox_d] [.inl (5), .inl (r1.2 10 0 31 0), .inr (.inr (110, 0, 34))] (ox_up r1.2 10 0 33 ((ox_w ((σ 10 0 31 0) + 1)).toNat) r1.1)) rfl ?_
    exact (L_Mod_include_105 5 (r1.2 10 0 31 0) (ox_up r1.2 10 0 33 ((ox_w ((σ 10 0 31 0) + 1)).toNat) r1.1) n tl)
def F_Mod_include  (a1 : Int) (σ : ox_H) : Option (ox_H) := (F_Mod_look a1 1 σ).bind fun r2 => ((F_Mod_titled r2 σ).bind fun r3 => (if r3.1 < 0 then (J_Mod_include_106 r3.2) else ((F_Mod_entryOf a1 r3.2).bind fun r4 => (if 0 ≤ r4 then ((F_Mod_level r4 r3.2).bind fun r5 => (if 0 ≤ (r5.2 10 0 31 0) ∧ (r5.2 10 0 31 0).toNat < 4 then (J_Mod_include_44 r3.1 (ox_w (r5.1 + (r5.2 10 0 34 ((r5.2 10 0 31 0).toNat)))) r5.2) else none)) else (J_Mod_include_44 r3.1 0 r3.2)))))
theorem L_Mod_include  (a1 : Int) (σ : ox_H) (n tl : Nat) : ox_R (fun r => some ((fun r : ox_H => ((.inl none, r) : ox_O)) r)) (F_Mod_include a1 σ) (ox_zz ox_ms (n + 8) 136 tl [.inr (.inr (10, 0, 0)), .inl (a1)] σ) := by
  unfold F_Mod_include
  refine ox_R_of (Y := ox_ev m_Mod_include (ox_zz ox_ms (n + 7)) 0 0 tl [.inr (.inr (10, 0, 0)), .inl (a1), ox_d, ox_d, ox_d] [] σ) rfl ?_
  refine ox_R_to 5 (Y := ox_back m_Mod_include 4 1 [.inr (.inr (10, 0, 0))] ((ox_zz ox_ms (n + 7)) 46 tl [.inr (.inr (10, 0, 0)), .inl (a1), .inl (1)] σ) (fun pc9 x9 st9 σ9 => ox_ev m_Mod_include (ox_zz ox_ms (n + 7)) pc9 0 tl (ox_kl (m_Mod_include.2.2.1 pc9) (ox_xl x9 [.inr (.inr (10, 0, 0)), .inl (a1), ox_d, ox_d, ox_d])) st9 σ9)) rfl ?_
  refine ox_R_call (fc := (fun r : Int => ((.inl (some (.inl r)), σ) : ox_O))) (L_Mod_look a1 1 σ (n + 6) tl) (fun r2 => ?_)
  refine ox_R_of (Y := ox_ev m_Mod_include (ox_zz ox_ms (n + 7)) 7 0 tl [.inr (.inr (10, 0, 0)), .inl (a1), ox_d, ox_d, ox_d] [.inl (r2), .inr (.inr (10, 0, 0))] σ) rfl ?_
  refine ox_R_to 1 (Y := ox_back m_Mod_include 7 1 [] ((ox_zz ox_ms (n + 7)) 84 tl [.inr (.inr (10, 0, 0)), .inl (r2)] σ) (fun pc9 x9 st9 σ9 => ox_ev m_Mod_include (ox_zz ox_ms (n + 7)) pc9 0 tl (ox_kl (m_Mod_include.2.2.1 pc9) (ox_xl x9 [.inr (.inr (10, 0, 0)), .inl (a1), ox_d, ox_d, ox_d])) st9 σ9)) rfl ?_
  refine ox_R_call (fc := (fun r : Int × ox_H => ((.inl (some (.inl r.1)), r.2) : ox_O))) (L_Mod_titled r2 σ (n + 1) tl) (fun r3 => ?_)
  refine ox_R_of (Y := ox_ev m_Mod_include (ox_zz ox_ms (n + 7)) 10 0 tl [.inr (.inr (10, 0, 0)), .inl (a1), ox_d, ox_d, ox_d] [.inl (r3.1)] r3.2) rfl ?_
  refine ox_R_to 3 (Y := if r3.1 < 0 then ox_ev m_Mod_include (ox_zz ox_ms (n + 7)) 106 0 tl [ox_d, ox_d, ox_d, ox_d, ox_d] [] r3.2 else ox_ev m_Mod_include (ox_zz ox_ms (n + 7)) 15 0 tl [.inr (.inr (10, 0, 0)), .inl (a1), .inl (r3.1), ox_d, ox_d] [] r3.2) rfl ?_
  refine ox_R_if (fun _ => ?_) (fun _ => ?_)
  · exact (L_Mod_include_106 r3.2 n tl)
  · refine ox_R_to 3 (Y := ox_back m_Mod_include 17 1 [] ((ox_zz ox_ms (n + 7)) 113 tl [.inr (.inr (10, 0, 0)), .inl (a1)] r3.2) (fun pc9 x9 st9 σ9 => ox_ev m_Mod_include (ox_zz ox_ms (n + 7)) pc9 0 tl (ox_kl (m_Mod_include.2.2.1 pc9) (ox_xl x9 [.inr (.inr (10, 0, 0)), .inl (a1), .inl (r3.1), ox_d, ox_d])) st9 σ9)) rfl ?_
    refine ox_R_call (fc := (fun r : Int => ((.inl (some (.inl r)), r3.2) : ox_O))) (L_Mod_entryOf a1 r3.2 (n + 6) tl) (fun r4 => ?_)
    refine ox_R_of (Y := ox_ev m_Mod_include (ox_zz ox_ms (n + 7)) 20 0 tl [.inr (.inr (10, 0, 0)), .inl (a1), .inl (r3.1), ox_d, ox_d] [.inl (r4)] r3.2) rfl ?_
    refine ox_R_to 3 (Y := if 0 ≤ r4 then ox_ev m_Mod_include (ox_zz ox_ms (n + 7)) 29 0 tl [.inr (.inr (10, 0, 0)), .inl (a1), .inl (r3.1), .inl (r4), ox_d] [] r3.2 else ox_ev m_Mod_include (ox_zz ox_ms (n + 7)) 25 0 tl [.inr (.inr (10, 0, 0)), .inl (a1), .inl (r3.1), .inl (r4), ox_d] [] r3.2) rfl ?_
    refine ox_R_if (fun _ => ?_) (fun _ => ?_)
    · refine ox_R_to 3 (Y := ox_back m_Mod_include 31 1 [] ((ox_zz ox_ms (n + 7)) 74 tl [.inr (.inr (10, 0, 0)), .inl (r4)] r3.2) (fun pc9 x9 st9 σ9 => ox_ev m_Mod_include (ox_zz ox_ms (n + 7)) pc9 0 tl (ox_kl (m_Mod_include.2.2.1 pc9) (ox_xl x9 [.inr (.inr (10, 0, 0)), .inl (a1), .inl (r3.1), .inl (r4), ox_d])) st9 σ9)) rfl ?_
      refine ox_R_call (fc := (fun r : Int × ox_H => ((.inl (some (.inl r.1)), r.2) : ox_O))) (L_Mod_level r4 r3.2 (n + 2) tl) (fun r5 => ?_)
      refine ox_R_of (Y := ox_ev m_Mod_include (ox_zz ox_ms (n + 7)) 34 0 tl [.inr (.inr (10, 0, 0)), .inl (a1), .inl (r3.1), .inl (r4), ox_d] [.inl (r5.1)] r5.2) rfl ?_
      refine ox_R_to 5 (Y := if 0 ≤ (r5.2 10 0 31 0) ∧ (r5.2 10 0 31 0).toNat < 4 then ox_ev m_Mod_include (ox_zz ox_ms (n + 7)) 43 0 tl [.inr (.inr (10, 0, 0)), .inl (a1), .inl (r3.1), .inl (r4), ox_d] [.inl (r5.2 10 0 34 ((r5.2 10 0 31 0).toNat)), .inl (r5.1)] r5.2 else none) rfl ?_
      refine ox_R_if (fun _ => ?_) (fun _ => ox_R_none)
      refine ox_R_to 1 (Y := ox_ev m_Mod_include (ox_zz ox_ms (n + 7)) 44 0 tl [.inr (.inr (10, 0, 0)), ox_d, .inl (r3.1), ox_d, ox_d] [.inl (ox_w (r5.1 + (r5.2 10 0 34 ((r5.2 10 0 31 0).toNat))))] r5.2) rfl ?_
      exact (L_Mod_include_44 r3.1 (ox_w (r5.1 + (r5.2 10 0 34 ((r5.2 10 0 31 0).toNat)))) r5.2 n tl)
    · refine ox_R_to 2 (Y := ox_ev m_Mod_include (ox_zz ox_ms (n + 7)) 44 0 tl [.inr (.inr (10, 0, 0)), ox_d, .inl (r3.1), ox_d, ox_d] [.inl (0)] r3.2) rfl ?_
      exact (L_Mod_include_44 r3.1 0 r3.2 n tl)
def J_Mod_export_207  (σ : ox_H) : Option ox_H := some σ
theorem L_Mod_export_207  (σ : ox_H) (n tl : Nat) : ox_R (fun r => some ((fun r : ox_H => ((.inl none, r) : ox_O)) r)) (J_Mod_export_207 σ) (ox_ev m_Mod_export (ox_zz ox_ms (n + 1212)) 207 0 tl [ox_d, ox_d, ox_d] [] σ) := by
  unfold J_Mod_export_207
  refine ox_R_to 1 (Y := some (.inl none, σ)) rfl ?_
  exact ox_R_ret rfl
def J_Mod_export_204  (σ : ox_H) : Option (((ox_H) ⊕ ox_H)) := some (.inl σ)
theorem L_Mod_export_204  (σ : ox_H) (n tl : Nat) : ox_R (Sum.elim (fun (σ : ox_H) => ox_ev m_Mod_export (ox_zz ox_ms (n + 1212)) 48 0 tl [.inr (.inr (10, 0, 0)), ox_d, ox_d] [] σ) (fun r => some ((fun r : ox_H => ((.inl none, r) : ox_O)) r))) (J_Mod_export_204 σ) (ox_ev m_Mod_export (ox_zz ox_ms (n + 1212)) 204 0 tl [.inr (.inr (10, 0, 0)), ox_d, ox_d] [] σ) := by
  unfold J_Mod_export_204
  refine ox_R_to 1 (Y := ox_ev m_Mod_export (ox_zz ox_ms (n + 1212)) 48 0 tl [.inr (.inr (10, 0, 0)), ox_d, ox_d] [] σ) rfl ?_
  exact ox_R_ret rfl
def J_Mod_export_167  (v1 : Int) (v2 : Int) (σ : ox_H) : Option (((ox_H) ⊕ ox_H)) := if 0 ≤ (σ 10 0 31 0) ∧ (σ 10 0 31 0).toNat < 4 then ((F_Mod_show v1 v2 (σ 10 0 34 ((σ 10 0 31 0).toNat)) σ).bind fun r1 => (J_Mod_export_204 r1)) else none
theorem L_Mod_export_167  (v1 : Int) (v2 : Int) (σ : ox_H) (n tl : Nat) : ox_R (Sum.elim (fun (σ : ox_H) => ox_ev m_Mod_export (ox_zz ox_ms (n + 1212)) 48 0 tl [.inr (.inr (10, 0, 0)), ox_d, ox_d] [] σ) (fun r => some ((fun r : ox_H => ((.inl none, r) : ox_O)) r))) (J_Mod_export_167 v1 v2 σ) (ox_ev m_Mod_export (ox_zz ox_ms (n + 1212)) 167 0 tl [.inr (.inr (10, 0, 0)), .inl (v1), .inl (v2)] [] σ) := by
  unfold J_Mod_export_167
  refine ox_R_to 8 (Y := if 0 ≤ (σ 10 0 31 0) ∧ (σ 10 0 31 0).toNat < 4 then ox_ev m_Mod_export (ox_zz ox_ms (n + 1212)) 179 0 tl [.inr (.inr (10, 0, 0)), .inl (v1), .inl (v2)] [.inl (σ 10 0 34 ((σ 10 0 31 0).toNat)), .inl (v2), .inl (v1), .inr (.inr (10, 0, 0))] σ else none) rfl ?_
  refine ox_R_if (fun _ => ?_) (fun _ => ox_R_none)
  refine ox_R_to 1 (Y := ox_back m_Mod_export 179 0 [] ((ox_zz ox_ms (n + 1212)) 134 tl [.inr (.inr (10, 0, 0)), .inl (v1), .inl (v2), .inl (σ 10 0 34 ((σ 10 0 31 0).toNat))] σ) (fun pc9 x9 st9 σ9 => ox_ev m_Mod_export (ox_zz ox_ms (n + 1212)) pc9 0 tl (ox_kl (m_Mod_export.2.2.1 pc9) (ox_xl x9 [.inr (.inr (10, 0, 0)), .inl (v1), .inl (v2)])) st9 σ9)) rfl ?_
  refine ox_R_call (fc := (fun r : ox_H => ((.inl none, r) : ox_O))) (L_Mod_show v1 v2 (σ 10 0 34 ((σ 10 0 31 0).toNat)) σ (n + 0) tl) (fun r1 => ?_)
  refine ox_R_of (Y := ox_ev m_Mod_export (ox_zz ox_ms (n + 1212)) 182 0 tl [.inr (.inr (10, 0, 0)), .inl (v1), .inl (v2)] [] r1) rfl ?_
  refine ox_R_to 1 (Y := ox_ev m_Mod_export (ox_zz ox_ms (n + 1212)) 204 0 tl [.inr (.inr (10, 0, 0)), ox_d, ox_d] [] r1) rfl ?_
  exact (L_Mod_export_204 r1 n tl)
def J_Mod_export_152  (v1 : Int) (v2 : Int) (σ : ox_H) : Option (((ox_H) ⊕ ox_H)) := if v2 = 0 then (J_Mod_export_167 v1 v2 σ) else (if v2 = 7 then (J_Mod_export_167 v1 v2 σ) else (if v2 = 4 then (J_Mod_export_167 v1 v2 σ) else (if v2 = 6 then (if 3 ≤ (σ 10 0 31 0) then (J_Mod_export_204 σ) else ((F_Mod_include v1 σ).bind fun r2 => (J_Mod_export_204 r2))) else (J_Mod_export_204 σ))))
theorem L_Mod_export_152  (v1 : Int) (v2 : Int) (σ : ox_H) (n tl : Nat) : ox_R (Sum.elim (fun (σ : ox_H) => ox_ev m_Mod_export (ox_zz ox_ms (n + 1212)) 48 0 tl [.inr (.inr (10, 0, 0)), ox_d, ox_d] [] σ) (fun r => some ((fun r : ox_H => ((.inl none, r) : ox_O)) r))) (J_Mod_export_152 v1 v2 σ) (ox_ev m_Mod_export (ox_zz ox_ms (n + 1212)) 152 0 tl [.inr (.inr (10, 0, 0)), .inl (v1), .inl (v2)] [] σ) := by
  unfold J_Mod_export_152
  refine ox_R_to 2 (Y := if v2 = 0 then ox_ev m_Mod_export (ox_zz ox_ms (n + 1212)) 167 0 tl [.inr (.inr (10, 0, 0)), .inl (v1), .inl (v2)] [] σ else ox_ev m_Mod_export (ox_zz ox_ms (n + 1212)) 156 0 tl [.inr (.inr (10, 0, 0)), .inl (v1), .inl (v2)] [] σ) rfl ?_
  refine ox_R_if (fun _ => ?_) (fun _ => ?_)
  · exact (L_Mod_export_167 v1 v2 σ n tl)
  · refine ox_R_to 3 (Y := if v2 = 7 then ox_ev m_Mod_export (ox_zz ox_ms (n + 1212)) 167 0 tl [.inr (.inr (10, 0, 0)), .inl (v1), .inl (v2)] [] σ else ox_ev m_Mod_export (ox_zz ox_ms (n + 1212)) 162 0 tl [.inr (.inr (10, 0, 0)), .inl (v1), .inl (v2)] [] σ) rfl ?_
    refine ox_R_if (fun _ => ?_) (fun _ => ?_)
    · exact (L_Mod_export_167 v1 v2 σ n tl)
    · refine ox_R_to 3 (Y := if v2 = 4 then ox_ev m_Mod_export (ox_zz ox_ms (n + 1212)) 167 0 tl [.inr (.inr (10, 0, 0)), .inl (v1), .inl (v2)] [] σ else ox_ev m_Mod_export (ox_zz ox_ms (n + 1212)) 185 0 tl [.inr (.inr (10, 0, 0)), .inl (v1), .inl (v2)] [] σ) rfl ?_
      refine ox_R_if (fun _ => ?_) (fun _ => ?_)
      · exact (L_Mod_export_167 v1 v2 σ n tl)
      · refine ox_R_to 3 (Y := if v2 = 6 then ox_ev m_Mod_export (ox_zz ox_ms (n + 1212)) 191 0 tl [.inr (.inr (10, 0, 0)), .inl (v1), .inl (v2)] [] σ else ox_ev m_Mod_export (ox_zz ox_ms (n + 1212)) 204 0 tl [.inr (.inr (10, 0, 0)), ox_d, ox_d] [] σ) rfl ?_
        refine ox_R_if (fun _ => ?_) (fun _ => ?_)
        · refine ox_R_to 4 (Y := if 3 ≤ (σ 10 0 31 0) then ox_ev m_Mod_export (ox_zz ox_ms (n + 1212)) 204 0 tl [.inr (.inr (10, 0, 0)), ox_d, ox_d] [] σ else ox_ev m_Mod_export (ox_zz ox_ms (n + 1212)) 199 0 tl [.inr (.inr (10, 0, 0)), .inl (v1), .inl (v2)] [] σ) rfl ?_
          refine ox_R_if (fun _ => ?_) (fun _ => ?_)
          · exact (L_Mod_export_204 σ n tl)
          · refine ox_R_to 3 (Y := ox_back m_Mod_export 201 0 [] ((ox_zz ox_ms (n + 1212)) 136 tl [.inr (.inr (10, 0, 0)), .inl (v1)] σ) (fun pc9 x9 st9 σ9 => ox_ev m_Mod_export (ox_zz ox_ms (n + 1212)) pc9 0 tl (ox_kl (m_Mod_export.2.2.1 pc9) (ox_xl x9 [.inr (.inr (10, 0, 0)), .inl (v1), .inl (v2)])) st9 σ9)) rfl ?_
            refine ox_R_call (fc := (fun r : ox_H => ((.inl none, r) : ox_O))) (L_Mod_include v1 σ (n + 1204) tl) (fun r2 => ?_)
            refine ox_R_of (Y := ox_ev m_Mod_export (ox_zz ox_ms (n + 1212)) 204 0 tl [.inr (.inr (10, 0, 0)), ox_d, ox_d] [] r2) rfl ?_
            exact (L_Mod_export_204 r2 n tl)
        · exact (L_Mod_export_204 σ n tl)
def B_Mod_export_48  : (ox_H) → Option (((ox_H) ⊕ ox_H)) := fun σ => if (σ 10 0 31 0) < 0 then ((J_Mod_export_207 σ).map .inr) else (if 100 ≤ (σ 10 0 45 0) then ((J_Mod_export_207 σ).map .inr) else (if 0 ≤ (σ 10 0 31 0) ∧ (σ 10 0 31 0).toNat < 4 then (if 0 ≤ (σ 10 0 31 0) ∧ (σ 10 0 31 0).toNat < 4 then (if (σ 10 0 32 ((σ 10 0 31 0).toNat)) < (σ 10 0 33 ((σ 10 0 31 0).toNat)) then (if 0 ≤ (σ 10 0 31 0) ∧ (σ 10 0 31 0).toNat < 4 then (if 0 ≤ (σ 10 0 31 0) ∧ (σ 10 0 31 0).toNat < 4 then ((F_Mod_kindOf (σ 10 0 32 ((σ 10 0 31 0).toNat)) (ox_up σ 10 0 32 ((σ 10 0 31 0).toNat) (ox_w ((σ 10 0 32 ((σ 10 0 31 0).toNat)) + 1)))).bind fun r3 => (if r3.1 = 0 then (if (r3.2 10 0 13 0) = 3 then ((F_Mod_entryOf (σ 10 0 32 ((σ 10 0 31 0).toNat)) r3.2).bind fun r4 => ((F_Mod_end r4 r3.2).bind fun r5 => (if 0 ≤ (r3.2 10 0 31 0) ∧ (r3.2 10 0 31 0).toNat < 4 then (J_Mod_export_204 (ox_up r5.2 10 0 32 ((r3.2 10 0 31 0).toNat) r5.1)) else none))) else (J_Mod_export_152 (σ 10 0 32 ((σ 10 0 31 0).toNat)) r3.1 r3.2)) else (J_Mod_export_152 (σ 10 0 32 ((σ 10 0 31 0).toNat)) r3.1 r3.2))) else none) else none) else (J_Mod_export_204 (ox_up σ 10 0 31 0 (ox_w ((σ 10 0 31 0) - 1))))) else none) else none))
def J_Mod_export_48  (σ : ox_H) : Option (ox_H) := ox_lp (B_Mod_export_48) ox_fu σ
theorem L_Mod_export_48  (σ : ox_H) (n tl : Nat) : ox_R (fun r => some ((fun r : ox_H => ((.inl none, r) : ox_O)) r)) (J_Mod_export_48 σ) (ox_ev m_Mod_export (ox_zz ox_ms (n + 1212)) 48 0 tl [.inr (.inr (10, 0, 0)), ox_d, ox_d] [] σ) := by
  unfold J_Mod_export_48
  refine ox_R_lp (ψ := (fun (σ : ox_H) => ox_ev m_Mod_export (ox_zz ox_ms (n + 1212)) 48 0 tl [.inr (.inr (10, 0, 0)), ox_d, ox_d] [] σ)) ?_ ox_fu σ
  intro s
  revert s; intro σ
  unfold B_Mod_export_48
  refine ox_R_to 3 (Y := if (σ 10 0 31 0) < 0 then ox_ev m_Mod_export (ox_zz ox_ms (n + 1212)) 207 0 tl [ox_d, ox_d, ox_d] [] σ else ox_ev m_Mod_export (ox_zz ox_ms (n + 1212)) 55 0 tl [.inr (.inr (10, 0, 0)), ox_d, ox_d] [] σ) rfl ?_
  refine ox_R_if (fun _ => ?_) (fun _ => ?_)
  · exact ox_R_map ((L_Mod_export_207 σ n tl))
  · refine ox_R_to 4 (Y := if 100 ≤ (σ 10 0 45 0) then ox_ev m_Mod_export (ox_zz ox_ms (n + 1212)) 207 0 tl [ox_d, ox_d, ox_d] [] σ else ox_ev m_Mod_export (ox_zz ox_ms (n + 1212)) 64 0 tl [.inr (.inr (10, 0, 0)), ox_d, ox_d] [] σ) rfl ?_
    refine ox_R_if (fun _ => ?_) (fun _ => ?_)
    · exact ox_R_map ((L_Mod_export_207 σ n tl))
    · refine ox_R_to 5 (Y := if 0 ≤ (σ 10 0 31 0) ∧ (σ 10 0 31 0).toNat < 4 then ox_ev m_Mod_export (ox_zz ox_ms (n + 1212)) 73 0 tl [.inr (.inr (10, 0, 0)), ox_d, ox_d] [.inl (σ 10 0 32 ((σ 10 0 31 0).toNat))] σ else none) rfl ?_
      refine ox_R_if (fun _ => ?_) (fun _ => ox_R_none)
      refine ox_R_to 7 (Y := if 0 ≤ (σ 10 0 31 0) ∧ (σ 10 0 31 0).toNat < 4 then ox_ev m_Mod_export (ox_zz ox_ms (n + 1212)) 84 0 tl [.inr (.inr (10, 0, 0)), .inl (σ 10 0 32 ((σ 10 0 31 0).toNat)), ox_d] [.inl (σ 10 0 33 ((σ 10 0 31 0).toNat)), .inl (σ 10 0 32 ((σ 10 0 31 0).toNat))] σ else none) rfl ?_
      refine ox_R_if (fun _ => ?_) (fun _ => ox_R_none)
      refine ox_R_to 1 (Y := if (σ 10 0 32 ((σ 10 0 31 0).toNat)) < (σ 10 0 33 ((σ 10 0 31 0).toNat)) then ox_ev m_Mod_export (ox_zz ox_ms (n + 1212)) 100 0 tl [.inr (.inr (10, 0, 0)), .inl (σ 10 0 32 ((σ 10 0 31 0).toNat)), ox_d] [] σ else ox_ev m_Mod_export (ox_zz ox_ms (n + 1212)) 87 0 tl [.inr (.inr (10, 0, 0)), .inl (σ 10 0 32 ((σ 10 0 31 0).toNat)), ox_d] [] σ) rfl ?_
      refine ox_R_if (fun _ => ?_) (fun _ => ?_)
      · refine ox_R_to 6 (Y := if 0 ≤ (σ 10 0 31 0) ∧ (σ 10 0 31 0).toNat < 4 then ox_ev m_Mod_export (ox_zz ox_ms (n + 1212)) 110 0 tl [.inr (.inr (10, 0, 0)), .inl (σ 10 0 32 ((σ 10 0 31 0).toNat)), ox_d] [.inl (σ 10 0 32 ((σ 10 0 31 0).toNat)), .inl (σ 10 0 31 0), .inr (.inr (110, 0, 32))] σ else none) rfl ?_
        refine ox_R_if (fun _ => ?_) (fun _ => ox_R_none)
        refine ox_R_to 3 (Y := if 0 ≤ (σ 10 0 31 0) ∧ (σ 10 0 31 0).toNat < 4 then ox_ev m_Mod_export (ox_zz ox_ms (n + 1212)) 113 0 tl [.inr (.inr (10, 0, 0)), .inl (σ 10 0 32 ((σ 10 0 31 0).toNat)), ox_d] [] (ox_up σ 10 0 32 ((σ 10 0 31 0).toNat) (ox_w ((σ 10 0 32 ((σ 10 0 31 0).toNat)) + 1))) else none) rfl ?_
        refine ox_R_if (fun _ => ?_) (fun _ => ox_R_none)
        refine ox_R_to 3 (Y := ox_back m_Mod_export 115 1 [] ((ox_zz ox_ms (n + 1212)) 63 tl [.inr (.inr (10, 0, 0)), .inl (σ 10 0 32 ((σ 10 0 31 0).toNat))] (ox_up σ 10 0 32 ((σ 10 0 31 0).toNat) (ox_w ((σ 10 0 32 ((σ 10 0 31 0).toNat)) + 1)))) (fun pc9 x9 st9 σ9 => ox_ev m_Mod_export (ox_zz ox_ms (n + 1212)) pc9 0 tl (ox_kl (m_Mod_export.2.2.1 pc9) (ox_xl x9 [.inr (.inr (10, 0, 0)), .inl (σ 10 0 32 ((σ 10 0 31 0).toNat)), ox_d])) st9 σ9)) rfl ?_
        refine ox_R_call (fc := (fun r : Int × ox_H => ((.inl (some (.inl r.1)), r.2) : ox_O))) (L_Mod_kindOf (σ 10 0 32 ((σ 10 0 31 0).toNat)) (ox_up σ 10 0 32 ((σ 10 0 31 0).toNat) (ox_w ((σ 10 0 32 ((σ 10 0 31 0).toNat)) + 1))) (n + 1205) tl) (fun r3 => ?_)
        refine ox_R_of (Y := ox_ev m_Mod_export (ox_zz ox_ms (n + 1212)) 118 0 tl [.inr (.inr (10, 0, 0)), .inl (σ 10 0 32 ((σ 10 0 31 0).toNat)), ox_d] [.inl (r3.1)] r3.2) rfl ?_
        refine ox_R_to 3 (Y := if r3.1 = 0 then ox_ev m_Mod_export (ox_zz ox_ms (n + 1212)) 123 0 tl [.inr (.inr (10, 0, 0)), .inl (σ 10 0 32 ((σ 10 0 31 0).toNat)), .inl (r3.1)] [] r3.2 else ox_ev m_Mod_export (ox_zz ox_ms (n + 1212)) 152 0 tl [.inr (.inr (10, 0, 0)), .inl (σ 10 0 32 ((σ 10 0 31 0).toNat)), .inl (r3.1)] [] r3.2) rfl ?_
        refine ox_R_if (fun _ => ?_) (fun _ => ?_)
        · refine ox_R_to 4 (Y := if (r3.2 10 0 13 0) = 3 then ox_ev m_Mod_export (ox_zz ox_ms (n + 1212)) 131 0 tl [.inr (.inr (10, 0, 0)), .inl (σ 10 0 32 ((σ 10 0 31 0).toNat)), .inl (r3.1)] [] r3.2 else ox_ev m_Mod_export (ox_zz ox_ms (n + 1212)) 152 0 tl [.inr (.inr (10, 0, 0)), .inl (σ 10 0 32 ((σ 10 0 31 0).toNat)), .inl (r3.1)] [] r3.2) rfl ?_
          refine ox_R_if (fun _ => ?_) (fun _ => ?_)
          · refine ox_R_to 8 (Y := ox_back m_Mod_export 142 1 [.inr (.inr (10, 0, 0)), .inl (r3.2 10 0 31 0), .inr (.inr (110, 0, 32))] ((ox_zz ox_ms (n + 1212)) 113 tl [.inr (.inr (10, 0, 0)), .inl (σ 10 0 32 ((σ 10 0 31 0).toNat))] r3.2) (fun pc9 x9 st9 σ9 => ox_ev m_Mod_export (ox_zz ox_ms (n + 1212)) pc9 0 tl (ox_kl (m_Mod_export.2.2.1 pc9) (ox_xl x9 [.inr (.inr (10, 0, 0)), .inl (σ 10 0 32 ((σ 10 0 31 0).toNat)), .inl (r3.1)])) st9 σ9)) rfl ?_
            refine ox_R_call (fc := (fun r : Int => ((.inl (some (.inl r)), r3.2) : ox_O))) (L_Mod_entryOf (σ 10 0 32 ((σ 10 0 31 0).toNat)) r3.2 (n + 1211) tl) (fun r4 => ?_)
            refine ox_R_of (Y := ox_ev m_Mod_export (ox_zz ox_ms (n + 1212)) 145 0 tl [.inr (.inr (10, 0, 0)), .inl (σ 10 0 32 ((σ 10 0 31 0).toNat)), .inl (r3.1)] [.inl (r4), .inr (.inr (10, 0, 0)), .inl (r3.2 10 0 31 0), .inr (.inr (110, 0, 32))] r3.2) rfl ?_
            refine ox_R_to 1 (Y := ox_back m_Mod_export 145 1 [.inl (r3.2 10 0 31 0), .inr (.inr (110, 0, 32))] ((ox_zz ox_ms (n + 1212)) 78 tl [.inr (.inr (10, 0, 0)), .inl (r4)] r3.2) (fun pc9 x9 st9 σ9 => ox_ev m_Mod_export (ox_zz ox_ms (n + 1212)) pc9 0 tl (ox_kl (m_Mod_export.2.2.1 pc9) (ox_xl x9 [.inr (.inr (10, 0, 0)), .inl (σ 10 0 32 ((σ 10 0 31 0).toNat)), .inl (r3.1)])) st9 σ9)) rfl ?_
            refine ox_R_call (fc := (fun r : Int × ox_H => ((.inl (some (.inl r.1)), r.2) : ox_O))) (L_Mod_end r4 r3.2 (n + 1205) tl) (fun r5 => ?_)
            refine ox_R_of (Y := ox_ev m_Mod_export (ox_zz ox_ms (n + 1212)) 148 0 tl [.inr (.inr (10, 0, 0)), .inl (σ 10 0 32 ((σ 10 0 31 0).toNat)), .inl (r3.1)] [.inl (r5.1), .inl (r3.2 10 0 31 0), .inr (.inr (110, 0, 32))] r5.2) rfl ?_
            refine ox_R_to 1 (Y := if 0 ≤ (r3.2 10 0 31 0) ∧ (r3.2 10 0 31 0).toNat < 4 then ox_ev m_Mod_export (ox_zz ox_ms (n + 1212)) 149 0 tl [.inr (.inr (10, 0, 0)), .inl (σ 10 0 32 ((σ 10 0 31 0).toNat)), .inl (r3.1)] [] (ox_up r5.2 10 0 32 ((r3.2 10 0 31 0).toNat) r5.1) else none) rfl ?_
            refine ox_R_if (fun _ => ?_) (fun _ => ox_R_none)
            refine ox_R_to 1 (Y := ox_ev m_Mod_export (ox_zz ox_ms (n + 1212)) 204 0 tl [.inr (.inr (10, 0, 0)), ox_d, ox_d] [] (ox_up r5.2 10 0 32 ((r3.2 10 0 31 0).toNat) r5.1)) rfl ?_
            exact (L_Mod_export_204 (ox_up r5.2 10 0 32 ((r3.2 10 0 31 0).toNat) r5.1) n tl)
          · exact (L_Mod_export_152 (σ 10 0 32 ((σ 10 0 31 0).toNat)) r3.1 r3.2 n tl)
        · exact (L_Mod_export_152 (σ 10 0 32 ((σ 10 0 31 0).toNat)) r3.1 r3.2 n tl)
      · refine ox_R_to 7 (Y := ox_ev m_Mod_export (ox_zz ox_ms (n + 1212)) 204 0 tl [.inr (.inr (10, 0, 0)), ox_d, ox_d] [] (ox_up σ 10 0 31 0 (ox_w ((σ 10 0 31 0) - 1)))) rfl ?_
        exact (L_Mod_export_204 (ox_up σ 10 0 31 0 (ox_w ((σ 10 0 31 0) - 1))) n tl)
def F_Mod_export  (σ : ox_H) : Option (ox_H) := (F_Mod_find σ).bind fun r6 => (J_Mod_export_48 (ox_up (ox_up (ox_up (ox_up (ox_up (ox_up r6 10 0 36 0 (ox_w ((r6 10 0 36 0) + 1))) 10 0 45 0 0) 10 0 31 0 0) 10 0 32 0 0) 10 0 33 0 (r6 10 0 2 0)) 10 0 34 0 0))
theorem L_Mod_export  (σ : ox_H) (n tl : Nat) : ox_R (fun r => some ((fun r : ox_H => ((.inl none, r) : ox_O)) r)) (F_Mod_export σ) (ox_zz ox_ms (n + 1213) 135 tl [.inr (.inr (10, 0, 0))] σ) := by
  unfold F_Mod_export
  refine ox_R_of (Y := ox_ev m_Mod_export (ox_zz ox_ms (n + 1212)) 0 0 tl [.inr (.inr (10, 0, 0)), ox_d, ox_d] [] σ) rfl ?_
  refine ox_R_to 2 (Y := ox_back m_Mod_export 1 0 [] ((ox_zz ox_ms (n + 1212)) 72 tl [.inr (.inr (10, 0, 0))] σ) (fun pc9 x9 st9 σ9 => ox_ev m_Mod_export (ox_zz ox_ms (n + 1212)) pc9 0 tl (ox_kl (m_Mod_export.2.2.1 pc9) (ox_xl x9 [.inr (.inr (10, 0, 0)), ox_d, ox_d])) st9 σ9)) rfl ?_
  refine ox_R_call (fc := (fun r : ox_H => ((.inl none, r) : ox_O))) (L_Mod_find σ (n + 1207) tl) (fun r6 => ?_)
  refine ox_R_of (Y := ox_ev m_Mod_export (ox_zz ox_ms (n + 1212)) 4 0 tl [.inr (.inr (10, 0, 0)), ox_d, ox_d] [] r6) rfl ?_
  refine ox_R_to 28 (Y := ox_ev m_Mod_export (ox_zz ox_ms (n + 1212)) 48 0 tl [.inr (.inr (10, 0, 0)), ox_d, ox_d] [] (ox_up (ox_up (ox_up (ox_up (ox_up (ox_up r6 10 0 36 0 (ox_w ((r6 10 0 36 0) + 1))) 10 0 45 0 0) 10 0 31 0 0) 10 0 32 0 0) 10 0 33 0 (r6 10 0 2 0)) 10 0 34 0 0)) rfl ?_
  exact (L_Mod_export_48 (ox_up (ox_up (ox_up (ox_up (ox_up (ox_up r6 10 0 36 0 (ox_w ((r6 10 0 36 0) + 1))) 10 0 45 0 0) 10 0 31 0 0) 10 0 32 0 0) 10 0 33 0 (r6 10 0 2 0)) 10 0 34 0 0) n tl)
def F_Mod_exported  (σ : ox_H) : Option (Int × ox_H) := (F_Mod_holds 0 σ).bind fun r1 => ((F_Mod_export r1.2).bind fun r2 => (some (r2 10 0 45 0, r2)))
theorem L_Mod_exported  (σ : ox_H) (n tl : Nat) : ox_R (fun r => some ((fun r : Int × ox_H => ((.inl (some (.inl r.1)), r.2) : ox_O)) r)) (F_Mod_exported σ) (ox_zz ox_ms (n + 1214) 137 tl [.inr (.inr (10, 0, 0))] σ) := by
  unfold F_Mod_exported
  refine ox_R_of (Y := ox_ev m_Mod_exported (ox_zz ox_ms (n + 1213)) 0 0 tl [.inr (.inr (10, 0, 0))] [] σ) rfl ?_
  refine ox_R_to 3 (Y := ox_back m_Mod_exported 2 1 [] ((ox_zz ox_ms (n + 1213)) 43 tl [.inr (.inr (10, 0, 0)), .inl (0)] σ) (fun pc9 x9 st9 σ9 => ox_ev m_Mod_exported (ox_zz ox_ms (n + 1213)) pc9 0 tl (ox_kl (m_Mod_exported.2.2.1 pc9) (ox_xl x9 [.inr (.inr (10, 0, 0))])) st9 σ9)) rfl ?_
  refine ox_R_call (fc := (fun r : Int × ox_H => ((.inl (some (.inl r.1)), r.2) : ox_O))) (L_Mod_holds 0 σ (n + 1212) tl) (fun r1 => ?_)
  refine ox_R_of (Y := ox_ev m_Mod_exported (ox_zz ox_ms (n + 1213)) 5 0 tl [.inr (.inr (10, 0, 0))] [.inl (r1.1)] r1.2) rfl ?_
  refine ox_R_to 3 (Y := ox_back m_Mod_exported 7 0 [] ((ox_zz ox_ms (n + 1213)) 135 tl [.inr (.inr (10, 0, 0))] r1.2) (fun pc9 x9 st9 σ9 => ox_ev m_Mod_exported (ox_zz ox_ms (n + 1213)) pc9 0 tl (ox_kl (m_Mod_exported.2.2.1 pc9) (ox_xl x9 [.inr (.inr (10, 0, 0))])) st9 σ9)) rfl ?_
  refine ox_R_call (fc := (fun r : ox_H => ((.inl none, r) : ox_O))) (L_Mod_export r1.2 (n + 0) tl) (fun r2 => ?_)
  refine ox_R_of (Y := ox_ev m_Mod_exported (ox_zz ox_ms (n + 1213)) 10 0 tl [.inr (.inr (10, 0, 0))] [] r2) rfl ?_
  refine ox_R_to 3 (Y := some (.inl (some (.inl (r2 10 0 45 0))), r2)) rfl ?_
  exact ox_R_ret rfl
def J_Mod_exportedAt_63  (s0 : Int) (σ : ox_H) : Option (Int × ox_H) := some (s0 % 65536, σ)
theorem L_Mod_exportedAt_63  (s0 : Int) (σ : ox_H) (n tl : Nat) : ox_R (fun r => some ((fun r : Int × ox_H => ((.inl (some (.inl r.1)), r.2) : ox_O)) r)) (J_Mod_exportedAt_63 s0 σ) (ox_ev m_Mod_exportedAt (ox_zz ox_ms (n + 1213)) 63 0 tl [ox_d, ox_d, ox_d] [.inl (s0)] σ) := by
  unfold J_Mod_exportedAt_63
  refine ox_R_to 1 (Y := some (.inl (some (.inl (s0 % 65536))), σ)) rfl ?_
  exact ox_R_ret rfl
def J_Mod_exportedAt_29  (v1 : Int) (v2 : Int) (s0 : Int) (σ : ox_H) : Option (Int × ox_H) := (F_Mod_holds s0 σ).bind fun r1 => (if r1.1 = 0 then (if 0 ≤ v1 ∧ v1.toNat < 100 then (if (r1.2 10 0 44 v1.toNat) ≤ v2 then (J_Mod_exportedAt_63 0 r1.2) else (if 0 ≤ (ox_w ((ox_w (120 * v1)) + v2)) ∧ (ox_w ((ox_w (120 * v1)) + v2)).toNat < 12000 then (J_Mod_exportedAt_63 ((r1.2 10 0 43 ((ox_w ((ox_w (120 * v1)) + v2)).toNat)) % 65536) r1.2) else none)) else none) else (some (0, r1.2)))
theorem L_Mod_exportedAt_29  (v1 : Int) (v2 : Int) (s0 : Int) (σ : ox_H) (n tl : Nat) : ox_R (fun r => some ((fun r : Int × ox_H => ((.inl (some (.inl r.1)), r.2) : ox_O)) r)) (J_Mod_exportedAt_29 v1 v2 s0 σ) (ox_ev m_Mod_exportedAt (ox_zz ox_ms (n + 1213)) 29 0 tl [.inr (.inr (10, 0, 0)), .inl (v1), .inl (v2)] [.inl (s0), .inr (.inr (10, 0, 0))] σ) := by
  unfold J_Mod_exportedAt_29
  refine ox_R_to 1 (Y := ox_back m_Mod_exportedAt 29 1 [] ((ox_zz ox_ms (n + 1213)) 43 tl [.inr (.inr (10, 0, 0)), .inl (s0)] σ) (fun pc9 x9 st9 σ9 => ox_ev m_Mod_exportedAt (ox_zz ox_ms (n + 1213)) pc9 0 tl (ox_kl (m_Mod_exportedAt.2.2.1 pc9) (ox_xl x9 [.inr (.inr (10, 0, 0)), .inl (v1), .inl (v2)])) st9 σ9)) rfl ?_
  refine ox_R_call (fc := (fun r : Int × ox_H => ((.inl (some (.inl r.1)), r.2) : ox_O))) (L_Mod_holds s0 σ (n + 1212) tl) (fun r1 => ?_)
  refine ox_R_of (Y := ox_ev m_Mod_exportedAt (ox_zz ox_ms (n + 1213)) 32 0 tl [.inr (.inr (10, 0, 0)), .inl (v1), .inl (v2)] [.inl (r1.1)] r1.2) rfl ?_
  refine ox_R_to 1 (Y := if r1.1 = 0 then ox_ev m_Mod_exportedAt (ox_zz ox_ms (n + 1213)) 37 0 tl [.inr (.inr (10, 0, 0)), .inl (v1), .inl (v2)] [] r1.2 else ox_ev m_Mod_exportedAt (ox_zz ox_ms (n + 1213)) 35 0 tl [.inr (.inr (10, 0, 0)), .inl (v1), .inl (v2)] [] r1.2) rfl ?_
  refine ox_R_if (fun _ => ?_) (fun _ => ?_)
  · refine ox_R_to 5 (Y := if 0 ≤ v1 ∧ v1.toNat < 100 then ox_ev m_Mod_exportedAt (ox_zz ox_ms (n + 1213)) 44 0 tl [.inr (.inr (10, 0, 0)), .inl (v1), .inl (v2)] [.inl (r1.2 10 0 44 v1.toNat), .inl (v2)] r1.2 else none) rfl ?_
    refine ox_R_if (fun _ => ?_) (fun _ => ox_R_none)
    refine ox_R_to 1 (Y := if (r1.2 10 0 44 v1.toNat) ≤ v2 then ox_ev m_Mod_exportedAt (ox_zz ox_ms (n + 1213)) 62 0 tl [.inr (.inr (10, 0, 0)), .inl (v1), .inl (v2)] [] r1.2 else ox_ev m_Mod_exportedAt (ox_zz ox_ms (n + 1213)) 47 0 tl [.inr (.inr (10, 0, 0)), .inl (v1), .inl (v2)] [] r1.2) rfl ?_
    refine ox_R_if (fun _ => ?_) (fun _ => ?_)
    · refine ox_R_to 1 (Y := ox_ev m_Mod_exportedAt (ox_zz ox_ms (n + 1213)) 63 0 tl [ox_d, ox_d, ox_d] [.inl (0)] r1.2) rfl ?_
      exact (L_Mod_exportedAt_63 0 r1.2 n tl)
    · refine ox_R_to 8 (Y := if 0 ≤ (ox_w ((ox_w (120 * v1)) + v2)) ∧ (ox_w ((ox_w (120 * v1)) + v2)).toNat < 12000 then ox_ev m_Mod_exportedAt (ox_zz ox_ms (n + 1213)) 58 0 tl [.inr (.inr (10, 0, 0)), .inl (v1), .inl (v2)] [.inl (r1.2 10 0 43 ((ox_w ((ox_w (120 * v1)) + v2)).toNat))] r1.2 else none) rfl ?_
      refine ox_R_if (fun _ => ?_) (fun _ => ox_R_none)
      refine ox_R_to 2 (Y := ox_ev m_Mod_exportedAt (ox_zz ox_ms (n + 1213)) 63 0 tl [ox_d, ox_d, ox_d] [.inl ((r1.2 10 0 43 ((ox_w ((ox_w (120 * v1)) + v2)).toNat)) % 65536)] r1.2) rfl ?_
      exact (L_Mod_exportedAt_63 ((r1.2 10 0 43 ((ox_w ((ox_w (120 * v1)) + v2)).toNat)) % 65536) r1.2 n tl)
  · refine ox_R_to 2 (Y := some (.inl (some (.inl (0))), r1.2)) rfl ?_
    exact ox_R_ret rfl
def J_Mod_exportedAt_28  (v1 : Int) (v2 : Int) (σ : ox_H) : Option (Int × ox_H) := (J_Mod_exportedAt_29 v1 v2 1 σ)
theorem L_Mod_exportedAt_28  (v1 : Int) (v2 : Int) (σ : ox_H) (n tl : Nat) : ox_R (fun r => some ((fun r : Int × ox_H => ((.inl (some (.inl r.1)), r.2) : ox_O)) r)) (J_Mod_exportedAt_28 v1 v2 σ) (ox_ev m_Mod_exportedAt (ox_zz ox_ms (n + 1213)) 28 0 tl [.inr (.inr (10, 0, 0)), .inl (v1), .inl (v2)] [.inr (.inr (10, 0, 0))] σ) := by
  unfold J_Mod_exportedAt_28
  refine ox_R_to 1 (Y := ox_ev m_Mod_exportedAt (ox_zz ox_ms (n + 1213)) 29 0 tl [.inr (.inr (10, 0, 0)), .inl (v1), .inl (v2)] [.inl (1), .inr (.inr (10, 0, 0))] σ) rfl ?_
  exact (L_Mod_exportedAt_29 v1 v2 1 σ n tl)
def F_Mod_exportedAt  (a1 : Int) (a2 : Int) (σ : ox_H) : Option (Int × ox_H) := (F_Mod_export σ).bind fun r2 => ((F_Mod_in a1 0 (ox_w ((r2 10 0 45 0) - 1)) r2).bind fun r3 => (if r3 = 0 then (J_Mod_exportedAt_28 a1 a2 r2) else (if a2 < 0 then (J_Mod_exportedAt_28 a1 a2 r2) else (J_Mod_exportedAt_29 a1 a2 0 r2))))
theorem L_Mod_exportedAt  (a1 : Int) (a2 : Int) (σ : ox_H) (n tl : Nat) : ox_R (fun r => some ((fun r : Int × ox_H => ((.inl (some (.inl r.1)), r.2) : ox_O)) r)) (F_Mod_exportedAt a1 a2 σ) (ox_zz ox_ms (n + 1214) 138 tl [.inr (.inr (10, 0, 0)), .inl (a1), .inl (a2)] σ) := by
  unfold F_Mod_exportedAt
  refine ox_R_of (Y := ox_ev m_Mod_exportedAt (ox_zz ox_ms (n + 1213)) 0 0 tl [.inr (.inr (10, 0, 0)), .inl (a1), .inl (a2)] [] σ) rfl ?_
  refine ox_R_to 2 (Y := ox_back m_Mod_exportedAt 1 0 [] ((ox_zz ox_ms (n + 1213)) 135 tl [.inr (.inr (10, 0, 0))] σ) (fun pc9 x9 st9 σ9 => ox_ev m_Mod_exportedAt (ox_zz ox_ms (n + 1213)) pc9 0 tl (ox_kl (m_Mod_exportedAt.2.2.1 pc9) (ox_xl x9 [.inr (.inr (10, 0, 0)), .inl (a1), .inl (a2)])) st9 σ9)) rfl ?_
  refine ox_R_call (fc := (fun r : ox_H => ((.inl none, r) : ox_O))) (L_Mod_export σ (n + 0) tl) (fun r2 => ?_)
  refine ox_R_of (Y := ox_ev m_Mod_exportedAt (ox_zz ox_ms (n + 1213)) 4 0 tl [.inr (.inr (10, 0, 0)), .inl (a1), .inl (a2)] [] r2) rfl ?_
  refine ox_R_to 9 (Y := ox_back m_Mod_exportedAt 14 1 [.inr (.inr (10, 0, 0))] ((ox_zz ox_ms (n + 1213)) 44 tl [.inr (.inr (10, 0, 0)), .inl (a1), .inl (0), .inl (ox_w ((r2 10 0 45 0) - 1))] r2) (fun pc9 x9 st9 σ9 => ox_ev m_Mod_exportedAt (ox_zz ox_ms (n + 1213)) pc9 0 tl (ox_kl (m_Mod_exportedAt.2.2.1 pc9) (ox_xl x9 [.inr (.inr (10, 0, 0)), .inl (a1), .inl (a2)])) st9 σ9)) rfl ?_
  refine ox_R_call (fc := (fun r : Int => ((.inl (some (.inl r)), r2) : ox_O))) (L_Mod_in a1 0 (ox_w ((r2 10 0 45 0) - 1)) r2 (n + 1212) tl) (fun r3 => ?_)
  refine ox_R_of (Y := ox_ev m_Mod_exportedAt (ox_zz ox_ms (n + 1213)) 17 0 tl [.inr (.inr (10, 0, 0)), .inl (a1), .inl (a2)] [.inl (r3), .inr (.inr (10, 0, 0))] r2) rfl ?_
  refine ox_R_to 1 (Y := if r3 = 0 then ox_ev m_Mod_exportedAt (ox_zz ox_ms (n + 1213)) 28 0 tl [.inr (.inr (10, 0, 0)), .inl (a1), .inl (a2)] [.inr (.inr (10, 0, 0))] r2 else ox_ev m_Mod_exportedAt (ox_zz ox_ms (n + 1213)) 20 0 tl [.inr (.inr (10, 0, 0)), .inl (a1), .inl (a2)] [.inr (.inr (10, 0, 0))] r2) rfl ?_
  refine ox_R_if (fun _ => ?_) (fun _ => ?_)
  · exact (L_Mod_exportedAt_28 a1 a2 r2 n tl)
  · refine ox_R_to 2 (Y := if a2 < 0 then ox_ev m_Mod_exportedAt (ox_zz ox_ms (n + 1213)) 28 0 tl [.inr (.inr (10, 0, 0)), .inl (a1), .inl (a2)] [.inr (.inr (10, 0, 0))] r2 else ox_ev m_Mod_exportedAt (ox_zz ox_ms (n + 1213)) 24 0 tl [.inr (.inr (10, 0, 0)), .inl (a1), .inl (a2)] [.inr (.inr (10, 0, 0))] r2) rfl ?_
    refine ox_R_if (fun _ => ?_) (fun _ => ?_)
    · exact (L_Mod_exportedAt_28 a1 a2 r2 n tl)
    · refine ox_R_to 2 (Y := ox_ev m_Mod_exportedAt (ox_zz ox_ms (n + 1213)) 29 0 tl [.inr (.inr (10, 0, 0)), .inl (a1), .inl (a2)] [.inl (0), .inr (.inr (10, 0, 0))] r2) rfl ?_
      exact (L_Mod_exportedAt_29 a1 a2 0 r2 n tl)
