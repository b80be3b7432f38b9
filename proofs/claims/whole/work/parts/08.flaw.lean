/-! ===== functions over whole numbers, by program out of the bytecode ===== -/
def F_Law_line  (a2 : Int) (σ : ox_H) : Option (Int × ox_H) := (F_Out_line a2 σ).bind fun r1 => match r1.1 with | .inl e3 => (if e3 = 1 then (some (1, r1.2)) else if e3 = 3 then (some (2, r1.2)) else none) | .inr x2 => (some (0, (ox_up r1.2 21 0 0 0 x2)))
theorem L_Law_line  (a2 : Int) (σ : ox_H) (n tl : Nat) : ox_R (fun r => some ((fun r : Int × ox_H => ((.inl (some (.inl r.1)), r.2) : ox_O)) r)) (F_Law_line a2 σ) (ox_zz ox_ms (n + 4) 238 tl [.inr (.inr (0, 0, 0)), .inl (a2), .inr (.inr (121, 0, 0))] σ) := by
  unfold F_Law_line
  refine ox_R_of (Y := ox_ev m_Law_line (ox_zz ox_ms (n + 3)) 0 2 tl [.inr (.inr (0, 0, 0)), .inl (a2), .inr (.inr (121, 0, 0)), ox_d] [] σ) rfl ?_
  refine ox_R_to 5 (Y := ox_back m_Law_line 4 1 [.inl (0), .inr (.inr (121, 0, 0))] ((ox_zz ox_ms (n + 3)) 0 tl [.inr (.inr (0, 0, 0)), .inl (a2)] σ) (fun pc9 x9 st9 σ9 => ox_ev m_Law_line (ox_zz ox_ms (n + 3)) pc9 0 tl (ox_kl (m_Law_line.2.2.1 pc9) (ox_xl x9 [.inr (.inr (0, 0, 0)), .inl (a2), .inr (.inr (121, 0, 0)), ox_d])) st9 σ9)) rfl ?_
  refine ox_R_call (fc := (fun r : (Nat ⊕ Int) × ox_H => (((Sum.elim (fun e : Nat => (.inr e : Option ox_V ⊕ Nat)) (fun v : Int => .inl (some (.inl v))) r.1), r.2) : ox_O))) (L_Out_line a2 σ (n + 0) tl) (fun r1 => ?_)
  rcases r1 with ⟨e3 | x2, r19⟩
  · by_cases hc1 : e3 = 1
    · subst hc1
      refine ox_R_of (Y := ox_ev m_Law_line (ox_zz ox_ms (n + 3)) 13 0 tl [.inr (.inr (0, 0, 0)), .inl (a2), .inr (.inr (121, 0, 0)), ox_d] [] r19) rfl ?_
      refine ox_R_to 2 (Y := some (.inl (some (.inl (1))), r19)) rfl ?_
      exact ox_R_ret rfl
    by_cases hc3 : e3 = 3
    · subst hc3
      refine ox_R_of (Y := ox_ev m_Law_line (ox_zz ox_ms (n + 3)) 16 0 tl [.inr (.inr (0, 0, 0)), .inl (a2), .inr (.inr (121, 0, 0)), ox_d] [] r19) rfl ?_
      refine ox_R_to 2 (Y := some (.inl (some (.inl (2))), r19)) rfl ?_
      exact ox_R_ret rfl
    simp only [hc1, hc3, if_false]; exact ox_R_none
  · refine ox_R_of (Y := ox_ev m_Law_line (ox_zz ox_ms (n + 3)) 7 0 tl [.inr (.inr (0, 0, 0)), .inl (a2), .inr (.inr (121, 0, 0)), ox_d] [.inl (x2), .inl (0), .inr (.inr (121, 0, 0))] r19) rfl ?_
    refine ox_R_to 5 (Y := some (.inl (some (.inl (0))), (ox_up r19 21 0 0 0 x2))) rfl ?_
    exact ox_R_ret rfl
def F_Law_sign  (a2 : Int) (a3 : Int) (σ : ox_H) : Option (Int × ox_H) := (F_Out_sign a2 a3 σ).bind fun r1 => match r1.1 with | .inl e3 => (if e3 = 1 then (some (1, r1.2)) else if e3 = 2 then (some (2, r1.2)) else if e3 = 3 then (some (3, r1.2)) else none) | .inr x2 => (some (0, (ox_up r1.2 21 0 0 0 x2)))
theorem L_Law_sign  (a2 : Int) (a3 : Int) (σ : ox_H) (n tl : Nat) : ox_R (fun r => some ((fun r : Int × ox_H => ((.inl (some (.inl r.1)), r.2) : ox_O)) r)) (F_Law_sign a2 a3 σ) (ox_zz ox_ms (n + 4) 239 tl [.inr (.inr (0, 0, 0)), .inl (a2), .inl (a3), .inr (.inr (121, 0, 0))] σ) := by
  unfold F_Law_sign
  refine ox_R_of (Y := ox_ev m_Law_sign (ox_zz ox_ms (n + 3)) 0 2 tl [.inr (.inr (0, 0, 0)), .inl (a2), .inl (a3), .inr (.inr (121, 0, 0)), ox_d] [] σ) rfl ?_
  refine ox_R_to 6 (Y := ox_back m_Law_sign 5 1 [.inl (0), .inr (.inr (121, 0, 0))] ((ox_zz ox_ms (n + 3)) 1 tl [.inr (.inr (0, 0, 0)), .inl (a2), .inl (a3)] σ) (fun pc9 x9 st9 σ9 => ox_ev m_Law_sign (ox_zz ox_ms (n + 3)) pc9 0 tl (ox_kl (m_Law_sign.2.2.1 pc9) (ox_xl x9 [.inr (.inr (0, 0, 0)), .inl (a2), .inl (a3), .inr (.inr (121, 0, 0)), ox_d])) st9 σ9)) rfl ?_
  refine ox_R_call (fc := (fun r : (Nat ⊕ Int) × ox_H => (((Sum.elim (fun e : Nat => (.inr e : Option ox_V ⊕ Nat)) (fun v : Int => .inl (some (.inl v))) r.1), r.2) : ox_O))) (L_Out_sign a2 a3 σ (n + 0) tl) (fun r1 => ?_)
  rcases r1 with ⟨e3 | x2, r19⟩
  · by_cases hc1 : e3 = 1
    · subst hc1
      refine ox_R_of (Y := ox_ev m_Law_sign (ox_zz ox_ms (n + 3)) 15 0 tl [.inr (.inr (0, 0, 0)), .inl (a2), .inl (a3), .inr (.inr (121, 0, 0)), ox_d] [] r19) rfl ?_
      refine ox_R_to 2 (Y := some (.inl (some (.inl (1))), r19)) rfl ?_
      exact ox_R_ret rfl
    by_cases hc2 : e3 = 2
    · subst hc2
      refine ox_R_of (Y := ox_ev m_Law_sign (ox_zz ox_ms (n + 3)) 19 0 tl [.inr (.inr (0, 0, 0)), .inl (a2), .inl (a3), .inr (.inr (121, 0, 0)), ox_d] [] r19) rfl ?_
      refine ox_R_to 2 (Y := some (.inl (some (.inl (2))), r19)) rfl ?_
      exact ox_R_ret rfl
    by_cases hc3 : e3 = 3
    · subst hc3
      refine ox_R_of (Y := ox_ev m_Law_sign (ox_zz ox_ms (n + 3)) 23 0 tl [.inr (.inr (0, 0, 0)), .inl (a2), .inl (a3), .inr (.inr (121, 0, 0)), ox_d] [] r19) rfl ?_
      refine ox_R_to 2 (Y := some (.inl (some (.inl (3))), r19)) rfl ?_
      exact ox_R_ret rfl
    simp only [hc1, hc2, hc3, if_false]; exact ox_R_none
  · refine ox_R_of (Y := ox_ev m_Law_sign (ox_zz ox_ms (n + 3)) 8 0 tl [.inr (.inr (0, 0, 0)), .inl (a2), .inl (a3), .inr (.inr (121, 0, 0)), ox_d] [.inl (x2), .inl (0), .inr (.inr (121, 0, 0))] r19) rfl ?_
    refine ox_R_to 5 (Y := some (.inl (some (.inl (0))), (ox_up r19 21 0 0 0 x2))) rfl ?_
    exact ox_R_ret rfl
def F_Law_rub  (a2 : Int) (σ : ox_H) : Option (Int × ox_H) := (F_Out_rub a2 σ).bind fun r1 => match r1.1 with | .inl e3 => (if e3 = 1 then (some (1, r1.2)) else none) | .inr x2 => (some (0, (ox_up r1.2 21 0 0 0 x2)))
theorem L_Law_rub  (a2 : Int) (σ : ox_H) (n tl : Nat) : ox_R (fun r => some ((fun r : Int × ox_H => ((.inl (some (.inl r.1)), r.2) : ox_O)) r)) (F_Law_rub a2 σ) (ox_zz ox_ms (n + 4) 240 tl [.inr (.inr (0, 0, 0)), .inl (a2), .inr (.inr (121, 0, 0))] σ) := by
  unfold F_Law_rub
  refine ox_R_of (Y := ox_ev m_Law_rub (ox_zz ox_ms (n + 3)) 0 1 tl [.inr (.inr (0, 0, 0)), .inl (a2), .inr (.inr (121, 0, 0)), ox_d] [] σ) rfl ?_
  refine ox_R_to 5 (Y := ox_back m_Law_rub 4 1 [.inl (0), .inr (.inr (121, 0, 0))] ((ox_zz ox_ms (n + 3)) 2 tl [.inr (.inr (0, 0, 0)), .inl (a2)] σ) (fun pc9 x9 st9 σ9 => ox_ev m_Law_rub (ox_zz ox_ms (n + 3)) pc9 0 tl (ox_kl (m_Law_rub.2.2.1 pc9) (ox_xl x9 [.inr (.inr (0, 0, 0)), .inl (a2), .inr (.inr (121, 0, 0)), ox_d])) st9 σ9)) rfl ?_
  refine ox_R_call (fc := (fun r : (Nat ⊕ Int) × ox_H => (((Sum.elim (fun e : Nat => (.inr e : Option ox_V ⊕ Nat)) (fun v : Int => .inl (some (.inl v))) r.1), r.2) : ox_O))) (L_Out_rub a2 σ (n + 0) tl) (fun r1 => ?_)
  rcases r1 with ⟨e3 | x2, r19⟩
  · by_cases hc1 : e3 = 1
    · subst hc1
      refine ox_R_of (Y := ox_ev m_Law_rub (ox_zz ox_ms (n + 3)) 13 0 tl [.inr (.inr (0, 0, 0)), .inl (a2), .inr (.inr (121, 0, 0)), ox_d] [] r19) rfl ?_
      refine ox_R_to 2 (Y := some (.inl (some (.inl (1))), r19)) rfl ?_
      exact ox_R_ret rfl
    simp only [hc1, if_false]; exact ox_R_none
  · refine ox_R_of (Y := ox_ev m_Law_rub (ox_zz ox_ms (n + 3)) 7 0 tl [.inr (.inr (0, 0, 0)), .inl (a2), .inr (.inr (121, 0, 0)), ox_d] [.inl (x2), .inl (0), .inr (.inr (121, 0, 0))] r19) rfl ?_
    refine ox_R_to 5 (Y := some (.inl (some (.inl (0))), (ox_up r19 21 0 0 0 x2))) rfl ?_
    exact ox_R_ret rfl
def F_Law_signAt  (a2 : Int) (a3 : Int) (σ : ox_H) : Option (Int × ox_H) := (F_Out_signAt a2 a3 σ).bind fun r1 => match r1 with | .inl e3 => (if e3 = 1 then (some (1, σ)) else none) | .inr x2 => (some (0, (ox_up σ 21 0 0 0 x2)))
theorem L_Law_signAt  (a2 : Int) (a3 : Int) (σ : ox_H) (n tl : Nat) : ox_R (fun r => some ((fun r : Int × ox_H => ((.inl (some (.inl r.1)), r.2) : ox_O)) r)) (F_Law_signAt a2 a3 σ) (ox_zz ox_ms (n + 5) 241 tl [.inr (.inr (0, 0, 0)), .inl (a2), .inl (a3), .inr (.inr (121, 0, 0))] σ) := by
  unfold F_Law_signAt
  refine ox_R_of (Y := ox_ev m_Law_signAt (ox_zz ox_ms (n + 4)) 0 2 tl [.inr (.inr (0, 0, 0)), .inl (a2), .inl (a3), .inr (.inr (121, 0, 0)), ox_d] [] σ) rfl ?_
  refine ox_R_to 6 (Y := ox_back m_Law_signAt 5 1 [.inl (0), .inr (.inr (121, 0, 0))] ((ox_zz ox_ms (n + 4)) 4 tl [.inr (.inr (0, 0, 0)), .inl (a2), .inl (a3)] σ) (fun pc9 x9 st9 σ9 => ox_ev m_Law_signAt (ox_zz ox_ms (n + 4)) pc9 0 tl (ox_kl (m_Law_signAt.2.2.1 pc9) (ox_xl x9 [.inr (.inr (0, 0, 0)), .inl (a2), .inl (a3), .inr (.inr (121, 0, 0)), ox_d])) st9 σ9)) rfl ?_
  refine ox_R_call (fc := (fun r : (Nat ⊕ Int) => (((Sum.elim (fun e : Nat => (.inr e : Option ox_V ⊕ Nat)) (fun v : Int => .inl (some (.inl v))) r), σ) : ox_O))) (L_Out_signAt a2 a3 σ (n + 0) tl) (fun r1 => ?_)
  rcases r1 with e3 | x2
  · by_cases hc1 : e3 = 1
    · subst hc1
      refine ox_R_of (Y := ox_ev m_Law_signAt (ox_zz ox_ms (n + 4)) 15 0 tl [.inr (.inr (0, 0, 0)), .inl (a2), .inl (a3), .inr (.inr (121, 0, 0)), ox_d] [] σ) rfl ?_
      refine ox_R_to 2 (Y := some (.inl (some (.inl (1))), σ)) rfl ?_
      exact ox_R_ret rfl
    simp only [hc1, if_false]; exact ox_R_none
  · refine ox_R_of (Y := ox_ev m_Law_signAt (ox_zz ox_ms (n + 4)) 8 0 tl [.inr (.inr (0, 0, 0)), .inl (a2), .inl (a3), .inr (.inr (121, 0, 0)), ox_d] [.inl (x2), .inl (0), .inr (.inr (121, 0, 0))] σ) rfl ?_
    refine ox_R_to 5 (Y := some (.inl (some (.inl (0))), (ox_up σ 21 0 0 0 x2))) rfl ?_
    exact ox_R_ret rfl
def F_Law_kind  (a2 : Int) (σ : ox_H) : Option (Int × ox_H) := (F_Out_kind a2 σ).bind fun r1 => match r1.1 with | .inl e3 => (if e3 = 1 then (some (1, r1.2)) else none) | .inr x2 => (some (0, (ox_up r1.2 21 0 0 0 x2)))
theorem L_Law_kind  (a2 : Int) (σ : ox_H) (n tl : Nat) : ox_R (fun r => some ((fun r : Int × ox_H => ((.inl (some (.inl r.1)), r.2) : ox_O)) r)) (F_Law_kind a2 σ) (ox_zz ox_ms (n + 8) 242 tl [.inr (.inr (0, 0, 0)), .inl (a2), .inr (.inr (121, 0, 0))] σ) := by
  unfold F_Law_kind
  refine ox_R_of (Y := ox_ev m_Law_kind (ox_zz ox_ms (n + 7)) 0 1 tl [.inr (.inr (0, 0, 0)), .inl (a2), .inr (.inr (121, 0, 0)), ox_d] [] σ) rfl ?_
  refine ox_R_to 5 (Y := ox_back m_Law_kind 4 1 [.inl (0), .inr (.inr (121, 0, 0))] ((ox_zz ox_ms (n + 7)) 5 tl [.inr (.inr (0, 0, 0)), .inl (a2)] σ) (fun pc9 x9 st9 σ9 => ox_ev m_Law_kind (ox_zz ox_ms (n + 7)) pc9 0 tl (ox_kl (m_Law_kind.2.2.1 pc9) (ox_xl x9 [.inr (.inr (0, 0, 0)), .inl (a2), .inr (.inr (121, 0, 0)), ox_d])) st9 σ9)) rfl ?_
  refine ox_R_call (fc := (fun r : (Nat ⊕ Int) × ox_H => (((Sum.elim (fun e : Nat => (.inr e : Option ox_V ⊕ Nat)) (fun v : Int => .inl (some (.inl v))) r.1), r.2) : ox_O))) (L_Out_kind a2 σ (n + 0) tl) (fun r1 => ?_)
  rcases r1 with ⟨e3 | x2, r19⟩
  · by_cases hc1 : e3 = 1
    · subst hc1
      refine ox_R_of (Y := ox_ev m_Law_kind (ox_zz ox_ms (n + 7)) 13 0 tl [.inr (.inr (0, 0, 0)), .inl (a2), .inr (.inr (121, 0, 0)), ox_d] [] r19) rfl ?_
      refine ox_R_to 2 (Y := some (.inl (some (.inl (1))), r19)) rfl ?_
      exact ox_R_ret rfl
    simp only [hc1, if_false]; exact ox_R_none
  · refine ox_R_of (Y := ox_ev m_Law_kind (ox_zz ox_ms (n + 7)) 7 0 tl [.inr (.inr (0, 0, 0)), .inl (a2), .inr (.inr (121, 0, 0)), ox_d] [.inl (x2), .inl (0), .inr (.inr (121, 0, 0))] r19) rfl ?_
    refine ox_R_to 5 (Y := some (.inl (some (.inl (0))), (ox_up r19 21 0 0 0 x2))) rfl ?_
    exact ox_R_ret rfl
def F_Law_entry  (a2 : Int) (a3 : Int) (σ : ox_H) : Option (Int × ox_H) := (F_Out_entry a2 a3 σ).bind fun r1 => match r1.1 with | .inl e3 => (if e3 = 1 then (some (1, r1.2)) else if e3 = 2 then (some (2, r1.2)) else none) | .inr x2 => (some (0, (ox_up r1.2 21 0 0 0 x2)))
theorem L_Law_entry  (a2 : Int) (a3 : Int) (σ : ox_H) (n tl : Nat) : ox_R (fun r => some ((fun r : Int × ox_H => ((.inl (some (.inl r.1)), r.2) : ox_O)) r)) (F_Law_entry a2 a3 σ) (ox_zz ox_ms (n + 8) 243 tl [.inr (.inr (0, 0, 0)), .inl (a2), .inl (a3), .inr (.inr (121, 0, 0))] σ) := by
  unfold F_Law_entry
  refine ox_R_of (Y := ox_ev m_Law_entry (ox_zz ox_ms (n + 7)) 0 2 tl [.inr (.inr (0, 0, 0)), .inl (a2), .inl (a3), .inr (.inr (121, 0, 0)), ox_d] [] σ) rfl ?_
  refine ox_R_to 6 (Y := ox_back m_Law_entry 5 1 [.inl (0), .inr (.inr (121, 0, 0))] ((ox_zz ox_ms (n + 7)) 10 tl [.inr (.inr (0, 0, 0)), .inl (a2), .inl (a3)] σ) (fun pc9 x9 st9 σ9 => ox_ev m_Law_entry (ox_zz ox_ms (n + 7)) pc9 0 tl (ox_kl (m_Law_entry.2.2.1 pc9) (ox_xl x9 [.inr (.inr (0, 0, 0)), .inl (a2), .inl (a3), .inr (.inr (121, 0, 0)), ox_d])) st9 σ9)) rfl ?_
  refine ox_R_call (fc := (fun r : (Nat ⊕ Int) × ox_H => (((Sum.elim (fun e : Nat => (.inr e : Option ox_V ⊕ Nat)) (fun v : Int => .inl (some (.inl v))) r.1), r.2) : ox_O))) (L_Out_entry a2 a3 σ (n + 0) tl) (fun r1 => ?_)
  rcases r1 with ⟨e3 | x2, r19⟩
  · by_cases hc1 : e3 = 1
    · subst hc1
      refine ox_R_of (Y := ox_ev m_Law_entry (ox_zz ox_ms (n + 7)) 15 0 tl [.inr (.inr (0, 0, 0)), .inl (a2), .inl (a3), .inr (.inr (121, 0, 0)), ox_d] [] r19) rfl ?_
      refine ox_R_to 2 (Y := some (.inl (some (.inl (1))), r19)) rfl ?_
      exact ox_R_ret rfl
    by_cases hc2 : e3 = 2
    · subst hc2
      refine ox_R_of (Y := ox_ev m_Law_entry (ox_zz ox_ms (n + 7)) 19 0 tl [.inr (.inr (0, 0, 0)), .inl (a2), .inl (a3), .inr (.inr (121, 0, 0)), ox_d] [] r19) rfl ?_
      refine ox_R_to 2 (Y := some (.inl (some (.inl (2))), r19)) rfl ?_
      exact ox_R_ret rfl
    simp only [hc1, hc2, if_false]; exact ox_R_none
  · refine ox_R_of (Y := ox_ev m_Law_entry (ox_zz ox_ms (n + 7)) 8 0 tl [.inr (.inr (0, 0, 0)), .inl (a2), .inl (a3), .inr (.inr (121, 0, 0)), ox_d] [.inl (x2), .inl (0), .inr (.inr (121, 0, 0))] r19) rfl ?_
    refine ox_R_to 5 (Y := some (.inl (some (.inl (0))), (ox_up r19 21 0 0 0 x2))) rfl ?_
    exact ox_R_ret rfl
def F_Law_property  (a2 : Int) (a3 : Int) (a4 : Int) (σ : ox_H) : Option (Int × ox_H) := (F_Out_property a2 a3 a4 σ).bind fun r1 => match r1.1 with | .inl e3 => (if e3 = 1 then (some (1, r1.2)) else if e3 = 2 then (some (2, r1.2)) else none) | .inr x2 => (some (0, (ox_up r1.2 21 0 0 0 x2)))
theorem L_Law_property  (a2 : Int) (a3 : Int) (a4 : Int) (σ : ox_H) (n tl : Nat) : ox_R (fun r => some ((fun r : Int × ox_H => ((.inl (some (.inl r.1)), r.2) : ox_O)) r)) (F_Law_property a2 a3 a4 σ) (ox_zz ox_ms (n + 8) 244 tl [.inr (.inr (0, 0, 0)), .inl (a2), .inl (a3), .inl (a4), .inr (.inr (121, 0, 0))] σ) := by
  unfold F_Law_property
  refine ox_R_of (Y := ox_ev m_Law_property (ox_zz ox_ms (n + 7)) 0 2 tl [.inr (.inr (0, 0, 0)), .inl (a2), .inl (a3), .inl (a4), .inr (.inr (121, 0, 0)), ox_d] [] σ) rfl ?_
  refine ox_R_to 7 (Y := ox_back m_Law_property 7 1 [.inl (0), .inr (.inr (121, 0, 0))] ((ox_zz ox_ms (n + 7)) 11 tl [.inr (.inr (0, 0, 0)), .inl (a2), .inl (a3), .inl (a4)] σ) (fun pc9 x9 st9 σ9 => ox_ev m_Law_property (ox_zz ox_ms (n + 7)) pc9 0 tl (ox_kl (m_Law_property.2.2.1 pc9) (ox_xl x9 [.inr (.inr (0, 0, 0)), .inl (a2), .inl (a3), .inl (a4), .inr (.inr (121, 0, 0)), ox_d])) st9 σ9)) rfl ?_
  refine ox_R_call (fc := (fun r : (Nat ⊕ Int) × ox_H => (((Sum.elim (fun e : Nat => (.inr e : Option ox_V ⊕ Nat)) (fun v : Int => .inl (some (.inl v))) r.1), r.2) : ox_O))) (L_Out_property a2 a3 a4 σ (n + 0) tl) (fun r1 => ?_)
  rcases r1 with ⟨e3 | x2, r19⟩
  · by_cases hc1 : e3 = 1
    · subst hc1
      refine ox_R_of (Y := ox_ev m_Law_property (ox_zz ox_ms (n + 7)) 17 0 tl [.inr (.inr (0, 0, 0)), .inl (a2), .inl (a3), .inl (a4), .inr (.inr (121, 0, 0)), ox_d] [] r19) rfl ?_
      refine ox_R_to 2 (Y := some (.inl (some (.inl (1))), r19)) rfl ?_
      exact ox_R_ret rfl
    by_cases hc2 : e3 = 2
    · subst hc2
      refine ox_R_of (Y := ox_ev m_Law_property (ox_zz ox_ms (n + 7)) 21 0 tl [.inr (.inr (0, 0, 0)), .inl (a2), .inl (a3), .inl (a4), .inr (.inr (121, 0, 0)), ox_d] [] r19) rfl ?_
      refine ox_R_to 2 (Y := some (.inl (some (.inl (2))), r19)) rfl ?_
      exact ox_R_ret rfl
    simp only [hc1, hc2, if_false]; exact ox_R_none
  · refine ox_R_of (Y := ox_ev m_Law_property (ox_zz ox_ms (n + 7)) 10 0 tl [.inr (.inr (0, 0, 0)), .inl (a2), .inl (a3), .inl (a4), .inr (.inr (121, 0, 0)), ox_d] [.inl (x2), .inl (0), .inr (.inr (121, 0, 0))] r19) rfl ?_
    refine ox_R_to 5 (Y := some (.inl (some (.inl (0))), (ox_up r19 21 0 0 0 x2))) rfl ?_
    exact ox_R_ret rfl
def F_Law_shift  (a2 : Int) (a3 : Int) (σ : ox_H) : Option (Int × ox_H) := (F_Out_shift a2 a3 σ).bind fun r1 => match r1.1 with | .inl e3 => (if e3 = 1 then (some (1, r1.2)) else if e3 = 3 then (some (2, r1.2)) else none) | .inr x2 => (some (0, (ox_up r1.2 21 0 0 0 x2)))
theorem L_Law_shift  (a2 : Int) (a3 : Int) (σ : ox_H) (n tl : Nat) : ox_R (fun r => some ((fun r : Int × ox_H => ((.inl (some (.inl r.1)), r.2) : ox_O)) r)) (F_Law_shift a2 a3 σ) (ox_zz ox_ms (n + 8) 245 tl [.inr (.inr (0, 0, 0)), .inl (a2), .inl (a3), .inr (.inr (121, 0, 0))] σ) := by
  unfold F_Law_shift
  refine ox_R_of (Y := ox_ev m_Law_shift (ox_zz ox_ms (n + 7)) 0 2 tl [.inr (.inr (0, 0, 0)), .inl (a2), .inl (a3), .inr (.inr (121, 0, 0)), ox_d] [] σ) rfl ?_
  refine ox_R_to 6 (Y := ox_back m_Law_shift 5 1 [.inl (0), .inr (.inr (121, 0, 0))] ((ox_zz ox_ms (n + 7)) 12 tl [.inr (.inr (0, 0, 0)), .inl (a2), .inl (a3)] σ) (fun pc9 x9 st9 σ9 => ox_ev m_Law_shift (ox_zz ox_ms (n + 7)) pc9 0 tl (ox_kl (m_Law_shift.2.2.1 pc9) (ox_xl x9 [.inr (.inr (0, 0, 0)), .inl (a2), .inl (a3), .inr (.inr (121, 0, 0)), ox_d])) st9 σ9)) rfl ?_
  refine ox_R_call (fc := (fun r : (Nat ⊕ Int) × ox_H => (((Sum.elim (fun e : Nat => (.inr e : Option ox_V ⊕ Nat)) (fun v : Int => .inl (some (.inl v))) r.1), r.2) : ox_O))) (L_Out_shift a2 a3 σ (n + 0) tl) (fun r1 => ?_)
  rcases r1 with ⟨e3 | x2, r19⟩
  · by_cases hc1 : e3 = 1
    · subst hc1
      refine ox_R_of (Y := ox_ev m_Law_shift (ox_zz ox_ms (n + 7)) 15 0 tl [.inr (.inr (0, 0, 0)), .inl (a2), .inl (a3), .inr (.inr (121, 0, 0)), ox_d] [] r19) rfl ?_
      refine ox_R_to 2 (Y := some (.inl (some (.inl (1))), r19)) rfl ?_
      exact ox_R_ret rfl
    by_cases hc3 : e3 = 3
    · subst hc3
      refine ox_R_of (Y := ox_ev m_Law_shift (ox_zz ox_ms (n + 7)) 19 0 tl [.inr (.inr (0, 0, 0)), .inl (a2), .inl (a3), .inr (.inr (121, 0, 0)), ox_d] [] r19) rfl ?_
      refine ox_R_to 2 (Y := some (.inl (some (.inl (2))), r19)) rfl ?_
      exact ox_R_ret rfl
    simp only [hc1, hc3, if_false]; exact ox_R_none
  · refine ox_R_of (Y := ox_ev m_Law_shift (ox_zz ox_ms (n + 7)) 8 0 tl [.inr (.inr (0, 0, 0)), .inl (a2), .inl (a3), .inr (.inr (121, 0, 0)), ox_d] [.inl (x2), .inl (0), .inr (.inr (121, 0, 0))] r19) rfl ?_
    refine ox_R_to 5 (Y := some (.inl (some (.inl (0))), (ox_up r19 21 0 0 0 x2))) rfl ?_
    exact ox_R_ret rfl
def F_Law_refile  (a2 : Int) (a3 : Int) (a4 : Int) (σ : ox_H) : Option (Int × ox_H) := (F_Out_refile a2 a3 a4 σ).bind fun r1 => match r1.1 with | .inl e3 => (if e3 = 1 then (some (1, r1.2)) else if e3 = 3 then (some (2, r1.2)) else none) | .inr x2 => (some (0, (ox_up r1.2 21 0 0 0 x2)))
theorem L_Law_refile  (a2 : Int) (a3 : Int) (a4 : Int) (σ : ox_H) (n tl : Nat) : ox_R (fun r => some ((fun r : Int × ox_H => ((.inl (some (.inl r.1)), r.2) : ox_O)) r)) (F_Law_refile a2 a3 a4 σ) (ox_zz ox_ms (n + 8) 246 tl [.inr (.inr (0, 0, 0)), .inl (a2), .inl (a3), .inl (a4), .inr (.inr (121, 0, 0))] σ) := by
  unfold F_Law_refile
  refine ox_R_of (Y := ox_ev m_Law_refile (ox_zz ox_ms (n + 7)) 0 5 tl [.inr (.inr (0, 0, 0)), .inl (a2), .inl (a3), .inl (a4), .inr (.inr (121, 0, 0)), ox_d] [] σ) rfl ?_
  refine ox_R_to 7 (Y := ox_back m_Law_refile 7 1 [.inl (0), .inr (.inr (121, 0, 0))] ((ox_zz ox_ms (n + 7)) 13 tl [.inr (.inr (0, 0, 0)), .inl (a2), .inl (a3), .inl (a4)] σ) (fun pc9 x9 st9 σ9 => ox_ev m_Law_refile (ox_zz ox_ms (n + 7)) pc9 0 tl (ox_kl (m_Law_refile.2.2.1 pc9) (ox_xl x9 [.inr (.inr (0, 0, 0)), .inl (a2), .inl (a3), .inl (a4), .inr (.inr (121, 0, 0)), ox_d])) st9 σ9)) rfl ?_
  refine ox_R_call (fc := (fun r : (Nat ⊕ Int) × ox_H => (((Sum.elim (fun e : Nat => (.inr e : Option ox_V ⊕ Nat)) (fun v : Int => .inl (some (.inl v))) r.1), r.2) : ox_O))) (L_Out_refile a2 a3 a4 σ (n + 0) tl) (fun r1 => ?_)
  rcases r1 with ⟨e3 | x2, r19⟩
  · by_cases hc1 : e3 = 1
    · subst hc1
      refine ox_R_of (Y := ox_ev m_Law_refile (ox_zz ox_ms (n + 7)) 17 0 tl [.inr (.inr (0, 0, 0)), .inl (a2), .inl (a3), .inl (a4), .inr (.inr (121, 0, 0)), ox_d] [] r19) rfl ?_
      refine ox_R_to 2 (Y := some (.inl (some (.inl (1))), r19)) rfl ?_
      exact ox_R_ret rfl
    by_cases hc3 : e3 = 3
    · subst hc3
      refine ox_R_of (Y := ox_ev m_Law_refile (ox_zz ox_ms (n + 7)) 21 0 tl [.inr (.inr (0, 0, 0)), .inl (a2), .inl (a3), .inl (a4), .inr (.inr (121, 0, 0)), ox_d] [] r19) rfl ?_
      refine ox_R_to 2 (Y := some (.inl (some (.inl (2))), r19)) rfl ?_
      exact ox_R_ret rfl
    simp only [hc1, hc3, if_false]; exact ox_R_none
  · refine ox_R_of (Y := ox_ev m_Law_refile (ox_zz ox_ms (n + 7)) 10 0 tl [.inr (.inr (0, 0, 0)), .inl (a2), .inl (a3), .inl (a4), .inr (.inr (121, 0, 0)), ox_d] [.inl (x2), .inl (0), .inr (.inr (121, 0, 0))] r19) rfl ?_
    refine ox_R_to 5 (Y := some (.inl (some (.inl (0))), (ox_up r19 21 0 0 0 x2))) rfl ?_
    exact ox_R_ret rfl
def F_Law_state  (a2 : Int) (a3 : Int) (σ : ox_H) : Option (Int × ox_H) := (F_Out_state a2 a3 σ).bind fun r1 => match r1.1 with | .inl e3 => (if e3 = 1 then (some (1, r1.2)) else if e3 = 2 then (some (2, r1.2)) else if e3 = 3 then (some (3, r1.2)) else none) | .inr x2 => (some (0, (ox_up r1.2 21 0 0 0 x2)))
theorem L_Law_state  (a2 : Int) (a3 : Int) (σ : ox_H) (n tl : Nat) : ox_R (fun r => some ((fun r : Int × ox_H => ((.inl (some (.inl r.1)), r.2) : ox_O)) r)) (F_Law_state a2 a3 σ) (ox_zz ox_ms (n + 8) 247 tl [.inr (.inr (0, 0, 0)), .inl (a2), .inl (a3), .inr (.inr (121, 0, 0))] σ) := by
  unfold F_Law_state
  refine ox_R_of (Y := ox_ev m_Law_state (ox_zz ox_ms (n + 7)) 0 6 tl [.inr (.inr (0, 0, 0)), .inl (a2), .inl (a3), .inr (.inr (121, 0, 0)), ox_d] [] σ) rfl ?_
  refine ox_R_to 6 (Y := ox_back m_Law_state 5 1 [.inl (0), .inr (.inr (121, 0, 0))] ((ox_zz ox_ms (n + 7)) 14 tl [.inr (.inr (0, 0, 0)), .inl (a2), .inl (a3)] σ) (fun pc9 x9 st9 σ9 => ox_ev m_Law_state (ox_zz ox_ms (n + 7)) pc9 0 tl (ox_kl (m_Law_state.2.2.1 pc9) (ox_xl x9 [.inr (.inr (0, 0, 0)), .inl (a2), .inl (a3), .inr (.inr (121, 0, 0)), ox_d])) st9 σ9)) rfl ?_
  refine ox_R_call (fc := (fun r : (Nat ⊕ Int) × ox_H => (((Sum.elim (fun e : Nat => (.inr e : Option ox_V ⊕ Nat)) (fun v : Int => .inl (some (.inl v))) r.1), r.2) : ox_O))) (L_Out_state a2 a3 σ (n + 0) tl) (fun r1 => ?_)
  rcases r1 with ⟨e3 | x2, r19⟩
  · by_cases hc1 : e3 = 1
    · subst hc1
      refine ox_R_of (Y := ox_ev m_Law_state (ox_zz ox_ms (n + 7)) 15 0 tl [.inr (.inr (0, 0, 0)), .inl (a2), .inl (a3), .inr (.inr (121, 0, 0)), ox_d] [] r19) rfl ?_
      refine ox_R_to 2 (Y := some (.inl (some (.inl (1))), r19)) rfl ?_
      exact ox_R_ret rfl
    by_cases hc2 : e3 = 2
    · subst hc2
      refine ox_R_of (Y := ox_ev m_Law_state (ox_zz ox_ms (n + 7)) 19 0 tl [.inr (.inr (0, 0, 0)), .inl (a2), .inl (a3), .inr (.inr (121, 0, 0)), ox_d] [] r19) rfl ?_
      refine ox_R_to 2 (Y := some (.inl (some (.inl (2))), r19)) rfl ?_
      exact ox_R_ret rfl
    by_cases hc3 : e3 = 3
    · subst hc3
      refine ox_R_of (Y := ox_ev m_Law_state (ox_zz ox_ms (n + 7)) 23 0 tl [.inr (.inr (0, 0, 0)), .inl (a2), .inl (a3), .inr (.inr (121, 0, 0)), ox_d] [] r19) rfl ?_
      refine ox_R_to 2 (Y := some (.inl (some (.inl (3))), r19)) rfl ?_
      exact ox_R_ret rfl
    simp only [hc1, hc2, hc3, if_false]; exact ox_R_none
  · refine ox_R_of (Y := ox_ev m_Law_state (ox_zz ox_ms (n + 7)) 8 0 tl [.inr (.inr (0, 0, 0)), .inl (a2), .inl (a3), .inr (.inr (121, 0, 0)), ox_d] [.inl (x2), .inl (0), .inr (.inr (121, 0, 0))] r19) rfl ?_
    refine ox_R_to 5 (Y := some (.inl (some (.inl (0))), (ox_up r19 21 0 0 0 x2))) rfl ?_
    exact ox_R_ret rfl
def F_Law_capture  (a2 : Int) (a3 : Int) (σ : ox_H) : Option (Int × ox_H) := (F_Out_capture a2 a3 σ).bind fun r1 => match r1.1 with | .inl e3 => (if e3 = 2 then (some (1, r1.2)) else if e3 = 3 then (some (2, r1.2)) else none) | .inr x2 => (some (0, (ox_up r1.2 21 0 0 0 x2)))
theorem L_Law_capture  (a2 : Int) (a3 : Int) (σ : ox_H) (n tl : Nat) : ox_R (fun r => some ((fun r : Int × ox_H => ((.inl (some (.inl r.1)), r.2) : ox_O)) r)) (F_Law_capture a2 a3 σ) (ox_zz ox_ms (n + 8) 248 tl [.inr (.inr (0, 0, 0)), .inl (a2), .inl (a3), .inr (.inr (121, 0, 0))] σ) := by
  unfold F_Law_capture
  refine ox_R_of (Y := ox_ev m_Law_capture (ox_zz ox_ms (n + 7)) 0 4 tl [.inr (.inr (0, 0, 0)), .inl (a2), .inl (a3), .inr (.inr (121, 0, 0)), ox_d] [] σ) rfl ?_
  refine ox_R_to 6 (Y := ox_back m_Law_capture 5 1 [.inl (0), .inr (.inr (121, 0, 0))] ((ox_zz ox_ms (n + 7)) 15 tl [.inr (.inr (0, 0, 0)), .inl (a2), .inl (a3)] σ) (fun pc9 x9 st9 σ9 => ox_ev m_Law_capture (ox_zz ox_ms (n + 7)) pc9 0 tl (ox_kl (m_Law_capture.2.2.1 pc9) (ox_xl x9 [.inr (.inr (0, 0, 0)), .inl (a2), .inl (a3), .inr (.inr (121, 0, 0)), ox_d])) st9 σ9)) rfl ?_
  refine ox_R_call (fc := (fun r : (Nat ⊕ Int) × ox_H => (((Sum.elim (fun e : Nat => (.inr e : Option ox_V ⊕ Nat)) (fun v : Int => .inl (some (.inl v))) r.1), r.2) : ox_O))) (L_Out_capture a2 a3 σ (n + 0) tl) (fun r1 => ?_)
  rcases r1 with ⟨e3 | x2, r19⟩
  · by_cases hc2 : e3 = 2
    · subst hc2
      refine ox_R_of (Y := ox_ev m_Law_capture (ox_zz ox_ms (n + 7)) 15 0 tl [.inr (.inr (0, 0, 0)), .inl (a2), .inl (a3), .inr (.inr (121, 0, 0)), ox_d] [] r19) rfl ?_
      refine ox_R_to 2 (Y := some (.inl (some (.inl (1))), r19)) rfl ?_
      exact ox_R_ret rfl
    by_cases hc3 : e3 = 3
    · subst hc3
      refine ox_R_of (Y := ox_ev m_Law_capture (ox_zz ox_ms (n + 7)) 19 0 tl [.inr (.inr (0, 0, 0)), .inl (a2), .inl (a3), .inr (.inr (121, 0, 0)), ox_d] [] r19) rfl ?_
      refine ox_R_to 2 (Y := some (.inl (some (.inl (2))), r19)) rfl ?_
      exact ox_R_ret rfl
    simp only [hc2, hc3, if_false]; exact ox_R_none
  · refine ox_R_of (Y := ox_ev m_Law_capture (ox_zz ox_ms (n + 7)) 8 0 tl [.inr (.inr (0, 0, 0)), .inl (a2), .inl (a3), .inr (.inr (121, 0, 0)), ox_d] [.inl (x2), .inl (0), .inr (.inr (121, 0, 0))] r19) rfl ?_
    refine ox_R_to 5 (Y := some (.inl (some (.inl (0))), (ox_up r19 21 0 0 0 x2))) rfl ?_
    exact ox_R_ret rfl
def F_Law_archive  (a2 : Int) (σ : ox_H) : Option (Int × ox_H) := (F_Out_archive a2 σ).bind fun r1 => match r1.1 with | .inl e3 => (if e3 = 1 then (some (1, r1.2)) else if e3 = 3 then (some (2, r1.2)) else none) | .inr x2 => (some (0, (ox_up r1.2 21 0 0 0 x2)))
theorem L_Law_archive  (a2 : Int) (σ : ox_H) (n tl : Nat) : ox_R (fun r => some ((fun r : Int × ox_H => ((.inl (some (.inl r.1)), r.2) : ox_O)) r)) (F_Law_archive a2 σ) (ox_zz ox_ms (n + 8) 249 tl [.inr (.inr (0, 0, 0)), .inl (a2), .inr (.inr (121, 0, 0))] σ) := by
  unfold F_Law_archive
  refine ox_R_of (Y := ox_ev m_Law_archive (ox_zz ox_ms (n + 7)) 0 2 tl [.inr (.inr (0, 0, 0)), .inl (a2), .inr (.inr (121, 0, 0)), ox_d] [] σ) rfl ?_
  refine ox_R_to 5 (Y := ox_back m_Law_archive 4 1 [.inl (0), .inr (.inr (121, 0, 0))] ((ox_zz ox_ms (n + 7)) 16 tl [.inr (.inr (0, 0, 0)), .inl (a2)] σ) (fun pc9 x9 st9 σ9 => ox_ev m_Law_archive (ox_zz ox_ms (n + 7)) pc9 0 tl (ox_kl (m_Law_archive.2.2.1 pc9) (ox_xl x9 [.inr (.inr (0, 0, 0)), .inl (a2), .inr (.inr (121, 0, 0)), ox_d])) st9 σ9)) rfl ?_
  refine ox_R_call (fc := (fun r : (Nat ⊕ Int) × ox_H => (((Sum.elim (fun e : Nat => (.inr e : Option ox_V ⊕ Nat)) (fun v : Int => .inl (some (.inl v))) r.1), r.2) : ox_O))) (L_Out_archive a2 σ (n + 0) tl) (fun r1 => ?_)
  rcases r1 with ⟨e3 | x2, r19⟩
  · by_cases hc1 : e3 = 1
    · subst hc1
      refine ox_R_of (Y := ox_ev m_Law_archive (ox_zz ox_ms (n + 7)) 13 0 tl [.inr (.inr (0, 0, 0)), .inl (a2), .inr (.inr (121, 0, 0)), ox_d] [] r19) rfl ?_
      refine ox_R_to 2 (Y := some (.inl (some (.inl (1))), r19)) rfl ?_
      exact ox_R_ret rfl
    by_cases hc3 : e3 = 3
    · subst hc3
      refine ox_R_of (Y := ox_ev m_Law_archive (ox_zz ox_ms (n + 7)) 16 0 tl [.inr (.inr (0, 0, 0)), .inl (a2), .inr (.inr (121, 0, 0)), ox_d] [] r19) rfl ?_
      refine ox_R_to 2 (Y := some (.inl (some (.inl (2))), r19)) rfl ?_
      exact ox_R_ret rfl
    simp only [hc1, hc3, if_false]; exact ox_R_none
  · refine ox_R_of (Y := ox_ev m_Law_archive (ox_zz ox_ms (n + 7)) 7 0 tl [.inr (.inr (0, 0, 0)), .inl (a2), .inr (.inr (121, 0, 0)), ox_d] [.inl (x2), .inl (0), .inr (.inr (121, 0, 0))] r19) rfl ?_
    refine ox_R_to 5 (Y := some (.inl (some (.inl (0))), (ox_up r19 21 0 0 0 x2))) rfl ?_
    exact ox_R_ret rfl
def F_Law_bringBack  (σ : ox_H) : Option (Int × ox_H) := (F_Out_bringBack σ).bind fun r1 => match r1.1 with | .inl e3 => (if e3 = 3 then (some (1, r1.2)) else none) | .inr x2 => (some (0, (ox_up r1.2 21 0 0 0 x2)))
theorem L_Law_bringBack  (σ : ox_H) (n tl : Nat) : ox_R (fun r => some ((fun r : Int × ox_H => ((.inl (some (.inl r.1)), r.2) : ox_O)) r)) (F_Law_bringBack σ) (ox_zz ox_ms (n + 8) 250 tl [.inr (.inr (0, 0, 0)), .inr (.inr (121, 0, 0))] σ) := by
  unfold F_Law_bringBack
  refine ox_R_of (Y := ox_ev m_Law_bringBack (ox_zz ox_ms (n + 7)) 0 2 tl [.inr (.inr (0, 0, 0)), .inr (.inr (121, 0, 0)), ox_d] [] σ) rfl ?_
  refine ox_R_to 4 (Y := ox_back m_Law_bringBack 3 1 [.inl (0), .inr (.inr (121, 0, 0))] ((ox_zz ox_ms (n + 7)) 17 tl [.inr (.inr (0, 0, 0))] σ) (fun pc9 x9 st9 σ9 => ox_ev m_Law_bringBack (ox_zz ox_ms (n + 7)) pc9 0 tl (ox_kl (m_Law_bringBack.2.2.1 pc9) (ox_xl x9 [.inr (.inr (0, 0, 0)), .inr (.inr (121, 0, 0)), ox_d])) st9 σ9)) rfl ?_
  refine ox_R_call (fc := (fun r : (Nat ⊕ Int) × ox_H => (((Sum.elim (fun e : Nat => (.inr e : Option ox_V ⊕ Nat)) (fun v : Int => .inl (some (.inl v))) r.1), r.2) : ox_O))) (L_Out_bringBack σ (n + 0) tl) (fun r1 => ?_)
  rcases r1 with ⟨e3 | x2, r19⟩
  · by_cases hc3 : e3 = 3
    · subst hc3
      refine ox_R_of (Y := ox_ev m_Law_bringBack (ox_zz ox_ms (n + 7)) 12 0 tl [.inr (.inr (0, 0, 0)), .inr (.inr (121, 0, 0)), ox_d] [] r19) rfl ?_
      refine ox_R_to 2 (Y := some (.inl (some (.inl (1))), r19)) rfl ?_
      exact ox_R_ret rfl
    simp only [hc3, if_false]; exact ox_R_none
  · refine ox_R_of (Y := ox_ev m_Law_bringBack (ox_zz ox_ms (n + 7)) 6 0 tl [.inr (.inr (0, 0, 0)), .inr (.inr (121, 0, 0)), ox_d] [.inl (x2), .inl (0), .inr (.inr (121, 0, 0))] r19) rfl ?_
    refine ox_R_to 5 (Y := some (.inl (some (.inl (0))), (ox_up r19 21 0 0 0 x2))) rfl ?_
    exact ox_R_ret rfl
def F_Law_today  (a2 : Int) (σ : ox_H) : Option (Int × ox_H) := (F_Out_today a2 σ).bind fun r1 => match r1.1 with | .inl e3 => (if e3 = 2 then (some (1, r1.2)) else none) | .inr x2 => (some (0, (ox_up r1.2 21 0 0 0 x2)))
theorem L_Law_today  (a2 : Int) (σ : ox_H) (n tl : Nat) : ox_R (fun r => some ((fun r : Int × ox_H => ((.inl (some (.inl r.1)), r.2) : ox_O)) r)) (F_Law_today a2 σ) (ox_zz ox_ms (n + 3) 251 tl [.inr (.inr (0, 0, 0)), .inl (a2), .inr (.inr (121, 0, 0))] σ) := by
  unfold F_Law_today
  refine ox_R_of (Y := ox_ev m_Law_today (ox_zz ox_ms (n + 2)) 0 1 tl [.inr (.inr (0, 0, 0)), .inl (a2), .inr (.inr (121, 0, 0)), ox_d] [] σ) rfl ?_
  refine ox_R_to 5 (Y := ox_back m_Law_today 4 1 [.inl (0), .inr (.inr (121, 0, 0))] ((ox_zz ox_ms (n + 2)) 26 tl [.inr (.inr (0, 0, 0)), .inl (a2)] σ) (fun pc9 x9 st9 σ9 => ox_ev m_Law_today (ox_zz ox_ms (n + 2)) pc9 0 tl (ox_kl (m_Law_today.2.2.1 pc9) (ox_xl x9 [.inr (.inr (0, 0, 0)), .inl (a2), .inr (.inr (121, 0, 0)), ox_d])) st9 σ9)) rfl ?_
  refine ox_R_call (fc := (fun r : (Nat ⊕ Int) × ox_H => (((Sum.elim (fun e : Nat => (.inr e : Option ox_V ⊕ Nat)) (fun v : Int => .inl (some (.inl v))) r.1), r.2) : ox_O))) (L_Out_today a2 σ (n + 0) tl) (fun r1 => ?_)
  rcases r1 with ⟨e3 | x2, r19⟩
  · by_cases hc2 : e3 = 2
    · subst hc2
      refine ox_R_of (Y := ox_ev m_Law_today (ox_zz ox_ms (n + 2)) 13 0 tl [.inr (.inr (0, 0, 0)), .inl (a2), .inr (.inr (121, 0, 0)), ox_d] [] r19) rfl ?_
      refine ox_R_to 2 (Y := some (.inl (some (.inl (1))), r19)) rfl ?_
      exact ox_R_ret rfl
    simp only [hc2, if_false]; exact ox_R_none
  · refine ox_R_of (Y := ox_ev m_Law_today (ox_zz ox_ms (n + 2)) 7 0 tl [.inr (.inr (0, 0, 0)), .inl (a2), .inr (.inr (121, 0, 0)), ox_d] [.inl (x2), .inl (0), .inr (.inr (121, 0, 0))] r19) rfl ?_
    refine ox_R_to 5 (Y := some (.inl (some (.inl (0))), (ox_up r19 21 0 0 0 x2))) rfl ?_
    exact ox_R_ret rfl
def F_Law_agenda  (a2 : Int) (a3 : Int) (a4 : Int) (a5 : Int) (σ : ox_H) : Option (Int × ox_H) := (F_Out_agenda a2 a3 a4 a5 σ).bind fun r1 => match r1.1 with | .inl e3 => (if e3 = 1 then (some (1, r1.2)) else if e3 = 2 then (some (2, r1.2)) else none) | .inr x2 => (some (0, (ox_up r1.2 21 0 0 0 x2)))
theorem L_Law_agenda  (a2 : Int) (a3 : Int) (a4 : Int) (a5 : Int) (σ : ox_H) (n tl : Nat) : ox_R (fun r => some ((fun r : Int × ox_H => ((.inl (some (.inl r.1)), r.2) : ox_O)) r)) (F_Law_agenda a2 a3 a4 a5 σ) (ox_zz ox_ms (n + 8) 252 tl [.inr (.inr (0, 0, 0)), .inl (a2), .inl (a3), .inl (a4), .inl (a5), .inr (.inr (121, 0, 0))] σ) := by
  unfold F_Law_agenda
  refine ox_R_of (Y := ox_ev m_Law_agenda (ox_zz ox_ms (n + 7)) 0 4 tl [.inr (.inr (0, 0, 0)), .inl (a2), .inl (a3), .inl (a4), .inl (a5), .inr (.inr (121, 0, 0)), ox_d] [] σ) rfl ?_
  refine ox_R_to 8 (Y := ox_back m_Law_agenda 9 1 [.inl (0), .inr (.inr (121, 0, 0))] ((ox_zz ox_ms (n + 7)) 27 tl [.inr (.inr (0, 0, 0)), .inl (a2), .inl (a3), .inl (a4), .inl (a5)] σ) (fun pc9 x9 st9 σ9 => ox_ev m_Law_agenda (ox_zz ox_ms (n + 7)) pc9 0 tl (ox_kl (m_Law_agenda.2.2.1 pc9) (ox_xl x9 [.inr (.inr (0, 0, 0)), .inl (a2), .inl (a3), .inl (a4), .inl (a5), .inr (.inr (121, 0, 0)), ox_d])) st9 σ9)) rfl ?_
  refine ox_R_call (fc := (fun r : (Nat ⊕ Int) × ox_H => (((Sum.elim (fun e : Nat => (.inr e : Option ox_V ⊕ Nat)) (fun v : Int => .inl (some (.inl v))) r.1), r.2) : ox_O))) (L_Out_agenda a2 a3 a4 a5 σ (n + 0) tl) (fun r1 => ?_)
  rcases r1 with ⟨e3 | x2, r19⟩
  · by_cases hc1 : e3 = 1
    · subst hc1
      refine ox_R_of (Y := ox_ev m_Law_agenda (ox_zz ox_ms (n + 7)) 19 0 tl [.inr (.inr (0, 0, 0)), .inl (a2), .inl (a3), .inl (a4), .inl (a5), .inr (.inr (121, 0, 0)), ox_d] [] r19) rfl ?_
      refine ox_R_to 2 (Y := some (.inl (some (.inl (1))), r19)) rfl ?_
      exact ox_R_ret rfl
    by_cases hc2 : e3 = 2
    · subst hc2
      refine ox_R_of (Y := ox_ev m_Law_agenda (ox_zz ox_ms (n + 7)) 23 0 tl [.inr (.inr (0, 0, 0)), .inl (a2), .inl (a3), .inl (a4), .inl (a5), .inr (.inr (121, 0, 0)), ox_d] [] r19) rfl ?_
      refine ox_R_to 2 (Y := some (.inl (some (.inl (2))), r19)) rfl ?_
      exact ox_R_ret rfl
    simp only [hc1, hc2, if_false]; exact ox_R_none
  · refine ox_R_of (Y := ox_ev m_Law_agenda (ox_zz ox_ms (n + 7)) 12 0 tl [.inr (.inr (0, 0, 0)), .inl (a2), .inl (a3), .inl (a4), .inl (a5), .inr (.inr (121, 0, 0)), ox_d] [.inl (x2), .inl (0), .inr (.inr (121, 0, 0))] r19) rfl ?_
    refine ox_R_to 5 (Y := some (.inl (some (.inl (0))), (ox_up r19 21 0 0 0 x2))) rfl ?_
    exact ox_R_ret rfl
def F_Law_pass  (a2 : Int) (σ : ox_H) : Option (Int × ox_H) := (F_Out_pass a2 σ).bind fun r1 => match r1.1 with | .inl e3 => (if e3 = 2 then (some (1, r1.2)) else if e3 = 3 then (some (2, r1.2)) else none) | .inr x2 => (some (0, (ox_up r1.2 21 0 0 0 x2)))
theorem L_Law_pass  (a2 : Int) (σ : ox_H) (n tl : Nat) : ox_R (fun r => some ((fun r : Int × ox_H => ((.inl (some (.inl r.1)), r.2) : ox_O)) r)) (F_Law_pass a2 σ) (ox_zz ox_ms (n + 2) 253 tl [.inr (.inr (0, 0, 0)), .inl (a2), .inr (.inr (121, 0, 0))] σ) := by
  unfold F_Law_pass
  refine ox_R_of (Y := ox_ev m_Law_pass (ox_zz ox_ms (n + 1)) 0 1 tl [.inr (.inr (0, 0, 0)), .inl (a2), .inr (.inr (121, 0, 0)), ox_d] [] σ) rfl ?_
  refine ox_R_to 5 (Y := ox_back m_Law_pass 4 1 [.inl (0), .inr (.inr (121, 0, 0))] ((ox_zz ox_ms (n + 1)) 28 tl [.inr (.inr (0, 0, 0)), .inl (a2)] σ) (fun pc9 x9 st9 σ9 => ox_ev m_Law_pass (ox_zz ox_ms (n + 1)) pc9 0 tl (ox_kl (m_Law_pass.2.2.1 pc9) (ox_xl x9 [.inr (.inr (0, 0, 0)), .inl (a2), .inr (.inr (121, 0, 0)), ox_d])) st9 σ9)) rfl ?_
  refine ox_R_call (fc := (fun r : (Nat ⊕ Int) × ox_H => (((Sum.elim (fun e : Nat => (.inr e : Option ox_V ⊕ Nat)) (fun v : Int => .inl (some (.inl v))) r.1), r.2) : ox_O))) (L_Out_pass a2 σ (n + 0) tl) (fun r1 => ?_)
  rcases r1 with ⟨e3 | x2, r19⟩
  · by_cases hc2 : e3 = 2
    · subst hc2
      refine ox_R_of (Y := ox_ev m_Law_pass (ox_zz ox_ms (n + 1)) 13 0 tl [.inr (.inr (0, 0, 0)), .inl (a2), .inr (.inr (121, 0, 0)), ox_d] [] r19) rfl ?_
      refine ox_R_to 2 (Y := some (.inl (some (.inl (1))), r19)) rfl ?_
      exact ox_R_ret rfl
    by_cases hc3 : e3 = 3
    · subst hc3
      refine ox_R_of (Y := ox_ev m_Law_pass (ox_zz ox_ms (n + 1)) 16 0 tl [.inr (.inr (0, 0, 0)), .inl (a2), .inr (.inr (121, 0, 0)), ox_d] [] r19) rfl ?_
      refine ox_R_to 2 (Y := some (.inl (some (.inl (2))), r19)) rfl ?_
      exact ox_R_ret rfl
    simp only [hc2, hc3, if_false]; exact ox_R_none
  · refine ox_R_of (Y := ox_ev m_Law_pass (ox_zz ox_ms (n + 1)) 7 0 tl [.inr (.inr (0, 0, 0)), .inl (a2), .inr (.inr (121, 0, 0)), ox_d] [.inl (x2), .inl (0), .inr (.inr (121, 0, 0))] r19) rfl ?_
    refine ox_R_to 5 (Y := some (.inl (some (.inl (0))), (ox_up r19 21 0 0 0 x2))) rfl ?_
    exact ox_R_ret rfl
def F_Law_clockIn  (a2 : Int) (σ : ox_H) : Option (Int × ox_H) := (F_Out_clockIn a2 σ).bind fun r1 => match r1.1 with | .inl e3 => (if e3 = 1 then (some (1, r1.2)) else if e3 = 3 then (some (2, r1.2)) else none) | .inr x2 => (some (0, (ox_up r1.2 21 0 0 0 x2)))
theorem L_Law_clockIn  (a2 : Int) (σ : ox_H) (n tl : Nat) : ox_R (fun r => some ((fun r : Int × ox_H => ((.inl (some (.inl r.1)), r.2) : ox_O)) r)) (F_Law_clockIn a2 σ) (ox_zz ox_ms (n + 8) 254 tl [.inr (.inr (0, 0, 0)), .inl (a2), .inr (.inr (121, 0, 0))] σ) := by
  unfold F_Law_clockIn
  refine ox_R_of (Y := ox_ev m_Law_clockIn (ox_zz ox_ms (n + 7)) 0 2 tl [.inr (.inr (0, 0, 0)), .inl (a2), .inr (.inr (121, 0, 0)), ox_d] [] σ) rfl ?_
  refine ox_R_to 5 (Y := ox_back m_Law_clockIn 4 1 [.inl (0), .inr (.inr (121, 0, 0))] ((ox_zz ox_ms (n + 7)) 29 tl [.inr (.inr (0, 0, 0)), .inl (a2)] σ) (fun pc9 x9 st9 σ9 => ox_ev m_Law_clockIn (ox_zz ox_ms (n + 7)) pc9 0 tl (ox_kl (m_Law_clockIn.2.2.1 pc9) (ox_xl x9 [.inr (.inr (0, 0, 0)), .inl (a2), .inr (.inr (121, 0, 0)), ox_d])) st9 σ9)) rfl ?_
  refine ox_R_call (fc := (fun r : (Nat ⊕ Int) × ox_H => (((Sum.elim (fun e : Nat => (.inr e : Option ox_V ⊕ Nat)) (fun v : Int => .inl (some (.inl v))) r.1), r.2) : ox_O))) (L_Out_clockIn a2 σ (n + 0) tl) (fun r1 => ?_)
  rcases r1 with ⟨e3 | x2, r19⟩
  · by_cases hc1 : e3 = 1
    · subst hc1
      refine ox_R_of (Y := ox_ev m_Law_clockIn (ox_zz ox_ms (n + 7)) 13 0 tl [.inr (.inr (0, 0, 0)), .inl (a2), .inr (.inr (121, 0, 0)), ox_d] [] r19) rfl ?_
      refine ox_R_to 2 (Y := some (.inl (some (.inl (1))), r19)) rfl ?_
      exact ox_R_ret rfl
    by_cases hc3 : e3 = 3
    · subst hc3
      refine ox_R_of (Y := ox_ev m_Law_clockIn (ox_zz ox_ms (n + 7)) 16 0 tl [.inr (.inr (0, 0, 0)), .inl (a2), .inr (.inr (121, 0, 0)), ox_d] [] r19) rfl ?_
      refine ox_R_to 2 (Y := some (.inl (some (.inl (2))), r19)) rfl ?_
      exact ox_R_ret rfl
    simp only [hc1, hc3, if_false]; exact ox_R_none
  · refine ox_R_of (Y := ox_ev m_Law_clockIn (ox_zz ox_ms (n + 7)) 7 0 tl [.inr (.inr (0, 0, 0)), .inl (a2), .inr (.inr (121, 0, 0)), ox_d] [.inl (x2), .inl (0), .inr (.inr (121, 0, 0))] r19) rfl ?_
    refine ox_R_to 5 (Y := some (.inl (some (.inl (0))), (ox_up r19 21 0 0 0 x2))) rfl ?_
    exact ox_R_ret rfl
def F_Law_clockOut  (a2 : Int) (σ : ox_H) : Option (Int × ox_H) := (F_Out_clockOut a2 σ).bind fun r1 => match r1.1 with | .inl e3 => (if e3 = 2 then (some (1, r1.2)) else none) | .inr x2 => (some (0, (ox_up r1.2 21 0 0 0 x2)))
theorem L_Law_clockOut  (a2 : Int) (σ : ox_H) (n tl : Nat) : ox_R (fun r => some ((fun r : Int × ox_H => ((.inl (some (.inl r.1)), r.2) : ox_O)) r)) (F_Law_clockOut a2 σ) (ox_zz ox_ms (n + 8) 255 tl [.inr (.inr (0, 0, 0)), .inl (a2), .inr (.inr (121, 0, 0))] σ) := by
  unfold F_Law_clockOut
  refine ox_R_of (Y := ox_ev m_Law_clockOut (ox_zz ox_ms (n + 7)) 0 1 tl [.inr (.inr (0, 0, 0)), .inl (a2), .inr (.inr (121, 0, 0)), ox_d] [] σ) rfl ?_
  refine ox_R_to 5 (Y := ox_back m_Law_clockOut 4 1 [.inl (0), .inr (.inr (121, 0, 0))] ((ox_zz ox_ms (n + 7)) 30 tl [.inr (.inr (0, 0, 0)), .inl (a2)] σ) (fun pc9 x9 st9 σ9 => ox_ev m_Law_clockOut (ox_zz ox_ms (n + 7)) pc9 0 tl (ox_kl (m_Law_clockOut.2.2.1 pc9) (ox_xl x9 [.inr (.inr (0, 0, 0)), .inl (a2), .inr (.inr (121, 0, 0)), ox_d])) st9 σ9)) rfl ?_
  refine ox_R_call (fc := (fun r : (Nat ⊕ Int) × ox_H => (((Sum.elim (fun e : Nat => (.inr e : Option ox_V ⊕ Nat)) (fun v : Int => .inl (some (.inl v))) r.1), r.2) : ox_O))) (L_Out_clockOut a2 σ (n + 0) tl) (fun r1 => ?_)
  rcases r1 with ⟨e3 | x2, r19⟩
  · by_cases hc2 : e3 = 2
    · subst hc2
      refine ox_R_of (Y := ox_ev m_Law_clockOut (ox_zz ox_ms (n + 7)) 13 0 tl [.inr (.inr (0, 0, 0)), .inl (a2), .inr (.inr (121, 0, 0)), ox_d] [] r19) rfl ?_
      refine ox_R_to 2 (Y := some (.inl (some (.inl (1))), r19)) rfl ?_
      exact ox_R_ret rfl
    simp only [hc2, if_false]; exact ox_R_none
  · refine ox_R_of (Y := ox_ev m_Law_clockOut (ox_zz ox_ms (n + 7)) 7 0 tl [.inr (.inr (0, 0, 0)), .inl (a2), .inr (.inr (121, 0, 0)), ox_d] [.inl (x2), .inl (0), .inr (.inr (121, 0, 0))] r19) rfl ?_
    refine ox_R_to 5 (Y := some (.inl (some (.inl (0))), (ox_up r19 21 0 0 0 x2))) rfl ?_
    exact ox_R_ret rfl
def F_Law_clocked  (a2 : Int) (σ : ox_H) : Option (Int × ox_H) := (F_Out_clocked a2 σ).bind fun r1 => match r1.1 with | .inl e3 => (if e3 = 1 then (some (1, r1.2)) else none) | .inr x2 => (some (0, (ox_up r1.2 21 0 0 0 x2)))
theorem L_Law_clocked  (a2 : Int) (σ : ox_H) (n tl : Nat) : ox_R (fun r => some ((fun r : Int × ox_H => ((.inl (some (.inl r.1)), r.2) : ox_O)) r)) (F_Law_clocked a2 σ) (ox_zz ox_ms (n + 8) 256 tl [.inr (.inr (0, 0, 0)), .inl (a2), .inr (.inr (121, 0, 0))] σ) := by
  unfold F_Law_clocked
  refine ox_R_of (Y := ox_ev m_Law_clocked (ox_zz ox_ms (n + 7)) 0 1 tl [.inr (.inr (0, 0, 0)), .inl (a2), .inr (.inr (121, 0, 0)), ox_d] [] σ) rfl ?_
  refine ox_R_to 5 (Y := ox_back m_Law_clocked 4 1 [.inl (0), .inr (.inr (121, 0, 0))] ((ox_zz ox_ms (n + 7)) 31 tl [.inr (.inr (0, 0, 0)), .inl (a2)] σ) (fun pc9 x9 st9 σ9 => ox_ev m_Law_clocked (ox_zz ox_ms (n + 7)) pc9 0 tl (ox_kl (m_Law_clocked.2.2.1 pc9) (ox_xl x9 [.inr (.inr (0, 0, 0)), .inl (a2), .inr (.inr (121, 0, 0)), ox_d])) st9 σ9)) rfl ?_
  refine ox_R_call (fc := (fun r : (Nat ⊕ Int) × ox_H => (((Sum.elim (fun e : Nat => (.inr e : Option ox_V ⊕ Nat)) (fun v : Int => .inl (some (.inl v))) r.1), r.2) : ox_O))) (L_Out_clocked a2 σ (n + 0) tl) (fun r1 => ?_)
  rcases r1 with ⟨e3 | x2, r19⟩
  · by_cases hc1 : e3 = 1
    · subst hc1
      refine ox_R_of (Y := ox_ev m_Law_clocked (ox_zz ox_ms (n + 7)) 13 0 tl [.inr (.inr (0, 0, 0)), .inl (a2), .inr (.inr (121, 0, 0)), ox_d] [] r19) rfl ?_
      refine ox_R_to 2 (Y := some (.inl (some (.inl (1))), r19)) rfl ?_
      exact ox_R_ret rfl
    simp only [hc1, if_false]; exact ox_R_none
  · refine ox_R_of (Y := ox_ev m_Law_clocked (ox_zz ox_ms (n + 7)) 7 0 tl [.inr (.inr (0, 0, 0)), .inl (a2), .inr (.inr (121, 0, 0)), ox_d] [.inl (x2), .inl (0), .inr (.inr (121, 0, 0))] r19) rfl ?_
    refine ox_R_to 5 (Y := some (.inl (some (.inl (0))), (ox_up r19 21 0 0 0 x2))) rfl ?_
    exact ox_R_ret rfl
def F_Law_cell  (a2 : Int) (a3 : Int) (a4 : Int) (a5 : Int) (σ : ox_H) : Option (Int × ox_H) := (F_Out_cell a2 a3 a4 a5 σ).bind fun r1 => match r1.1 with | .inl e3 => (if e3 = 1 then (some (1, r1.2)) else none) | .inr x2 => (some (0, (ox_up r1.2 21 0 0 0 x2)))
theorem L_Law_cell  (a2 : Int) (a3 : Int) (a4 : Int) (a5 : Int) (σ : ox_H) (n tl : Nat) : ox_R (fun r => some ((fun r : Int × ox_H => ((.inl (some (.inl r.1)), r.2) : ox_O)) r)) (F_Law_cell a2 a3 a4 a5 σ) (ox_zz ox_ms (n + 8) 257 tl [.inr (.inr (0, 0, 0)), .inl (a2), .inl (a3), .inl (a4), .inl (a5), .inr (.inr (121, 0, 0))] σ) := by
  unfold F_Law_cell
  refine ox_R_of (Y := ox_ev m_Law_cell (ox_zz ox_ms (n + 7)) 0 2 tl [.inr (.inr (0, 0, 0)), .inl (a2), .inl (a3), .inl (a4), .inl (a5), .inr (.inr (121, 0, 0)), ox_d] [] σ) rfl ?_
  refine ox_R_to 8 (Y := ox_back m_Law_cell 9 1 [.inl (0), .inr (.inr (121, 0, 0))] ((ox_zz ox_ms (n + 7)) 35 tl [.inr (.inr (0, 0, 0)), .inl (a2), .inl (a3), .inl (a4), .inl (a5)] σ) (fun pc9 x9 st9 σ9 => ox_ev m_Law_cell (ox_zz ox_ms (n + 7)) pc9 0 tl (ox_kl (m_Law_cell.2.2.1 pc9) (ox_xl x9 [.inr (.inr (0, 0, 0)), .inl (a2), .inl (a3), .inl (a4), .inl (a5), .inr (.inr (121, 0, 0)), ox_d])) st9 σ9)) rfl ?_
  refine ox_R_call (fc := (fun r : (Nat ⊕ Int) × ox_H => (((Sum.elim (fun e : Nat => (.inr e : Option ox_V ⊕ Nat)) (fun v : Int => .inl (some (.inl v))) r.1), r.2) : ox_O))) (L_Out_cell a2 a3 a4 a5 σ (n + 0) tl) (fun r1 => ?_)
  rcases r1 with ⟨e3 | x2, r19⟩
  · by_cases hc1 : e3 = 1
    · subst hc1
      refine ox_R_of (Y := ox_ev m_Law_cell (ox_zz ox_ms (n + 7)) 19 0 tl [.inr (.inr (0, 0, 0)), .inl (a2), .inl (a3), .inl (a4), .inl (a5), .inr (.inr (121, 0, 0)), ox_d] [] r19) rfl ?_
      refine ox_R_to 2 (Y := some (.inl (some (.inl (1))), r19)) rfl ?_
      exact ox_R_ret rfl
    simp only [hc1, if_false]; exact ox_R_none
  · refine ox_R_of (Y := ox_ev m_Law_cell (ox_zz ox_ms (n + 7)) 12 0 tl [.inr (.inr (0, 0, 0)), .inl (a2), .inl (a3), .inl (a4), .inl (a5), .inr (.inr (121, 0, 0)), ox_d] [.inl (x2), .inl (0), .inr (.inr (121, 0, 0))] r19) rfl ?_
    refine ox_R_to 5 (Y := some (.inl (some (.inl (0))), (ox_up r19 21 0 0 0 x2))) rfl ?_
    exact ox_R_ret rfl
def F_Law_run  (a2 : Int) (σ : ox_H) : Option (Int × ox_H) := (F_Out_run a2 σ).bind fun r1 => match r1.1 with | .inl e3 => (if e3 = 2 then (some (1, r1.2)) else none) | .inr x2 => (some (0, (ox_up r1.2 21 0 0 0 x2)))
theorem L_Law_run  (a2 : Int) (σ : ox_H) (n tl : Nat) : ox_R (fun r => some ((fun r : Int × ox_H => ((.inl (some (.inl r.1)), r.2) : ox_O)) r)) (F_Law_run a2 σ) (ox_zz ox_ms (n + 8) 258 tl [.inr (.inr (0, 0, 0)), .inl (a2), .inr (.inr (121, 0, 0))] σ) := by
  unfold F_Law_run
  refine ox_R_of (Y := ox_ev m_Law_run (ox_zz ox_ms (n + 7)) 0 1 tl [.inr (.inr (0, 0, 0)), .inl (a2), .inr (.inr (121, 0, 0)), ox_d] [] σ) rfl ?_
  refine ox_R_to 5 (Y := ox_back m_Law_run 4 1 [.inl (0), .inr (.inr (121, 0, 0))] ((ox_zz ox_ms (n + 7)) 36 tl [.inr (.inr (0, 0, 0)), .inl (a2)] σ) (fun pc9 x9 st9 σ9 => ox_ev m_Law_run (ox_zz ox_ms (n + 7)) pc9 0 tl (ox_kl (m_Law_run.2.2.1 pc9) (ox_xl x9 [.inr (.inr (0, 0, 0)), .inl (a2), .inr (.inr (121, 0, 0)), ox_d])) st9 σ9)) rfl ?_
  refine ox_R_call (fc := (fun r : (Nat ⊕ Int) × ox_H => (((Sum.elim (fun e : Nat => (.inr e : Option ox_V ⊕ Nat)) (fun v : Int => .inl (some (.inl v))) r.1), r.2) : ox_O))) (L_Out_run a2 σ (n + 0) tl) (fun r1 => ?_)
  rcases r1 with ⟨e3 | x2, r19⟩
  · by_cases hc2 : e3 = 2
    · subst hc2
      refine ox_R_of (Y := ox_ev m_Law_run (ox_zz ox_ms (n + 7)) 13 0 tl [.inr (.inr (0, 0, 0)), .inl (a2), .inr (.inr (121, 0, 0)), ox_d] [] r19) rfl ?_
      refine ox_R_to 2 (Y := some (.inl (some (.inl (1))), r19)) rfl ?_
      exact ox_R_ret rfl
    simp only [hc2, if_false]; exact ox_R_none
  · refine ox_R_of (Y := ox_ev m_Law_run (ox_zz ox_ms (n + 7)) 7 0 tl [.inr (.inr (0, 0, 0)), .inl (a2), .inr (.inr (121, 0, 0)), ox_d] [.inl (x2), .inl (0), .inr (.inr (121, 0, 0))] r19) rfl ?_
    refine ox_R_to 5 (Y := some (.inl (some (.inl (0))), (ox_up r19 21 0 0 0 x2))) rfl ?_
    exact ox_R_ret rfl
def F_Law_link  (a2 : Int) (a3 : Int) (σ : ox_H) : Option (Int × ox_H) := (F_Out_link a2 a3 σ).bind fun r1 => match r1.1 with | .inl e3 => (if e3 = 1 then (some (1, r1.2)) else none) | .inr x2 => (some (0, (ox_up r1.2 21 0 0 0 x2)))
theorem L_Law_link  (a2 : Int) (a3 : Int) (σ : ox_H) (n tl : Nat) : ox_R (fun r => some ((fun r : Int × ox_H => ((.inl (some (.inl r.1)), r.2) : ox_O)) r)) (F_Law_link a2 a3 σ) (ox_zz ox_ms (n + 8) 259 tl [.inr (.inr (0, 0, 0)), .inl (a2), .inl (a3), .inr (.inr (121, 0, 0))] σ) := by
  unfold F_Law_link
  refine ox_R_of (Y := ox_ev m_Law_link (ox_zz ox_ms (n + 7)) 0 2 tl [.inr (.inr (0, 0, 0)), .inl (a2), .inl (a3), .inr (.inr (121, 0, 0)), ox_d] [] σ) rfl ?_
  refine ox_R_to 6 (Y := ox_back m_Law_link 5 1 [.inl (0), .inr (.inr (121, 0, 0))] ((ox_zz ox_ms (n + 7)) 38 tl [.inr (.inr (0, 0, 0)), .inl (a2), .inl (a3)] σ) (fun pc9 x9 st9 σ9 => ox_ev m_Law_link (ox_zz ox_ms (n + 7)) pc9 0 tl (ox_kl (m_Law_link.2.2.1 pc9) (ox_xl x9 [.inr (.inr (0, 0, 0)), .inl (a2), .inl (a3), .inr (.inr (121, 0, 0)), ox_d])) st9 σ9)) rfl ?_
  refine ox_R_call (fc := (fun r : (Nat ⊕ Int) × ox_H => (((Sum.elim (fun e : Nat => (.inr e : Option ox_V ⊕ Nat)) (fun v : Int => .inl (some (.inl v))) r.1), r.2) : ox_O))) (L_Out_link a2 a3 σ (n + 0) tl) (fun r1 => ?_)
  rcases r1 with ⟨e3 | x2, r19⟩
  · by_cases hc1 : e3 = 1
    · subst hc1
      refine ox_R_of (Y := ox_ev m_Law_link (ox_zz ox_ms (n + 7)) 15 0 tl [.inr (.inr (0, 0, 0)), .inl (a2), .inl (a3), .inr (.inr (121, 0, 0)), ox_d] [] r19) rfl ?_
      refine ox_R_to 2 (Y := some (.inl (some (.inl (1))), r19)) rfl ?_
      exact ox_R_ret rfl
    simp only [hc1, if_false]; exact ox_R_none
  · refine ox_R_of (Y := ox_ev m_Law_link (ox_zz ox_ms (n + 7)) 8 0 tl [.inr (.inr (0, 0, 0)), .inl (a2), .inl (a3), .inr (.inr (121, 0, 0)), ox_d] [.inl (x2), .inl (0), .inr (.inr (121, 0, 0))] r19) rfl ?_
    refine ox_R_to 5 (Y := some (.inl (some (.inl (0))), (ox_up r19 21 0 0 0 x2))) rfl ?_
    exact ox_R_ret rfl
def F_Law_exportedAt  (a2 : Int) (a3 : Int) (σ : ox_H) : Option (Int × ox_H) := (F_Out_exportedAt a2 a3 σ).bind fun r1 => match r1.1 with | .inl e3 => (if e3 = 1 then (some (1, r1.2)) else none) | .inr x2 => (some (0, (ox_up r1.2 21 0 0 0 x2)))
theorem L_Law_exportedAt  (a2 : Int) (a3 : Int) (σ : ox_H) (n tl : Nat) : ox_R (fun r => some ((fun r : Int × ox_H => ((.inl (some (.inl r.1)), r.2) : ox_O)) r)) (F_Law_exportedAt a2 a3 σ) (ox_zz ox_ms (n + 33) 260 tl [.inr (.inr (0, 0, 0)), .inl (a2), .inl (a3), .inr (.inr (121, 0, 0))] σ) := by
  unfold F_Law_exportedAt
  refine ox_R_of (Y := ox_ev m_Law_exportedAt (ox_zz ox_ms (n + 32)) 0 2 tl [.inr (.inr (0, 0, 0)), .inl (a2), .inl (a3), .inr (.inr (121, 0, 0)), ox_d] [] σ) rfl ?_
  refine ox_R_to 6 (Y := ox_back m_Law_exportedAt 5 1 [.inl (0), .inr (.inr (121, 0, 0))] ((ox_zz ox_ms (n + 32)) 41 tl [.inr (.inr (0, 0, 0)), .inl (a2), .inl (a3)] σ) (fun pc9 x9 st9 σ9 => ox_ev m_Law_exportedAt (ox_zz ox_ms (n + 32)) pc9 0 tl (ox_kl (m_Law_exportedAt.2.2.1 pc9) (ox_xl x9 [.inr (.inr (0, 0, 0)), .inl (a2), .inl (a3), .inr (.inr (121, 0, 0)), ox_d])) st9 σ9)) rfl ?_
  refine ox_R_call (fc := (fun r : (Nat ⊕ Int) × ox_H => (((Sum.elim (fun e : Nat => (.inr e : Option ox_V ⊕ Nat)) (fun v : Int => .inl (some (.inl v))) r.1), r.2) : ox_O))) (L_Out_exportedAt a2 a3 σ (n + 0) tl) (fun r1 => ?_)
  rcases r1 with ⟨e3 | x2, r19⟩
  · by_cases hc1 : e3 = 1
    · subst hc1
      refine ox_R_of (Y := ox_ev m_Law_exportedAt (ox_zz ox_ms (n + 32)) 15 0 tl [.inr (.inr (0, 0, 0)), .inl (a2), .inl (a3), .inr (.inr (121, 0, 0)), ox_d] [] r19) rfl ?_
      refine ox_R_to 2 (Y := some (.inl (some (.inl (1))), r19)) rfl ?_
      exact ox_R_ret rfl
    simp only [hc1, if_false]; exact ox_R_none
  · refine ox_R_of (Y := ox_ev m_Law_exportedAt (ox_zz ox_ms (n + 32)) 8 0 tl [.inr (.inr (0, 0, 0)), .inl (a2), .inl (a3), .inr (.inr (121, 0, 0)), ox_d] [.inl (x2), .inl (0), .inr (.inr (121, 0, 0))] r19) rfl ?_
    refine ox_R_to 5 (Y := some (.inl (some (.inl (0))), (ox_up r19 21 0 0 0 x2))) rfl ?_
    exact ox_R_ret rfl
